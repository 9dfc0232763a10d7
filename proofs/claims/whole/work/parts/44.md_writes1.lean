/-! MODULE Model: what writes, one -/
theorem d_Md_object_0 : decode prog_10_method_9_code 0 = .ok (.aload_n 0, 1) := by decide +kernel
theorem d_Md_object_1 : decode prog_10_method_9_code 1 = .ok (.iload_n 1, 1) := by decide +kernel
theorem d_Md_object_2 : decode prog_10_method_9_code 2 = .ok (.iconst 0, 1) := by decide +kernel
theorem d_Md_object_3 : decode prog_10_method_9_code 3 = .ok (.iconst 5, 1) := by decide +kernel
theorem d_Md_object_4 : decode prog_10_method_9_code 4 = .ok (.invokestatic 92, 3) := by decide +kernel
theorem d_Md_object_7 : decode prog_10_method_9_code 7 = .ok (.aload_n 0, 1) := by decide +kernel
theorem d_Md_object_8 : decode prog_10_method_9_code 8 = .ok (.getfield 86, 3) := by decide +kernel
theorem d_Md_object_11 : decode prog_10_method_9_code 11 = .ok (.bipush 12, 2) := by decide +kernel
theorem d_Md_object_13 : decode prog_10_method_9_code 13 = .ok (.if_icmp .ge 7, 3) := by decide +kernel
theorem d_Md_object_16 : decode prog_10_method_9_code 16 = .ok (.iconst 1, 1) := by decide +kernel
theorem d_Md_object_17 : decode prog_10_method_9_code 17 = .ok (.goto 4, 3) := by decide +kernel
theorem d_Md_object_20 : decode prog_10_method_9_code 20 = .ok (.iconst 0, 1) := by decide +kernel
theorem d_Md_object_21 : decode prog_10_method_9_code 21 = .ok (.iconst 1, 1) := by decide +kernel
theorem d_Md_object_22 : decode prog_10_method_9_code 22 = .ok (.invokevirtual 96, 3) := by decide +kernel
theorem d_Md_object_25 : decode prog_10_method_9_code 25 = .ok (.ifCond .ne 5, 3) := by decide +kernel
theorem d_Md_object_28 : decode prog_10_method_9_code 28 = .ok (.iconst 0, 1) := by decide +kernel
theorem d_Md_object_29 : decode prog_10_method_9_code 29 = .ok (.ireturn, 1) := by decide +kernel
theorem d_Md_object_30 : decode prog_10_method_9_code 30 = .ok (.aload_n 0, 1) := by decide +kernel
theorem d_Md_object_31 : decode prog_10_method_9_code 31 = .ok (.getfield 7, 3) := by decide +kernel
theorem d_Md_object_34 : decode prog_10_method_9_code 34 = .ok (.aload_n 0, 1) := by decide +kernel
theorem d_Md_object_35 : decode prog_10_method_9_code 35 = .ok (.getfield 86, 3) := by decide +kernel
theorem d_Md_object_38 : decode prog_10_method_9_code 38 = .ok (.iload_n 1, 1) := by decide +kernel
theorem d_Md_object_39 : decode prog_10_method_9_code 39 = .ok (.iastore, 1) := by decide +kernel
theorem d_Md_object_40 : decode prog_10_method_9_code 40 = .ok (.aload_n 0, 1) := by decide +kernel
theorem d_Md_object_41 : decode prog_10_method_9_code 41 = .ok (.dup, 1) := by decide +kernel
theorem d_Md_object_42 : decode prog_10_method_9_code 42 = .ok (.getfield 86, 3) := by decide +kernel
theorem d_Md_object_45 : decode prog_10_method_9_code 45 = .ok (.iconst 1, 1) := by decide +kernel
theorem d_Md_object_46 : decode prog_10_method_9_code 46 = .ok (.iadd, 1) := by decide +kernel
theorem d_Md_object_47 : decode prog_10_method_9_code 47 = .ok (.putfield 86, 3) := by decide +kernel
theorem d_Md_object_50 : decode prog_10_method_9_code 50 = .ok (.aload_n 0, 1) := by decide +kernel
theorem d_Md_object_51 : decode prog_10_method_9_code 51 = .ok (.iconst 0, 1) := by decide +kernel
theorem d_Md_object_52 : decode prog_10_method_9_code 52 = .ok (.putfield 100, 3) := by decide +kernel
theorem d_Md_object_55 : decode prog_10_method_9_code 55 = .ok (.aload_n 0, 1) := by decide +kernel
theorem d_Md_object_56 : decode prog_10_method_9_code 56 = .ok (.getfield 86, 3) := by decide +kernel
theorem d_Md_object_59 : decode prog_10_method_9_code 59 = .ok (.iconst 1, 1) := by decide +kernel
theorem d_Md_object_60 : decode prog_10_method_9_code 60 = .ok (.isub, 1) := by decide +kernel
theorem d_Md_object_61 : decode prog_10_method_9_code 61 = .ok (.ireturn, 1) := by decide +kernel
def vc_Md_object (th : Int) (no : Int) (ca : Nat → Int) (ba : Nat → Int) (nl : Int) (xa : Nat → Int) (sa : Nat → Int) (da : Nat → Int) (la : Nat → Int) (ra : Nat → Int) (fa : Nat → Int) (ta : Nat → Int) (ua : Nat → Int) (uh : Nat → Int) (uo : Nat → Int) (ma : Nat → Int) (mh : Nat → Int) (ml : Nat → Int) (nf : Int) (fo : Nat → Int) (fh : Nat → Int) (fs : Nat → Int) (rs : Int) (ic : Int) (mn : Int) (bh : Nat → Int) (bo : Nat → Int) (ya : Nat → Int) (np : Int) (pa : Nat → Int) (nc : Int) (cp : Nat → Int) (c_ : Int) (post : Int → Int → (Nat → Int) → Int → Int → Prop) : Prop := (r32 c_) ∧ (((0 ≤ c_ ∧ c_ ≤ 5) → (r32 no) ∧ ((12 ≤ no → post 0 2 ca no ic) ∧ (no < 12 → (0 ≤ no ∧ no < 12) ∧ (post (no + 1 - 1) 0 (va_up ca (no).toNat c_) (no + 1) 0)))) ∧ (¬ (0 ≤ c_ ∧ c_ ≤ 5) → (r32 no) ∧ ((12 ≤ no → post 0 1 ca no ic) ∧ (no < 12 → post 0 1 ca no ic))))
set_option maxHeartbeats 4000000 in
set_option maxRecDepth 100000 in
theorem m_Md_object (l : Launch) (D : va_G) (cI cJ cO cZ : ClassId) (h0 h1 h2 h3 h4 h5 h6 h7 h8 h9 h10 h11 h12 h13 h14 h15 h16 h17 h18 h19 h20 h21 h22 h23 : Nat) (sz : Nat) (th : Int) (no : Int) (ca : Nat → Int) (ba : Nat → Int) (nl : Int) (xa : Nat → Int) (sa : Nat → Int) (da : Nat → Int) (la : Nat → Int) (ra : Nat → Int) (fa : Nat → Int) (ta : Nat → Int) (ua : Nat → Int) (uh : Nat → Int) (uo : Nat → Int) (ma : Nat → Int) (mh : Nat → Int) (ml : Nat → Int) (nf : Int) (fo : Nat → Int) (fh : Nat → Int) (fs : Nat → Int) (rs : Int) (ic : Int) (mn : Int) (bh : Nat → Int) (bo : Nat → Int) (ya : Nat → Int) (np : Int) (pa : Nat → Int) (nc : Int) (cp : Nat → Int) (c_ : Int) (post : Int → Int → (Nat → Int) → Int → Int → Prop) (v : vc_Md_object th no ca ba nl xa sa da la ra fa ta ua uh uo ma mh ml nf fo fh fs rs ic mn bh bo ya np pa nc cp c_ post) : Met l ⟨"LightDosesModel", "object", "(I)I"⟩ (.code ⟨"LightDosesModel", "object", "(I)I"⟩ prog_10_method_9_code 2 (some .int) :: TG) { frames := 1, cells := 0, slots := 0, locals := 23 } (va_Pc [.ref h0, .int (iI c_)] (fun U => U.heap.size = sz ∧ va_P D vwCl (wMd cI cJ cZ h0 h1 h2 h3 h4 h5 h6 h7 h8 h9 h10 h11 h12 h13 h14 h15 h16 h17 h18 h19 h20 h21 h22 h23 th no ca ba nl xa sa da la ra fa ta ua uh uo ma mh ml nf fo fh fs rs ic mn bh bo ya np pa nc cp) U.heap ∧ va_K D vwCl (tyx cI cJ cO cZ) U ∧ va_D (fun _ => True) (wMd cI cJ cZ h0 h1 h2 h3 h4 h5 h6 h7 h8 h9 h10 h11 h12 h13 h14 h15 h16 h17 h18 h19 h20 h21 h22 h23 th no ca ba nl xa sa da la ra fa ta ua uh uo ma mh ml nf fo fh fs rs ic mn bh bo ya np pa nc cp))) (va_Qi (fun (r : Int32) (u : Int × (Nat → Int) × Int × Int) => ∃ z : Int, r = iI z ∧ post z u.1 u.2.1 u.2.2.1 u.2.2.2) (fun u t => va_P D vwCl (wMd cI cJ cZ h0 h1 h2 h3 h4 h5 h6 h7 h8 h9 h10 h11 h12 h13 h14 h15 h16 h17 h18 h19 h20 h21 h22 h23 u.1 u.2.2.1 u.2.1 ba nl xa sa da la ra fa ta ua uh uo ma mh ml nf fo fh fs rs u.2.2.2 mn bh bo ya np pa nc cp) t.heap ∧ va_K D vwCl (tyx cI cJ cO cZ) t ∧ va_D (va_A (wMd cI cJ cZ h0 h1 h2 h3 h4 h5 h6 h7 h8 h9 h10 h11 h12 h13 h14 h15 h16 h17 h18 h19 h20 h21 h22 h23 th no ca ba nl xa sa da la ra fa ta ua uh uo ma mh ml nf fo fh fs rs ic mn bh bo ya np pa nc cp) sz) (wMd cI cJ cZ h0 h1 h2 h3 h4 h5 h6 h7 h8 h9 h10 h11 h12 h13 h14 h15 h16 h17 h18 h19 h20 h21 h22 h23 u.1 u.2.2.1 u.2.1 ba nl xa sa da la ra fa ta ua uh uo ma mh ml nf fo fh fs rs u.2.2.2 mn bh bo ya np pa nc cp)) (va_A (wMd cI cJ cZ h0 h1 h2 h3 h4 h5 h6 h7 h8 h9 h10 h11 h12 h13 h14 h15 h16 h17 h18 h19 h20 h21 h22 h23 th no ca ba nl xa sa da la ra fa ta ua uh uo ma mh ml nf fo fh fs rs ic mn bh bo ya np pa nc cp) sz)) 0 0 (va_A (wMd cI cJ cZ h0 h1 h2 h3 h4 h5 h6 h7 h8 h9 h10 h11 h12 h13 h14 h15 h16 h17 h18 h19 h20 h21 h22 h23 th no ca ba nl xa sa da la ra fa ta ua uh uo ma mh ml nf fo fh fs rs ic mn bh bo ya np pa nc cp) sz) := by
  refine Met.ofW (cc := prog_10_method_9_code) (maxL := 2) (ret := (some .int)) (by decide) rfl ?_
  intro p e s m args below meth c s₁ B hml hv
  obtain ⟨rfl, hsz, hP, hK, hD0⟩ := hv
  have hx := B.exec
  have hb := B.bytes
  have hr := B.returns
  have hts0 := atoms_spec (ws := (.code ⟨"LightDosesModel", "object", "(I)I"⟩ prog_10_method_9_code 2 (some .int) :: TG)) B.pre
  have hts : ∀ w ∈ TG, w.before _ s = true := fun w h => hts0 w (List.mem_cons_of_mem _ h)
  have hown : s.vm.findClass "LightDosesModel" = some m.cls := findClass_of_methodNamed B.named
  have hlocks := B.notSynchronized
  subst hsz
  have hD := hD0.self (sz := s.heap.size)
  generalize hAe : va_A (wMd cI cJ cZ h0 h1 h2 h3 h4 h5 h6 h7 h8 h9 h10 h11 h12 h13 h14 h15 h16 h17 h18 h19 h20 h21 h22 h23 th no ca ba nl xa sa da la ra fa ta ua uh uo ma mh ml nf fo fh fs rs ic mn bh bo ya np pa nc cp) s.heap.size = A at hD ⊢
  have hA : ∀ q : Nat, s.heap.size ≤ q → A q := fun q h => by rw [← hAe]; exact Or.inr h
  have hS : va_S A s.heap s.heap [] := va_S.rf
  have hP : va_P D vwCl (wMd cI cJ cZ h0 h1 h2 h3 h4 h5 h6 h7 h8 h9 h10 h11 h12 h13 h14 h15 h16 h17 h18 h19 h20 h21 h22 h23 th no ca ba nl xa sa da la ra fa ta ua uh uo ma mh ml nf fo fh fs rs ic mn bh bo ya np pa nc cp) s.heap := hP
  have hl := lv_entry ([Value.ref h0, Value.int (iI c_)]) (n := 2) (Nat.le_of_ble_eq_true rfl)
  rw [lg_entry_eq]
  generalize (lg_sl ([Value.ref h0, Value.int (iI c_)]) ++ List.replicate (2 - (lg_sl ([Value.ref h0, Value.int (iI c_)])).length) Slot.unset).toArray = ls at hl ⊢
  have hl : lv_has ls 2 [(0, .ref h0), (1, .int (iI c_))] := hl
  unfold vc_Md_object at v
  obtain ⟨H, hH⟩ : ∃ H, H = s.heap := ⟨_, rfl⟩
  obtain ⟨locs, hlc⟩ : ∃ L : List Loc, L = [] := ⟨_, rfl⟩
  rw [← hlc] at hS ⊢
  have hP : va_P D vwCl (wMd cI cJ cZ h0 h1 h2 h3 h4 h5 h6 h7 h8 h9 h10 h11 h12 h13 h14 h15 h16 h17 h18 h19 h20 h21 h22 h23 th no ca ba nl xa sa da la ra fa ta ua uh uo ma mh ml nf fo fh fs rs ic mn bh bo ya np pa nc cp) H := by rw [hH]; exact hP
  have hS : va_S A s.heap H locs := by rw [hH]; exact hS
  have hW0 : ∀ {X : Heap → Prop}, X H → X s.heap := fun h => by rw [← hH]; exact h
  refine hW0 (X := fun Z => W p l e _ s m _ below meth c Z locs 0 0 _ _) ?_
  refine lv_aload_n hx hb d_Md_object_0 rfl (lv_at hl 0 rfl) ?_
  refine lv_iload_n hx hb d_Md_object_1 rfl (lv_at hl 1 rfl) ?_
  refine nv_iconst (n := 0) hx hb d_Md_object_2 ?_
  refine nv_iconst (n := 5) hx hb d_Md_object_3 ?_
  obtain ⟨k1, v⟩ := v
  refine vp_callSi (nv_runS (wc := []) (As := [.int (iI c_), .int (iI 0), .int (iI 5)]) (rest := [.ref h0]) ⟨hx, hb, hml, hown, hts⟩ (m_Md_within l D cI cJ cO cZ c_ 0 5 (fun z => (z = 1 ∧ (0 ≤ c_ ∧ c_ ≤ 5)) ∨ (z = 0 ∧ ¬ (0 ≤ c_ ∧ c_ ≤ 5))) (s_Md_within c_ 0 5 k1 (by decide) (by decide))) (nv_cwS (n := 3) hts wd_809 wd_810 wd_10 wd_811 (by decide +kernel) ⟨Nat.le_of_ble_eq_true rfl, Nat.le_of_ble_eq_true rfl⟩) hK (hP.sub [] rfl) rfl hl.1 rfl (Nat.le_of_ble_eq_true rfl) d_Md_object_4 (Nat.le_of_ble_eq_true rfl) (Nat.le_of_ble_eq_true rfl)) (fun r hr => ?_)
  rcases hr with ⟨_, rfl, ⟨rfl, c2⟩ | ⟨rfl, c2⟩⟩
  · replace v := v.1 c2
    refine lv_aload_n hx hb d_Md_object_7 rfl (lv_at hl 0 rfl) ?_
    refine va_get (D := D) (ci := 8) (v := .int (iI no)) (C := "LightDosesModel") (T := T_Md) (N := 32) hx hb hts in_Md hown hK hP 0 rfl rfl 1 (by decide) (hts _ wd_704) (fun _ h9 => h9) rfl d_Md_object_8 ?_
    refine nv_bipush (z := 12) hx hb d_Md_object_11 (by decide) ?_
    obtain ⟨k3, v⟩ := v
    refine nv_icmp_ge (tgt := 20) hx hb d_Md_object_13 (by decide) k3 (by decide) (fun c4 => ?_) (fun c4 => ?_)
    · replace v := v.1 c4
      refine nv_iconst (n := 0) hx hb d_Md_object_20 ?_
      refine nv_iconst (n := 1) hx hb d_Md_object_21 ?_
      have hPc := hP.sub (ws' := (wMd cI cJ cZ h0 h1 h2 h3 h4 h5 h6 h7 h8 h9 h10 h11 h12 h13 h14 h15 h16 h17 h18 h19 h20 h21 h22 h23 th no ca ba nl xa sa da la ra fa ta ua uh uo ma mh ml nf fo fh fs rs ic mn bh bo ya np pa nc cp)) [0, 1, 2, 3, 4, 5, 6, 7, 8, 9, 10, 11, 12, 13, 14, 15, 16, 17, 18, 19, 20, 21, 22, 23] rfl
      have hDc := hD.sub (ws' := (wMd cI cJ cZ h0 h1 h2 h3 h4 h5 h6 h7 h8 h9 h10 h11 h12 h13 h14 h15 h16 h17 h18 h19 h20 h21 h22 h23 th no ca ba nl xa sa da la ra fa ta ua uh uo ma mh ml nf fo fh fs rs ic mn bh bo ya np pa nc cp)) [0, 1, 2, 3, 4, 5, 6, 7, 8, 9, 10, 11, 12, 13, 14, 15, 16, 17, 18, 19, 20, 21, 22, 23] (by decide) rfl
      have hFc := va_free (wc := (wMd cI cJ cZ h0 h1 h2 h3 h4 h5 h6 h7 h8 h9 h10 h11 h12 h13 h14 h15 h16 h17 h18 h19 h20 h21 h22 h23 th no ca ba nl xa sa da la ra fa ta ua uh uo ma mh ml nf fo fh fs rs ic mn bh bo ya np pa nc cp)) hD hS hA [0, 1, 2, 3, 4, 5, 6, 7, 8, 9, 10, 11, 12, 13, 14, 15, 16, 17, 18, 19, 20, 21, 22, 23] rfl
      refine va_calli (va_runV (As := [.int (iI 1), .int (iI 0), .int (iI 1)]) (rest := []) ⟨hx, hb, hml, hown, hts⟩ (m_Md_goes l D cI cJ cO cZ h0 h1 h2 h3 h4 h5 h6 h7 h8 h9 h10 h11 h12 h13 h14 h15 h16 h17 h18 h19 h20 h21 h22 h23 H.size th no ca ba nl xa sa da la ra fa ta ua uh uo ma mh ml nf fo fh fs rs ic mn bh bo ya np pa nc cp 1 0 1 (fun z t => z = 0 ∧ t = 2) (s_Md_goes_101 th no ca ba nl xa sa da la ra fa ta ua uh uo ma mh ml nf fo fh fs rs ic mn bh bo ya np pa nc cp)) (nv_cwV (n := 3) hts wd_812 wd_814 sl_17 wd_10 wd_815 (by decide +kernel) ⟨Nat.le_of_ble_eq_true rfl, Nat.le_of_ble_eq_true rfl⟩) ⟨blW, va_recv hK hPc (ci := 8) (q0 := 0) rfl rfl, fun U hU hW => ⟨rfl, by rw [hU], by rw [hU]; exact hPc, va_K.moved hW.alike hK, hDc.weaken (fun _ _ _ _ => trivial)⟩⟩ rfl rfl hl.1 rfl (lv_room (Nat.le_of_ble_eq_true rfl)) d_Md_object_22 ⟨Nat.le_of_ble_eq_true rfl, Nat.le_of_ble_eq_true rfl⟩) hS (fun q _ h => hFc q h) hFc (fun r u t H1 locs ht hvm hw hB hz1 hk1 hS => ?_)
      obtain ⟨hP1, hK1, hD1⟩ := hB
      rw [ht] at hP1
      obtain ⟨_, rfl, rfl, rfl⟩ := hw
      obtain ⟨hP, hD⟩ := va_join (wr := []) (w1 := (wMd cI cJ cZ h0 h1 h2 h3 h4 h5 h6 h7 h8 h9 h10 h11 h12 h13 h14 h15 h16 h17 h18 h19 h20 h21 h22 h23 2 no ca ba nl xa sa da la ra fa ta ua uh uo ma mh ml nf fo fh fs rs ic mn bh bo ya np pa nc cp)) hP hD [0, 1, 2, 3, 4, 5, 6, 7, 8, 9, 10, 11, 12, 13, 14, 15, 16, 17, 18, 19, 20, 21, 22, 23] [] rfl rfl (by decide) (by decide) hk1 hFc hP1 hD1
      generalize H1 = H at hP hS ⊢
      have hP : va_P D vwCl (wMd cI cJ cZ h0 h1 h2 h3 h4 h5 h6 h7 h8 h9 h10 h11 h12 h13 h14 h15 h16 h17 h18 h19 h20 h21 h22 h23 2 no ca ba nl xa sa da la ra fa ta ua uh uo ma mh ml nf fo fh fs rs ic mn bh bo ya np pa nc cp) H := hP
      have hD : va_D A (wMd cI cJ cZ h0 h1 h2 h3 h4 h5 h6 h7 h8 h9 h10 h11 h12 h13 h14 h15 h16 h17 h18 h19 h20 h21 h22 h23 2 no ca ba nl xa sa da la ra fa ta ua uh uo ma mh ml nf fo fh fs rs ic mn bh bo ya np pa nc cp) := hD
      refine W.widen (k := 0) (n := 0) (Nat.le_of_ble_eq_true rfl) (Nat.le_of_ble_eq_true rfl) ?_
      refine nv_if_ne (tgt := 30) hx hb d_Md_object_25 (by decide) (by decide) (fun c5 => absurd c5 (by decide)) (fun _ => ?_)
      refine nv_iconst (n := 0) hx hb d_Md_object_28 ?_
      have hP9 := hP.sub (ws' := (wMd cI cJ cZ h0 h1 h2 h3 h4 h5 h6 h7 h8 h9 h10 h11 h12 h13 h14 h15 h16 h17 h18 h19 h20 h21 h22 h23 2 no ca ba nl xa sa da la ra fa ta ua uh uo ma mh ml nf fo fh fs rs ic mn bh bo ya np pa nc cp)) [0, 1, 2, 3, 4, 5, 6, 7, 8, 9, 10, 11, 12, 13, 14, 15, 16, 17, 18, 19, 20, 21, 22, 23] rfl
      have hD9 := hD.sub (ws' := (wMd cI cJ cZ h0 h1 h2 h3 h4 h5 h6 h7 h8 h9 h10 h11 h12 h13 h14 h15 h16 h17 h18 h19 h20 h21 h22 h23 2 no ca ba nl xa sa da la ra fa ta ua uh uo ma mh ml nf fo fh fs rs ic mn bh bo ya np pa nc cp)) [0, 1, 2, 3, 4, 5, 6, 7, 8, 9, 10, 11, 12, 13, 14, 15, 16, 17, 18, 19, 20, 21, 22, 23] (by decide) rfl
      exact W.iret hx hb hr (fun t ht hW => ⟨⟨_, ((2), (ca), (no), (ic)), rfl, ⟨_, rfl, v⟩, by rw [ht]; exact hP9, va_K.moved hW.alike hK, hD9⟩, hS.F ht⟩) hS.2.2 d_Md_object_29
    · replace v := v.2 c4
      refine nv_iconst (n := 1) hx hb d_Md_object_16 ?_
      refine lv_goto (tgt := 21) hx hb d_Md_object_17 (by decide) ?_
      refine nv_iconst (n := 1) hx hb d_Md_object_21 ?_
      have hPc := hP.sub (ws' := (wMd cI cJ cZ h0 h1 h2 h3 h4 h5 h6 h7 h8 h9 h10 h11 h12 h13 h14 h15 h16 h17 h18 h19 h20 h21 h22 h23 th no ca ba nl xa sa da la ra fa ta ua uh uo ma mh ml nf fo fh fs rs ic mn bh bo ya np pa nc cp)) [0, 1, 2, 3, 4, 5, 6, 7, 8, 9, 10, 11, 12, 13, 14, 15, 16, 17, 18, 19, 20, 21, 22, 23] rfl
      have hDc := hD.sub (ws' := (wMd cI cJ cZ h0 h1 h2 h3 h4 h5 h6 h7 h8 h9 h10 h11 h12 h13 h14 h15 h16 h17 h18 h19 h20 h21 h22 h23 th no ca ba nl xa sa da la ra fa ta ua uh uo ma mh ml nf fo fh fs rs ic mn bh bo ya np pa nc cp)) [0, 1, 2, 3, 4, 5, 6, 7, 8, 9, 10, 11, 12, 13, 14, 15, 16, 17, 18, 19, 20, 21, 22, 23] (by decide) rfl
      have hFc := va_free (wc := (wMd cI cJ cZ h0 h1 h2 h3 h4 h5 h6 h7 h8 h9 h10 h11 h12 h13 h14 h15 h16 h17 h18 h19 h20 h21 h22 h23 th no ca ba nl xa sa da la ra fa ta ua uh uo ma mh ml nf fo fh fs rs ic mn bh bo ya np pa nc cp)) hD hS hA [0, 1, 2, 3, 4, 5, 6, 7, 8, 9, 10, 11, 12, 13, 14, 15, 16, 17, 18, 19, 20, 21, 22, 23] rfl
      refine va_calli (va_runV (As := [.int (iI 1), .int (iI 1), .int (iI 1)]) (rest := []) ⟨hx, hb, hml, hown, hts⟩ (m_Md_goes l D cI cJ cO cZ h0 h1 h2 h3 h4 h5 h6 h7 h8 h9 h10 h11 h12 h13 h14 h15 h16 h17 h18 h19 h20 h21 h22 h23 H.size th no ca ba nl xa sa da la ra fa ta ua uh uo ma mh ml nf fo fh fs rs ic mn bh bo ya np pa nc cp 1 1 1 (fun z t => z = 1 ∧ t = 0) (s_Md_goes_111 th no ca ba nl xa sa da la ra fa ta ua uh uo ma mh ml nf fo fh fs rs ic mn bh bo ya np pa nc cp)) (nv_cwV (n := 3) hts wd_812 wd_814 sl_17 wd_10 wd_815 (by decide +kernel) ⟨Nat.le_of_ble_eq_true rfl, Nat.le_of_ble_eq_true rfl⟩) ⟨blW, va_recv hK hPc (ci := 8) (q0 := 0) rfl rfl, fun U hU hW => ⟨rfl, by rw [hU], by rw [hU]; exact hPc, va_K.moved hW.alike hK, hDc.weaken (fun _ _ _ _ => trivial)⟩⟩ rfl rfl hl.1 rfl (lv_room (Nat.le_of_ble_eq_true rfl)) d_Md_object_22 ⟨Nat.le_of_ble_eq_true rfl, Nat.le_of_ble_eq_true rfl⟩) hS (fun q _ h => hFc q h) hFc (fun r u t H1 locs ht hvm hw hB hz1 hk1 hS => ?_)
      obtain ⟨hP1, hK1, hD1⟩ := hB
      rw [ht] at hP1
      obtain ⟨_, rfl, rfl, rfl⟩ := hw
      obtain ⟨hP, hD⟩ := va_join (wr := []) (w1 := (wMd cI cJ cZ h0 h1 h2 h3 h4 h5 h6 h7 h8 h9 h10 h11 h12 h13 h14 h15 h16 h17 h18 h19 h20 h21 h22 h23 0 no ca ba nl xa sa da la ra fa ta ua uh uo ma mh ml nf fo fh fs rs ic mn bh bo ya np pa nc cp)) hP hD [0, 1, 2, 3, 4, 5, 6, 7, 8, 9, 10, 11, 12, 13, 14, 15, 16, 17, 18, 19, 20, 21, 22, 23] [] rfl rfl (by decide) (by decide) hk1 hFc hP1 hD1
      generalize H1 = H at hP hS ⊢
      have hP : va_P D vwCl (wMd cI cJ cZ h0 h1 h2 h3 h4 h5 h6 h7 h8 h9 h10 h11 h12 h13 h14 h15 h16 h17 h18 h19 h20 h21 h22 h23 0 no ca ba nl xa sa da la ra fa ta ua uh uo ma mh ml nf fo fh fs rs ic mn bh bo ya np pa nc cp) H := hP
      have hD : va_D A (wMd cI cJ cZ h0 h1 h2 h3 h4 h5 h6 h7 h8 h9 h10 h11 h12 h13 h14 h15 h16 h17 h18 h19 h20 h21 h22 h23 0 no ca ba nl xa sa da la ra fa ta ua uh uo ma mh ml nf fo fh fs rs ic mn bh bo ya np pa nc cp) := hD
      refine W.widen (k := 0) (n := 0) (Nat.le_of_ble_eq_true rfl) (Nat.le_of_ble_eq_true rfl) ?_
      refine nv_if_ne (tgt := 30) hx hb d_Md_object_25 (by decide) (by decide) (fun _ => ?_) (fun c6 => absurd c6 (by decide))
      refine lv_aload_n hx hb d_Md_object_30 rfl (lv_at hl 0 rfl) ?_
      refine va_get (D := D) (ci := 8) (v := .ref h1) (C := "LightDosesModel") (T := T_Md) (N := 32) hx hb hts in_Md hown hK hP 0 rfl rfl 2 (by decide) (hts _ wd_705) (fun _ h9 => h9) rfl d_Md_object_31 ?_
      refine lv_aload_n hx hb d_Md_object_34 rfl (lv_at hl 0 rfl) ?_
      refine va_get (D := D) (ci := 8) (v := .int (iI no)) (C := "LightDosesModel") (T := T_Md) (N := 32) hx hb hts in_Md hown hK hP 0 rfl rfl 1 (by decide) (hts _ wd_704) (fun _ h9 => h9) rfl d_Md_object_35 ?_
      refine lv_iload_n hx hb d_Md_object_38 rfl (lv_at hl 1 rfl) ?_
      obtain ⟨k7, v⟩ := v
      refine nv_iast (f := ca) hx hb hK hP hD hS 1 0 rfl rfl (no).toNat (Int.toNat_of_nonneg k7.1).symm (by omega) (by decide) d_Md_object_39 (fun H locs hP hD hS => ?_)
      have hP : va_P D vwCl (wMd cI cJ cZ h0 h1 h2 h3 h4 h5 h6 h7 h8 h9 h10 h11 h12 h13 h14 h15 h16 h17 h18 h19 h20 h21 h22 h23 0 no (va_up ca (no).toNat c_) ba nl xa sa da la ra fa ta ua uh uo ma mh ml nf fo fh fs rs ic mn bh bo ya np pa nc cp) H := hP
      have hD : va_D A (wMd cI cJ cZ h0 h1 h2 h3 h4 h5 h6 h7 h8 h9 h10 h11 h12 h13 h14 h15 h16 h17 h18 h19 h20 h21 h22 h23 0 no (va_up ca (no).toNat c_) ba nl xa sa da la ra fa ta ua uh uo ma mh ml nf fo fh fs rs ic mn bh bo ya np pa nc cp) := hD
      refine lv_aload_n hx hb d_Md_object_40 rfl (lv_at hl 0 rfl) ?_
      refine lv_dup hx hb d_Md_object_41 rfl ?_
      refine va_get (D := D) (ci := 8) (v := .int (iI no)) (C := "LightDosesModel") (T := T_Md) (N := 32) hx hb hts in_Md hown hK hP 0 rfl rfl 1 (by decide) (hts _ wd_704) (fun _ h9 => h9) rfl d_Md_object_42 ?_
      refine nv_iconst (n := 1) hx hb d_Md_object_45 ?_
      refine nv_iadd (z := no + 1) hx hb d_Md_object_46 (by first | rfl | omega) ?_
      refine va_put (D := D) (ci := 8) (v := .int (iI (no + 1))) (ty := .int) (C := "LightDosesModel") (T := T_Md) (N := 32) hx hb hts in_Md t_Md tok_Md n_Md hown hK hP hD hS 0 rfl rfl 1 (by decide) (hts _ wd_704) (fun _ h9 => h9) rfl (by decide +kernel) rfl rfl (Nat.le_of_ble_eq_true rfl) d_Md_object_47 (fun H locs hP hD hS => ?_)
      have hP : va_P D vwCl (wMd cI cJ cZ h0 h1 h2 h3 h4 h5 h6 h7 h8 h9 h10 h11 h12 h13 h14 h15 h16 h17 h18 h19 h20 h21 h22 h23 0 (no + 1) (va_up ca (no).toNat c_) ba nl xa sa da la ra fa ta ua uh uo ma mh ml nf fo fh fs rs ic mn bh bo ya np pa nc cp) H := hP
      have hD : va_D A (wMd cI cJ cZ h0 h1 h2 h3 h4 h5 h6 h7 h8 h9 h10 h11 h12 h13 h14 h15 h16 h17 h18 h19 h20 h21 h22 h23 0 (no + 1) (va_up ca (no).toNat c_) ba nl xa sa da la ra fa ta ua uh uo ma mh ml nf fo fh fs rs ic mn bh bo ya np pa nc cp) := hD
      refine lv_aload_n hx hb d_Md_object_50 rfl (lv_at hl 0 rfl) ?_
      refine nv_iconst (n := 0) hx hb d_Md_object_51 ?_
      refine va_put (D := D) (ci := 8) (v := .int (iI 0)) (ty := .boolean) (C := "LightDosesModel") (T := T_Md) (N := 32) hx hb hts in_Md t_Md tok_Md n_Md hown hK hP hD hS 0 rfl rfl 23 (by decide) (hts _ wd_726) (fun _ h9 => h9) rfl (by decide +kernel) (by decide) (by decide) (Nat.le_of_ble_eq_true rfl) d_Md_object_52 (fun H locs hP hD hS => ?_)
      have hP : va_P D vwCl (wMd cI cJ cZ h0 h1 h2 h3 h4 h5 h6 h7 h8 h9 h10 h11 h12 h13 h14 h15 h16 h17 h18 h19 h20 h21 h22 h23 0 (no + 1) (va_up ca (no).toNat c_) ba nl xa sa da la ra fa ta ua uh uo ma mh ml nf fo fh fs rs 0 mn bh bo ya np pa nc cp) H := hP
      have hD : va_D A (wMd cI cJ cZ h0 h1 h2 h3 h4 h5 h6 h7 h8 h9 h10 h11 h12 h13 h14 h15 h16 h17 h18 h19 h20 h21 h22 h23 0 (no + 1) (va_up ca (no).toNat c_) ba nl xa sa da la ra fa ta ua uh uo ma mh ml nf fo fh fs rs 0 mn bh bo ya np pa nc cp) := hD
      refine lv_aload_n hx hb d_Md_object_55 rfl (lv_at hl 0 rfl) ?_
      refine va_get (D := D) (ci := 8) (v := .int (iI (no + 1))) (C := "LightDosesModel") (T := T_Md) (N := 32) hx hb hts in_Md hown hK hP 0 rfl rfl 1 (by decide) (hts _ wd_704) (fun _ h9 => h9) rfl d_Md_object_56 ?_
      refine nv_iconst (n := 1) hx hb d_Md_object_59 ?_
      refine nv_isub (z := no + 1 - 1) hx hb d_Md_object_60 (by first | rfl | omega) ?_
      have hP9 := hP.sub (ws' := (wMd cI cJ cZ h0 h1 h2 h3 h4 h5 h6 h7 h8 h9 h10 h11 h12 h13 h14 h15 h16 h17 h18 h19 h20 h21 h22 h23 0 (no + 1) (va_up ca (no).toNat c_) ba nl xa sa da la ra fa ta ua uh uo ma mh ml nf fo fh fs rs 0 mn bh bo ya np pa nc cp)) [0, 1, 2, 3, 4, 5, 6, 7, 8, 9, 10, 11, 12, 13, 14, 15, 16, 17, 18, 19, 20, 21, 22, 23] rfl
      have hD9 := hD.sub (ws' := (wMd cI cJ cZ h0 h1 h2 h3 h4 h5 h6 h7 h8 h9 h10 h11 h12 h13 h14 h15 h16 h17 h18 h19 h20 h21 h22 h23 0 (no + 1) (va_up ca (no).toNat c_) ba nl xa sa da la ra fa ta ua uh uo ma mh ml nf fo fh fs rs 0 mn bh bo ya np pa nc cp)) [0, 1, 2, 3, 4, 5, 6, 7, 8, 9, 10, 11, 12, 13, 14, 15, 16, 17, 18, 19, 20, 21, 22, 23] (by decide) rfl
      exact W.iret hx hb hr (fun t ht hW => ⟨⟨_, ((0), (va_up ca (no).toNat c_), (no + 1), (0)), rfl, ⟨_, rfl, v⟩, by rw [ht]; exact hP9, va_K.moved hW.alike hK, hD9⟩, hS.F ht⟩) hS.2.2 d_Md_object_61
  · replace v := v.2 c2
    refine lv_aload_n hx hb d_Md_object_7 rfl (lv_at hl 0 rfl) ?_
    refine va_get (D := D) (ci := 8) (v := .int (iI no)) (C := "LightDosesModel") (T := T_Md) (N := 32) hx hb hts in_Md hown hK hP 0 rfl rfl 1 (by decide) (hts _ wd_704) (fun _ h9 => h9) rfl d_Md_object_8 ?_
    refine nv_bipush (z := 12) hx hb d_Md_object_11 (by decide) ?_
    obtain ⟨k8, v⟩ := v
    refine nv_icmp_ge (tgt := 20) hx hb d_Md_object_13 (by decide) k8 (by decide) (fun c9 => ?_) (fun c9 => ?_)
    · replace v := v.1 c9
      refine nv_iconst (n := 0) hx hb d_Md_object_20 ?_
      refine nv_iconst (n := 1) hx hb d_Md_object_21 ?_
      have hPc := hP.sub (ws' := (wMd cI cJ cZ h0 h1 h2 h3 h4 h5 h6 h7 h8 h9 h10 h11 h12 h13 h14 h15 h16 h17 h18 h19 h20 h21 h22 h23 th no ca ba nl xa sa da la ra fa ta ua uh uo ma mh ml nf fo fh fs rs ic mn bh bo ya np pa nc cp)) [0, 1, 2, 3, 4, 5, 6, 7, 8, 9, 10, 11, 12, 13, 14, 15, 16, 17, 18, 19, 20, 21, 22, 23] rfl
      have hDc := hD.sub (ws' := (wMd cI cJ cZ h0 h1 h2 h3 h4 h5 h6 h7 h8 h9 h10 h11 h12 h13 h14 h15 h16 h17 h18 h19 h20 h21 h22 h23 th no ca ba nl xa sa da la ra fa ta ua uh uo ma mh ml nf fo fh fs rs ic mn bh bo ya np pa nc cp)) [0, 1, 2, 3, 4, 5, 6, 7, 8, 9, 10, 11, 12, 13, 14, 15, 16, 17, 18, 19, 20, 21, 22, 23] (by decide) rfl
      have hFc := va_free (wc := (wMd cI cJ cZ h0 h1 h2 h3 h4 h5 h6 h7 h8 h9 h10 h11 h12 h13 h14 h15 h16 h17 h18 h19 h20 h21 h22 h23 th no ca ba nl xa sa da la ra fa ta ua uh uo ma mh ml nf fo fh fs rs ic mn bh bo ya np pa nc cp)) hD hS hA [0, 1, 2, 3, 4, 5, 6, 7, 8, 9, 10, 11, 12, 13, 14, 15, 16, 17, 18, 19, 20, 21, 22, 23] rfl
      refine va_calli (va_runV (As := [.int (iI 0), .int (iI 0), .int (iI 1)]) (rest := []) ⟨hx, hb, hml, hown, hts⟩ (m_Md_goes l D cI cJ cO cZ h0 h1 h2 h3 h4 h5 h6 h7 h8 h9 h10 h11 h12 h13 h14 h15 h16 h17 h18 h19 h20 h21 h22 h23 H.size th no ca ba nl xa sa da la ra fa ta ua uh uo ma mh ml nf fo fh fs rs ic mn bh bo ya np pa nc cp 0 0 1 (fun z t => z = 0 ∧ t = 1) (s_Md_goes_001 th no ca ba nl xa sa da la ra fa ta ua uh uo ma mh ml nf fo fh fs rs ic mn bh bo ya np pa nc cp)) (nv_cwV (n := 3) hts wd_812 wd_814 sl_17 wd_10 wd_815 (by decide +kernel) ⟨Nat.le_of_ble_eq_true rfl, Nat.le_of_ble_eq_true rfl⟩) ⟨blW, va_recv hK hPc (ci := 8) (q0 := 0) rfl rfl, fun U hU hW => ⟨rfl, by rw [hU], by rw [hU]; exact hPc, va_K.moved hW.alike hK, hDc.weaken (fun _ _ _ _ => trivial)⟩⟩ rfl rfl hl.1 rfl (lv_room (Nat.le_of_ble_eq_true rfl)) d_Md_object_22 ⟨Nat.le_of_ble_eq_true rfl, Nat.le_of_ble_eq_true rfl⟩) hS (fun q _ h => hFc q h) hFc (fun r u t H1 locs ht hvm hw hB hz1 hk1 hS => ?_)
      obtain ⟨hP1, hK1, hD1⟩ := hB
      rw [ht] at hP1
      obtain ⟨_, rfl, rfl, rfl⟩ := hw
      obtain ⟨hP, hD⟩ := va_join (wr := []) (w1 := (wMd cI cJ cZ h0 h1 h2 h3 h4 h5 h6 h7 h8 h9 h10 h11 h12 h13 h14 h15 h16 h17 h18 h19 h20 h21 h22 h23 1 no ca ba nl xa sa da la ra fa ta ua uh uo ma mh ml nf fo fh fs rs ic mn bh bo ya np pa nc cp)) hP hD [0, 1, 2, 3, 4, 5, 6, 7, 8, 9, 10, 11, 12, 13, 14, 15, 16, 17, 18, 19, 20, 21, 22, 23] [] rfl rfl (by decide) (by decide) hk1 hFc hP1 hD1
      generalize H1 = H at hP hS ⊢
      have hP : va_P D vwCl (wMd cI cJ cZ h0 h1 h2 h3 h4 h5 h6 h7 h8 h9 h10 h11 h12 h13 h14 h15 h16 h17 h18 h19 h20 h21 h22 h23 1 no ca ba nl xa sa da la ra fa ta ua uh uo ma mh ml nf fo fh fs rs ic mn bh bo ya np pa nc cp) H := hP
      have hD : va_D A (wMd cI cJ cZ h0 h1 h2 h3 h4 h5 h6 h7 h8 h9 h10 h11 h12 h13 h14 h15 h16 h17 h18 h19 h20 h21 h22 h23 1 no ca ba nl xa sa da la ra fa ta ua uh uo ma mh ml nf fo fh fs rs ic mn bh bo ya np pa nc cp) := hD
      refine W.widen (k := 0) (n := 0) (Nat.le_of_ble_eq_true rfl) (Nat.le_of_ble_eq_true rfl) ?_
      refine nv_if_ne (tgt := 30) hx hb d_Md_object_25 (by decide) (by decide) (fun c10 => absurd c10 (by decide)) (fun _ => ?_)
      refine nv_iconst (n := 0) hx hb d_Md_object_28 ?_
      have hP9 := hP.sub (ws' := (wMd cI cJ cZ h0 h1 h2 h3 h4 h5 h6 h7 h8 h9 h10 h11 h12 h13 h14 h15 h16 h17 h18 h19 h20 h21 h22 h23 1 no ca ba nl xa sa da la ra fa ta ua uh uo ma mh ml nf fo fh fs rs ic mn bh bo ya np pa nc cp)) [0, 1, 2, 3, 4, 5, 6, 7, 8, 9, 10, 11, 12, 13, 14, 15, 16, 17, 18, 19, 20, 21, 22, 23] rfl
      have hD9 := hD.sub (ws' := (wMd cI cJ cZ h0 h1 h2 h3 h4 h5 h6 h7 h8 h9 h10 h11 h12 h13 h14 h15 h16 h17 h18 h19 h20 h21 h22 h23 1 no ca ba nl xa sa da la ra fa ta ua uh uo ma mh ml nf fo fh fs rs ic mn bh bo ya np pa nc cp)) [0, 1, 2, 3, 4, 5, 6, 7, 8, 9, 10, 11, 12, 13, 14, 15, 16, 17, 18, 19, 20, 21, 22, 23] (by decide) rfl
      exact W.iret hx hb hr (fun t ht hW => ⟨⟨_, ((1), (ca), (no), (ic)), rfl, ⟨_, rfl, v⟩, by rw [ht]; exact hP9, va_K.moved hW.alike hK, hD9⟩, hS.F ht⟩) hS.2.2 d_Md_object_29
    · replace v := v.2 c9
      refine nv_iconst (n := 1) hx hb d_Md_object_16 ?_
      refine lv_goto (tgt := 21) hx hb d_Md_object_17 (by decide) ?_
      refine nv_iconst (n := 1) hx hb d_Md_object_21 ?_
      have hPc := hP.sub (ws' := (wMd cI cJ cZ h0 h1 h2 h3 h4 h5 h6 h7 h8 h9 h10 h11 h12 h13 h14 h15 h16 h17 h18 h19 h20 h21 h22 h23 th no ca ba nl xa sa da la ra fa ta ua uh uo ma mh ml nf fo fh fs rs ic mn bh bo ya np pa nc cp)) [0, 1, 2, 3, 4, 5, 6, 7, 8, 9, 10, 11, 12, 13, 14, 15, 16, 17, 18, 19, 20, 21, 22, 23] rfl
      have hDc := hD.sub (ws' := (wMd cI cJ cZ h0 h1 h2 h3 h4 h5 h6 h7 h8 h9 h10 h11 h12 h13 h14 h15 h16 h17 h18 h19 h20 h21 h22 h23 th no ca ba nl xa sa da la ra fa ta ua uh uo ma mh ml nf fo fh fs rs ic mn bh bo ya np pa nc cp)) [0, 1, 2, 3, 4, 5, 6, 7, 8, 9, 10, 11, 12, 13, 14, 15, 16, 17, 18, 19, 20, 21, 22, 23] (by decide) rfl
      have hFc := va_free (wc := (wMd cI cJ cZ h0 h1 h2 h3 h4 h5 h6 h7 h8 h9 h10 h11 h12 h13 h14 h15 h16 h17 h18 h19 h20 h21 h22 h23 th no ca ba nl xa sa da la ra fa ta ua uh uo ma mh ml nf fo fh fs rs ic mn bh bo ya np pa nc cp)) hD hS hA [0, 1, 2, 3, 4, 5, 6, 7, 8, 9, 10, 11, 12, 13, 14, 15, 16, 17, 18, 19, 20, 21, 22, 23] rfl
      refine va_calli (va_runV (As := [.int (iI 0), .int (iI 1), .int (iI 1)]) (rest := []) ⟨hx, hb, hml, hown, hts⟩ (m_Md_goes l D cI cJ cO cZ h0 h1 h2 h3 h4 h5 h6 h7 h8 h9 h10 h11 h12 h13 h14 h15 h16 h17 h18 h19 h20 h21 h22 h23 H.size th no ca ba nl xa sa da la ra fa ta ua uh uo ma mh ml nf fo fh fs rs ic mn bh bo ya np pa nc cp 0 1 1 (fun z t => z = 0 ∧ t = 1) (s_Md_goes_011 th no ca ba nl xa sa da la ra fa ta ua uh uo ma mh ml nf fo fh fs rs ic mn bh bo ya np pa nc cp)) (nv_cwV (n := 3) hts wd_812 wd_814 sl_17 wd_10 wd_815 (by decide +kernel) ⟨Nat.le_of_ble_eq_true rfl, Nat.le_of_ble_eq_true rfl⟩) ⟨blW, va_recv hK hPc (ci := 8) (q0 := 0) rfl rfl, fun U hU hW => ⟨rfl, by rw [hU], by rw [hU]; exact hPc, va_K.moved hW.alike hK, hDc.weaken (fun _ _ _ _ => trivial)⟩⟩ rfl rfl hl.1 rfl (lv_room (Nat.le_of_ble_eq_true rfl)) d_Md_object_22 ⟨Nat.le_of_ble_eq_true rfl, Nat.le_of_ble_eq_true rfl⟩) hS (fun q _ h => hFc q h) hFc (fun r u t H1 locs ht hvm hw hB hz1 hk1 hS => ?_)
      obtain ⟨hP1, hK1, hD1⟩ := hB
      rw [ht] at hP1
      obtain ⟨_, rfl, rfl, rfl⟩ := hw
      obtain ⟨hP, hD⟩ := va_join (wr := []) (w1 := (wMd cI cJ cZ h0 h1 h2 h3 h4 h5 h6 h7 h8 h9 h10 h11 h12 h13 h14 h15 h16 h17 h18 h19 h20 h21 h22 h23 1 no ca ba nl xa sa da la ra fa ta ua uh uo ma mh ml nf fo fh fs rs ic mn bh bo ya np pa nc cp)) hP hD [0, 1, 2, 3, 4, 5, 6, 7, 8, 9, 10, 11, 12, 13, 14, 15, 16, 17, 18, 19, 20, 21, 22, 23] [] rfl rfl (by decide) (by decide) hk1 hFc hP1 hD1
      generalize H1 = H at hP hS ⊢
      have hP : va_P D vwCl (wMd cI cJ cZ h0 h1 h2 h3 h4 h5 h6 h7 h8 h9 h10 h11 h12 h13 h14 h15 h16 h17 h18 h19 h20 h21 h22 h23 1 no ca ba nl xa sa da la ra fa ta ua uh uo ma mh ml nf fo fh fs rs ic mn bh bo ya np pa nc cp) H := hP
      have hD : va_D A (wMd cI cJ cZ h0 h1 h2 h3 h4 h5 h6 h7 h8 h9 h10 h11 h12 h13 h14 h15 h16 h17 h18 h19 h20 h21 h22 h23 1 no ca ba nl xa sa da la ra fa ta ua uh uo ma mh ml nf fo fh fs rs ic mn bh bo ya np pa nc cp) := hD
      refine W.widen (k := 0) (n := 0) (Nat.le_of_ble_eq_true rfl) (Nat.le_of_ble_eq_true rfl) ?_
      refine nv_if_ne (tgt := 30) hx hb d_Md_object_25 (by decide) (by decide) (fun c11 => absurd c11 (by decide)) (fun _ => ?_)
      refine nv_iconst (n := 0) hx hb d_Md_object_28 ?_
      have hP9 := hP.sub (ws' := (wMd cI cJ cZ h0 h1 h2 h3 h4 h5 h6 h7 h8 h9 h10 h11 h12 h13 h14 h15 h16 h17 h18 h19 h20 h21 h22 h23 1 no ca ba nl xa sa da la ra fa ta ua uh uo ma mh ml nf fo fh fs rs ic mn bh bo ya np pa nc cp)) [0, 1, 2, 3, 4, 5, 6, 7, 8, 9, 10, 11, 12, 13, 14, 15, 16, 17, 18, 19, 20, 21, 22, 23] rfl
      have hD9 := hD.sub (ws' := (wMd cI cJ cZ h0 h1 h2 h3 h4 h5 h6 h7 h8 h9 h10 h11 h12 h13 h14 h15 h16 h17 h18 h19 h20 h21 h22 h23 1 no ca ba nl xa sa da la ra fa ta ua uh uo ma mh ml nf fo fh fs rs ic mn bh bo ya np pa nc cp)) [0, 1, 2, 3, 4, 5, 6, 7, 8, 9, 10, 11, 12, 13, 14, 15, 16, 17, 18, 19, 20, 21, 22, 23] (by decide) rfl
      exact W.iret hx hb hr (fun t ht hW => ⟨⟨_, ((1), (ca), (no), (ic)), rfl, ⟨_, rfl, v⟩, by rw [ht]; exact hP9, va_K.moved hW.alike hK, hD9⟩, hS.F ht⟩) hS.2.2 d_Md_object_29

theorem d_Md_allowed_0 : decode prog_10_method_10_code 0 = .ok (.aload_n 0, 1) := by decide +kernel
theorem d_Md_allowed_1 : decode prog_10_method_10_code 1 = .ok (.iload_n 1, 1) := by decide +kernel
theorem d_Md_allowed_2 : decode prog_10_method_10_code 2 = .ok (.iconst 0, 1) := by decide +kernel
theorem d_Md_allowed_3 : decode prog_10_method_10_code 3 = .ok (.iconst 5, 1) := by decide +kernel
theorem d_Md_allowed_4 : decode prog_10_method_10_code 4 = .ok (.invokestatic 92, 3) := by decide +kernel
theorem d_Md_allowed_7 : decode prog_10_method_10_code 7 = .ok (.iload_n 2, 1) := by decide +kernel
theorem d_Md_allowed_8 : decode prog_10_method_10_code 8 = .ok (.iconst (-1), 1) := by decide +kernel
theorem d_Md_allowed_9 : decode prog_10_method_10_code 9 = .ok (.ldc 104, 2) := by decide +kernel
theorem d_Md_allowed_11 : decode prog_10_method_10_code 11 = .ok (.invokestatic 92, 3) := by decide +kernel
theorem d_Md_allowed_14 : decode prog_10_method_10_code 14 = .ok (.iconst 1, 1) := by decide +kernel
theorem d_Md_allowed_15 : decode prog_10_method_10_code 15 = .ok (.invokevirtual 96, 3) := by decide +kernel
theorem d_Md_allowed_18 : decode prog_10_method_10_code 18 = .ok (.ifCond .ne 5, 3) := by decide +kernel
theorem d_Md_allowed_21 : decode prog_10_method_10_code 21 = .ok (.iconst 0, 1) := by decide +kernel
theorem d_Md_allowed_22 : decode prog_10_method_10_code 22 = .ok (.ireturn, 1) := by decide +kernel
theorem d_Md_allowed_23 : decode prog_10_method_10_code 23 = .ok (.aload_n 0, 1) := by decide +kernel
theorem d_Md_allowed_24 : decode prog_10_method_10_code 24 = .ok (.getfield 13, 3) := by decide +kernel
theorem d_Md_allowed_27 : decode prog_10_method_10_code 27 = .ok (.iload_n 1, 1) := by decide +kernel
theorem d_Md_allowed_28 : decode prog_10_method_10_code 28 = .ok (.iaload, 1) := by decide +kernel
theorem d_Md_allowed_29 : decode prog_10_method_10_code 29 = .ok (.istore_n 3, 1) := by decide +kernel
theorem d_Md_allowed_30 : decode prog_10_method_10_code 30 = .ok (.aload_n 0, 1) := by decide +kernel
theorem d_Md_allowed_31 : decode prog_10_method_10_code 31 = .ok (.getfield 13, 3) := by decide +kernel
theorem d_Md_allowed_34 : decode prog_10_method_10_code 34 = .ok (.iload_n 1, 1) := by decide +kernel
theorem d_Md_allowed_35 : decode prog_10_method_10_code 35 = .ok (.iload_n 2, 1) := by decide +kernel
theorem d_Md_allowed_36 : decode prog_10_method_10_code 36 = .ok (.iastore, 1) := by decide +kernel
theorem d_Md_allowed_37 : decode prog_10_method_10_code 37 = .ok (.aload_n 0, 1) := by decide +kernel
theorem d_Md_allowed_38 : decode prog_10_method_10_code 38 = .ok (.iconst 0, 1) := by decide +kernel
theorem d_Md_allowed_39 : decode prog_10_method_10_code 39 = .ok (.putfield 100, 3) := by decide +kernel
theorem d_Md_allowed_42 : decode prog_10_method_10_code 42 = .ok (.iload_n 3, 1) := by decide +kernel
theorem d_Md_allowed_43 : decode prog_10_method_10_code 43 = .ok (.ireturn, 1) := by decide +kernel
def vc_Md_allowed (th : Int) (no : Int) (ca : Nat → Int) (ba : Nat → Int) (nl : Int) (xa : Nat → Int) (sa : Nat → Int) (da : Nat → Int) (la : Nat → Int) (ra : Nat → Int) (fa : Nat → Int) (ta : Nat → Int) (ua : Nat → Int) (uh : Nat → Int) (uo : Nat → Int) (ma : Nat → Int) (mh : Nat → Int) (ml : Nat → Int) (nf : Int) (fo : Nat → Int) (fh : Nat → Int) (fs : Nat → Int) (rs : Int) (ic : Int) (mn : Int) (bh : Nat → Int) (bo : Nat → Int) (ya : Nat → Int) (np : Int) (pa : Nat → Int) (nc : Int) (cp : Nat → Int) (c_ : Int) (v_ : Int) (post : Int → Int → (Nat → Int) → Int → Prop) : Prop := (r32 c_) ∧ (((0 ≤ c_ ∧ c_ ≤ 5) → (r32 v_) ∧ ((((-1) ≤ v_ ∧ v_ ≤ 1000000000) → (0 ≤ c_ ∧ c_ < 6) ∧ ((0 ≤ c_ ∧ c_ < 6) ∧ (post (ba (c_).toNat) 0 (va_up ba (c_).toNat v_) 0))) ∧ (¬ ((-1) ≤ v_ ∧ v_ ≤ 1000000000) → post 0 2 ba ic))) ∧ (¬ (0 ≤ c_ ∧ c_ ≤ 5) → (r32 v_) ∧ ((((-1) ≤ v_ ∧ v_ ≤ 1000000000) → post 0 1 ba ic) ∧ (¬ ((-1) ≤ v_ ∧ v_ ≤ 1000000000) → post 0 1 ba ic))))
set_option maxHeartbeats 4000000 in
set_option maxRecDepth 100000 in
theorem m_Md_allowed (l : Launch) (D : va_G) (cI cJ cO cZ : ClassId) (h0 h1 h2 h3 h4 h5 h6 h7 h8 h9 h10 h11 h12 h13 h14 h15 h16 h17 h18 h19 h20 h21 h22 h23 : Nat) (sz : Nat) (th : Int) (no : Int) (ca : Nat → Int) (ba : Nat → Int) (nl : Int) (xa : Nat → Int) (sa : Nat → Int) (da : Nat → Int) (la : Nat → Int) (ra : Nat → Int) (fa : Nat → Int) (ta : Nat → Int) (ua : Nat → Int) (uh : Nat → Int) (uo : Nat → Int) (ma : Nat → Int) (mh : Nat → Int) (ml : Nat → Int) (nf : Int) (fo : Nat → Int) (fh : Nat → Int) (fs : Nat → Int) (rs : Int) (ic : Int) (mn : Int) (bh : Nat → Int) (bo : Nat → Int) (ya : Nat → Int) (np : Int) (pa : Nat → Int) (nc : Int) (cp : Nat → Int) (c_ : Int) (v_ : Int) (post : Int → Int → (Nat → Int) → Int → Prop) (v : vc_Md_allowed th no ca ba nl xa sa da la ra fa ta ua uh uo ma mh ml nf fo fh fs rs ic mn bh bo ya np pa nc cp c_ v_ post) : Met l ⟨"LightDosesModel", "allowed", "(II)I"⟩ (.code ⟨"LightDosesModel", "allowed", "(II)I"⟩ prog_10_method_10_code 4 (some .int) :: TG) { frames := 1, cells := 0, slots := 0, locals := 23 } (va_Pc [.ref h0, .int (iI c_), .int (iI v_)] (fun U => U.heap.size = sz ∧ va_P D vwCl (wMd cI cJ cZ h0 h1 h2 h3 h4 h5 h6 h7 h8 h9 h10 h11 h12 h13 h14 h15 h16 h17 h18 h19 h20 h21 h22 h23 th no ca ba nl xa sa da la ra fa ta ua uh uo ma mh ml nf fo fh fs rs ic mn bh bo ya np pa nc cp) U.heap ∧ va_K D vwCl (tyx cI cJ cO cZ) U ∧ va_D (fun _ => True) (wMd cI cJ cZ h0 h1 h2 h3 h4 h5 h6 h7 h8 h9 h10 h11 h12 h13 h14 h15 h16 h17 h18 h19 h20 h21 h22 h23 th no ca ba nl xa sa da la ra fa ta ua uh uo ma mh ml nf fo fh fs rs ic mn bh bo ya np pa nc cp))) (va_Qi (fun (r : Int32) (u : Int × (Nat → Int) × Int) => ∃ z : Int, r = iI z ∧ post z u.1 u.2.1 u.2.2) (fun u t => va_P D vwCl (wMd cI cJ cZ h0 h1 h2 h3 h4 h5 h6 h7 h8 h9 h10 h11 h12 h13 h14 h15 h16 h17 h18 h19 h20 h21 h22 h23 u.1 no ca u.2.1 nl xa sa da la ra fa ta ua uh uo ma mh ml nf fo fh fs rs u.2.2 mn bh bo ya np pa nc cp) t.heap ∧ va_K D vwCl (tyx cI cJ cO cZ) t ∧ va_D (va_A (wMd cI cJ cZ h0 h1 h2 h3 h4 h5 h6 h7 h8 h9 h10 h11 h12 h13 h14 h15 h16 h17 h18 h19 h20 h21 h22 h23 th no ca ba nl xa sa da la ra fa ta ua uh uo ma mh ml nf fo fh fs rs ic mn bh bo ya np pa nc cp) sz) (wMd cI cJ cZ h0 h1 h2 h3 h4 h5 h6 h7 h8 h9 h10 h11 h12 h13 h14 h15 h16 h17 h18 h19 h20 h21 h22 h23 u.1 no ca u.2.1 nl xa sa da la ra fa ta ua uh uo ma mh ml nf fo fh fs rs u.2.2 mn bh bo ya np pa nc cp)) (va_A (wMd cI cJ cZ h0 h1 h2 h3 h4 h5 h6 h7 h8 h9 h10 h11 h12 h13 h14 h15 h16 h17 h18 h19 h20 h21 h22 h23 th no ca ba nl xa sa da la ra fa ta ua uh uo ma mh ml nf fo fh fs rs ic mn bh bo ya np pa nc cp) sz)) 0 0 (va_A (wMd cI cJ cZ h0 h1 h2 h3 h4 h5 h6 h7 h8 h9 h10 h11 h12 h13 h14 h15 h16 h17 h18 h19 h20 h21 h22 h23 th no ca ba nl xa sa da la ra fa ta ua uh uo ma mh ml nf fo fh fs rs ic mn bh bo ya np pa nc cp) sz) := by
  refine Met.ofW (cc := prog_10_method_10_code) (maxL := 4) (ret := (some .int)) (by decide) rfl ?_
  intro p e s m args below meth c s₁ B hml hv
  obtain ⟨rfl, hsz, hP, hK, hD0⟩ := hv
  have hx := B.exec
  have hb := B.bytes
  have hr := B.returns
  have hts0 := atoms_spec (ws := (.code ⟨"LightDosesModel", "allowed", "(II)I"⟩ prog_10_method_10_code 4 (some .int) :: TG)) B.pre
  have hts : ∀ w ∈ TG, w.before _ s = true := fun w h => hts0 w (List.mem_cons_of_mem _ h)
  have hown : s.vm.findClass "LightDosesModel" = some m.cls := findClass_of_methodNamed B.named
  have hlocks := B.notSynchronized
  subst hsz
  have hD := hD0.self (sz := s.heap.size)
  generalize hAe : va_A (wMd cI cJ cZ h0 h1 h2 h3 h4 h5 h6 h7 h8 h9 h10 h11 h12 h13 h14 h15 h16 h17 h18 h19 h20 h21 h22 h23 th no ca ba nl xa sa da la ra fa ta ua uh uo ma mh ml nf fo fh fs rs ic mn bh bo ya np pa nc cp) s.heap.size = A at hD ⊢
  have hA : ∀ q : Nat, s.heap.size ≤ q → A q := fun q h => by rw [← hAe]; exact Or.inr h
  have hS : va_S A s.heap s.heap [] := va_S.rf
  have hP : va_P D vwCl (wMd cI cJ cZ h0 h1 h2 h3 h4 h5 h6 h7 h8 h9 h10 h11 h12 h13 h14 h15 h16 h17 h18 h19 h20 h21 h22 h23 th no ca ba nl xa sa da la ra fa ta ua uh uo ma mh ml nf fo fh fs rs ic mn bh bo ya np pa nc cp) s.heap := hP
  have hl := lv_entry ([Value.ref h0, Value.int (iI c_), Value.int (iI v_)]) (n := 4) (Nat.le_of_ble_eq_true rfl)
  rw [lg_entry_eq]
  generalize (lg_sl ([Value.ref h0, Value.int (iI c_), Value.int (iI v_)]) ++ List.replicate (4 - (lg_sl ([Value.ref h0, Value.int (iI c_), Value.int (iI v_)])).length) Slot.unset).toArray = ls at hl ⊢
  have hl : lv_has ls 4 [(0, .ref h0), (1, .int (iI c_)), (2, .int (iI v_))] := hl
  unfold vc_Md_allowed at v
  obtain ⟨H, hH⟩ : ∃ H, H = s.heap := ⟨_, rfl⟩
  obtain ⟨locs, hlc⟩ : ∃ L : List Loc, L = [] := ⟨_, rfl⟩
  rw [← hlc] at hS ⊢
  have hP : va_P D vwCl (wMd cI cJ cZ h0 h1 h2 h3 h4 h5 h6 h7 h8 h9 h10 h11 h12 h13 h14 h15 h16 h17 h18 h19 h20 h21 h22 h23 th no ca ba nl xa sa da la ra fa ta ua uh uo ma mh ml nf fo fh fs rs ic mn bh bo ya np pa nc cp) H := by rw [hH]; exact hP
  have hS : va_S A s.heap H locs := by rw [hH]; exact hS
  have hW0 : ∀ {X : Heap → Prop}, X H → X s.heap := fun h => by rw [← hH]; exact h
  refine hW0 (X := fun Z => W p l e _ s m _ below meth c Z locs 0 0 _ _) ?_
  refine lv_aload_n hx hb d_Md_allowed_0 rfl (lv_at hl 0 rfl) ?_
  refine lv_iload_n hx hb d_Md_allowed_1 rfl (lv_at hl 1 rfl) ?_
  refine nv_iconst (n := 0) hx hb d_Md_allowed_2 ?_
  refine nv_iconst (n := 5) hx hb d_Md_allowed_3 ?_
  obtain ⟨k1, v⟩ := v
  refine vp_callSi (nv_runS (wc := []) (As := [.int (iI c_), .int (iI 0), .int (iI 5)]) (rest := [.ref h0]) ⟨hx, hb, hml, hown, hts⟩ (m_Md_within l D cI cJ cO cZ c_ 0 5 (fun z => (z = 1 ∧ (0 ≤ c_ ∧ c_ ≤ 5)) ∨ (z = 0 ∧ ¬ (0 ≤ c_ ∧ c_ ≤ 5))) (s_Md_within c_ 0 5 k1 (by decide) (by decide))) (nv_cwS (n := 3) hts wd_809 wd_810 wd_10 wd_811 (by decide +kernel) ⟨Nat.le_of_ble_eq_true rfl, Nat.le_of_ble_eq_true rfl⟩) hK (hP.sub [] rfl) rfl hl.1 rfl (Nat.le_of_ble_eq_true rfl) d_Md_allowed_4 (Nat.le_of_ble_eq_true rfl) (Nat.le_of_ble_eq_true rfl)) (fun r hr => ?_)
  rcases hr with ⟨_, rfl, ⟨rfl, c2⟩ | ⟨rfl, c2⟩⟩
  · replace v := v.1 c2
    refine lv_iload_n hx hb d_Md_allowed_7 rfl (lv_at hl 2 rfl) ?_
    refine nv_iconst (n := (-1)) hx hb d_Md_allowed_8 ?_
    refine nv_ldc (z := 1000000000) hx hb hown (hts _ wd_820) (by decide) d_Md_allowed_9 ?_
    obtain ⟨k3, v⟩ := v
    refine vp_callSi (nv_runS (wc := []) (As := [.int (iI v_), .int (iI (-1)), .int (iI 1000000000)]) (rest := [.int (iI 1), .ref h0]) ⟨hx, hb, hml, hown, hts⟩ (m_Md_within l D cI cJ cO cZ v_ (-1) 1000000000 (fun z => (z = 1 ∧ ((-1) ≤ v_ ∧ v_ ≤ 1000000000)) ∨ (z = 0 ∧ ¬ ((-1) ≤ v_ ∧ v_ ≤ 1000000000))) (s_Md_within v_ (-1) 1000000000 k3 (by decide) (by decide))) (nv_cwS (n := 3) hts wd_809 wd_810 wd_10 wd_811 (by decide +kernel) ⟨Nat.le_of_ble_eq_true rfl, Nat.le_of_ble_eq_true rfl⟩) hK (hP.sub [] rfl) rfl hl.1 rfl (Nat.le_of_ble_eq_true rfl) d_Md_allowed_11 (Nat.le_of_ble_eq_true rfl) (Nat.le_of_ble_eq_true rfl)) (fun r hr => ?_)
    rcases hr with ⟨_, rfl, ⟨rfl, c4⟩ | ⟨rfl, c4⟩⟩
    · replace v := v.1 c4
      refine nv_iconst (n := 1) hx hb d_Md_allowed_14 ?_
      have hPc := hP.sub (ws' := (wMd cI cJ cZ h0 h1 h2 h3 h4 h5 h6 h7 h8 h9 h10 h11 h12 h13 h14 h15 h16 h17 h18 h19 h20 h21 h22 h23 th no ca ba nl xa sa da la ra fa ta ua uh uo ma mh ml nf fo fh fs rs ic mn bh bo ya np pa nc cp)) [0, 1, 2, 3, 4, 5, 6, 7, 8, 9, 10, 11, 12, 13, 14, 15, 16, 17, 18, 19, 20, 21, 22, 23] rfl
      have hDc := hD.sub (ws' := (wMd cI cJ cZ h0 h1 h2 h3 h4 h5 h6 h7 h8 h9 h10 h11 h12 h13 h14 h15 h16 h17 h18 h19 h20 h21 h22 h23 th no ca ba nl xa sa da la ra fa ta ua uh uo ma mh ml nf fo fh fs rs ic mn bh bo ya np pa nc cp)) [0, 1, 2, 3, 4, 5, 6, 7, 8, 9, 10, 11, 12, 13, 14, 15, 16, 17, 18, 19, 20, 21, 22, 23] (by decide) rfl
      have hFc := va_free (wc := (wMd cI cJ cZ h0 h1 h2 h3 h4 h5 h6 h7 h8 h9 h10 h11 h12 h13 h14 h15 h16 h17 h18 h19 h20 h21 h22 h23 th no ca ba nl xa sa da la ra fa ta ua uh uo ma mh ml nf fo fh fs rs ic mn bh bo ya np pa nc cp)) hD hS hA [0, 1, 2, 3, 4, 5, 6, 7, 8, 9, 10, 11, 12, 13, 14, 15, 16, 17, 18, 19, 20, 21, 22, 23] rfl
      refine va_calli (va_runV (As := [.int (iI 1), .int (iI 1), .int (iI 1)]) (rest := []) ⟨hx, hb, hml, hown, hts⟩ (m_Md_goes l D cI cJ cO cZ h0 h1 h2 h3 h4 h5 h6 h7 h8 h9 h10 h11 h12 h13 h14 h15 h16 h17 h18 h19 h20 h21 h22 h23 H.size th no ca ba nl xa sa da la ra fa ta ua uh uo ma mh ml nf fo fh fs rs ic mn bh bo ya np pa nc cp 1 1 1 (fun z t => z = 1 ∧ t = 0) (s_Md_goes_111 th no ca ba nl xa sa da la ra fa ta ua uh uo ma mh ml nf fo fh fs rs ic mn bh bo ya np pa nc cp)) (nv_cwV (n := 3) hts wd_812 wd_814 sl_17 wd_10 wd_815 (by decide +kernel) ⟨Nat.le_of_ble_eq_true rfl, Nat.le_of_ble_eq_true rfl⟩) ⟨blW, va_recv hK hPc (ci := 8) (q0 := 0) rfl rfl, fun U hU hW => ⟨rfl, by rw [hU], by rw [hU]; exact hPc, va_K.moved hW.alike hK, hDc.weaken (fun _ _ _ _ => trivial)⟩⟩ rfl rfl hl.1 rfl (lv_room (Nat.le_of_ble_eq_true rfl)) d_Md_allowed_15 ⟨Nat.le_of_ble_eq_true rfl, Nat.le_of_ble_eq_true rfl⟩) hS (fun q _ h => hFc q h) hFc (fun r u t H1 locs ht hvm hw hB hz1 hk1 hS => ?_)
      obtain ⟨hP1, hK1, hD1⟩ := hB
      rw [ht] at hP1
      obtain ⟨_, rfl, rfl, rfl⟩ := hw
      obtain ⟨hP, hD⟩ := va_join (wr := []) (w1 := (wMd cI cJ cZ h0 h1 h2 h3 h4 h5 h6 h7 h8 h9 h10 h11 h12 h13 h14 h15 h16 h17 h18 h19 h20 h21 h22 h23 0 no ca ba nl xa sa da la ra fa ta ua uh uo ma mh ml nf fo fh fs rs ic mn bh bo ya np pa nc cp)) hP hD [0, 1, 2, 3, 4, 5, 6, 7, 8, 9, 10, 11, 12, 13, 14, 15, 16, 17, 18, 19, 20, 21, 22, 23] [] rfl rfl (by decide) (by decide) hk1 hFc hP1 hD1
      generalize H1 = H at hP hS ⊢
      have hP : va_P D vwCl (wMd cI cJ cZ h0 h1 h2 h3 h4 h5 h6 h7 h8 h9 h10 h11 h12 h13 h14 h15 h16 h17 h18 h19 h20 h21 h22 h23 0 no ca ba nl xa sa da la ra fa ta ua uh uo ma mh ml nf fo fh fs rs ic mn bh bo ya np pa nc cp) H := hP
      have hD : va_D A (wMd cI cJ cZ h0 h1 h2 h3 h4 h5 h6 h7 h8 h9 h10 h11 h12 h13 h14 h15 h16 h17 h18 h19 h20 h21 h22 h23 0 no ca ba nl xa sa da la ra fa ta ua uh uo ma mh ml nf fo fh fs rs ic mn bh bo ya np pa nc cp) := hD
      refine W.widen (k := 0) (n := 0) (Nat.le_of_ble_eq_true rfl) (Nat.le_of_ble_eq_true rfl) ?_
      refine nv_if_ne (tgt := 23) hx hb d_Md_allowed_18 (by decide) (by decide) (fun _ => ?_) (fun c5 => absurd c5 (by decide))
      refine lv_aload_n hx hb d_Md_allowed_23 rfl (lv_at hl 0 rfl) ?_
      refine va_get (D := D) (ci := 8) (v := .ref h2) (C := "LightDosesModel") (T := T_Md) (N := 32) hx hb hts in_Md hown hK hP 0 rfl rfl 3 (by decide) (hts _ wd_706) (fun _ h9 => h9) rfl d_Md_allowed_24 ?_
      refine lv_iload_n hx hb d_Md_allowed_27 rfl (lv_at hl 1 rfl) ?_
      obtain ⟨k6, v⟩ := v
      refine nv_iald (f := ba) hx hb hK 0 (hP 2 _ rfl) rfl (c_).toNat (Int.toNat_of_nonneg k6.1).symm (by omega) (by decide) d_Md_allowed_28 ?_
      refine lv_istore_n (lv' := [(3, .int (iI (ba (c_).toNat))), (0, .ref h0), (1, .int (iI c_)), (2, .int (iI v_))]) hx hb d_Md_allowed_29 rfl hl (by decide) rfl (fun ls hl => ?_)
      refine lv_aload_n hx hb d_Md_allowed_30 rfl (lv_at hl 1 rfl) ?_
      refine va_get (D := D) (ci := 8) (v := .ref h2) (C := "LightDosesModel") (T := T_Md) (N := 32) hx hb hts in_Md hown hK hP 0 rfl rfl 3 (by decide) (hts _ wd_706) (fun _ h9 => h9) rfl d_Md_allowed_31 ?_
      refine lv_iload_n hx hb d_Md_allowed_34 rfl (lv_at hl 2 rfl) ?_
      refine lv_iload_n hx hb d_Md_allowed_35 rfl (lv_at hl 3 rfl) ?_
      obtain ⟨k7, v⟩ := v
      refine nv_iast (f := ba) hx hb hK hP hD hS 2 0 rfl rfl (c_).toNat (Int.toNat_of_nonneg k7.1).symm (by omega) (by decide) d_Md_allowed_36 (fun H locs hP hD hS => ?_)
      have hP : va_P D vwCl (wMd cI cJ cZ h0 h1 h2 h3 h4 h5 h6 h7 h8 h9 h10 h11 h12 h13 h14 h15 h16 h17 h18 h19 h20 h21 h22 h23 0 no ca (va_up ba (c_).toNat v_) nl xa sa da la ra fa ta ua uh uo ma mh ml nf fo fh fs rs ic mn bh bo ya np pa nc cp) H := hP
      have hD : va_D A (wMd cI cJ cZ h0 h1 h2 h3 h4 h5 h6 h7 h8 h9 h10 h11 h12 h13 h14 h15 h16 h17 h18 h19 h20 h21 h22 h23 0 no ca (va_up ba (c_).toNat v_) nl xa sa da la ra fa ta ua uh uo ma mh ml nf fo fh fs rs ic mn bh bo ya np pa nc cp) := hD
      refine lv_aload_n hx hb d_Md_allowed_37 rfl (lv_at hl 1 rfl) ?_
      refine nv_iconst (n := 0) hx hb d_Md_allowed_38 ?_
      refine va_put (D := D) (ci := 8) (v := .int (iI 0)) (ty := .boolean) (C := "LightDosesModel") (T := T_Md) (N := 32) hx hb hts in_Md t_Md tok_Md n_Md hown hK hP hD hS 0 rfl rfl 23 (by decide) (hts _ wd_726) (fun _ h9 => h9) rfl (by decide +kernel) (by decide) (by decide) (Nat.le_of_ble_eq_true rfl) d_Md_allowed_39 (fun H locs hP hD hS => ?_)
      have hP : va_P D vwCl (wMd cI cJ cZ h0 h1 h2 h3 h4 h5 h6 h7 h8 h9 h10 h11 h12 h13 h14 h15 h16 h17 h18 h19 h20 h21 h22 h23 0 no ca (va_up ba (c_).toNat v_) nl xa sa da la ra fa ta ua uh uo ma mh ml nf fo fh fs rs 0 mn bh bo ya np pa nc cp) H := hP
      have hD : va_D A (wMd cI cJ cZ h0 h1 h2 h3 h4 h5 h6 h7 h8 h9 h10 h11 h12 h13 h14 h15 h16 h17 h18 h19 h20 h21 h22 h23 0 no ca (va_up ba (c_).toNat v_) nl xa sa da la ra fa ta ua uh uo ma mh ml nf fo fh fs rs 0 mn bh bo ya np pa nc cp) := hD
      refine lv_iload_n hx hb d_Md_allowed_42 rfl (lv_at hl 0 rfl) ?_
      have hP9 := hP.sub (ws' := (wMd cI cJ cZ h0 h1 h2 h3 h4 h5 h6 h7 h8 h9 h10 h11 h12 h13 h14 h15 h16 h17 h18 h19 h20 h21 h22 h23 0 no ca (va_up ba (c_).toNat v_) nl xa sa da la ra fa ta ua uh uo ma mh ml nf fo fh fs rs 0 mn bh bo ya np pa nc cp)) [0, 1, 2, 3, 4, 5, 6, 7, 8, 9, 10, 11, 12, 13, 14, 15, 16, 17, 18, 19, 20, 21, 22, 23] rfl
      have hD9 := hD.sub (ws' := (wMd cI cJ cZ h0 h1 h2 h3 h4 h5 h6 h7 h8 h9 h10 h11 h12 h13 h14 h15 h16 h17 h18 h19 h20 h21 h22 h23 0 no ca (va_up ba (c_).toNat v_) nl xa sa da la ra fa ta ua uh uo ma mh ml nf fo fh fs rs 0 mn bh bo ya np pa nc cp)) [0, 1, 2, 3, 4, 5, 6, 7, 8, 9, 10, 11, 12, 13, 14, 15, 16, 17, 18, 19, 20, 21, 22, 23] (by decide) rfl
      exact W.iret hx hb hr (fun t ht hW => ⟨⟨_, ((0), (va_up ba (c_).toNat v_), (0)), rfl, ⟨_, rfl, v⟩, by rw [ht]; exact hP9, va_K.moved hW.alike hK, hD9⟩, hS.F ht⟩) hS.2.2 d_Md_allowed_43
    · replace v := v.2 c4
      refine nv_iconst (n := 1) hx hb d_Md_allowed_14 ?_
      have hPc := hP.sub (ws' := (wMd cI cJ cZ h0 h1 h2 h3 h4 h5 h6 h7 h8 h9 h10 h11 h12 h13 h14 h15 h16 h17 h18 h19 h20 h21 h22 h23 th no ca ba nl xa sa da la ra fa ta ua uh uo ma mh ml nf fo fh fs rs ic mn bh bo ya np pa nc cp)) [0, 1, 2, 3, 4, 5, 6, 7, 8, 9, 10, 11, 12, 13, 14, 15, 16, 17, 18, 19, 20, 21, 22, 23] rfl
      have hDc := hD.sub (ws' := (wMd cI cJ cZ h0 h1 h2 h3 h4 h5 h6 h7 h8 h9 h10 h11 h12 h13 h14 h15 h16 h17 h18 h19 h20 h21 h22 h23 th no ca ba nl xa sa da la ra fa ta ua uh uo ma mh ml nf fo fh fs rs ic mn bh bo ya np pa nc cp)) [0, 1, 2, 3, 4, 5, 6, 7, 8, 9, 10, 11, 12, 13, 14, 15, 16, 17, 18, 19, 20, 21, 22, 23] (by decide) rfl
      have hFc := va_free (wc := (wMd cI cJ cZ h0 h1 h2 h3 h4 h5 h6 h7 h8 h9 h10 h11 h12 h13 h14 h15 h16 h17 h18 h19 h20 h21 h22 h23 th no ca ba nl xa sa da la ra fa ta ua uh uo ma mh ml nf fo fh fs rs ic mn bh bo ya np pa nc cp)) hD hS hA [0, 1, 2, 3, 4, 5, 6, 7, 8, 9, 10, 11, 12, 13, 14, 15, 16, 17, 18, 19, 20, 21, 22, 23] rfl
      refine va_calli (va_runV (As := [.int (iI 1), .int (iI 0), .int (iI 1)]) (rest := []) ⟨hx, hb, hml, hown, hts⟩ (m_Md_goes l D cI cJ cO cZ h0 h1 h2 h3 h4 h5 h6 h7 h8 h9 h10 h11 h12 h13 h14 h15 h16 h17 h18 h19 h20 h21 h22 h23 H.size th no ca ba nl xa sa da la ra fa ta ua uh uo ma mh ml nf fo fh fs rs ic mn bh bo ya np pa nc cp 1 0 1 (fun z t => z = 0 ∧ t = 2) (s_Md_goes_101 th no ca ba nl xa sa da la ra fa ta ua uh uo ma mh ml nf fo fh fs rs ic mn bh bo ya np pa nc cp)) (nv_cwV (n := 3) hts wd_812 wd_814 sl_17 wd_10 wd_815 (by decide +kernel) ⟨Nat.le_of_ble_eq_true rfl, Nat.le_of_ble_eq_true rfl⟩) ⟨blW, va_recv hK hPc (ci := 8) (q0 := 0) rfl rfl, fun U hU hW => ⟨rfl, by rw [hU], by rw [hU]; exact hPc, va_K.moved hW.alike hK, hDc.weaken (fun _ _ _ _ => trivial)⟩⟩ rfl rfl hl.1 rfl (lv_room (Nat.le_of_ble_eq_true rfl)) d_Md_allowed_15 ⟨Nat.le_of_ble_eq_true rfl, Nat.le_of_ble_eq_true rfl⟩) hS (fun q _ h => hFc q h) hFc (fun r u t H1 locs ht hvm hw hB hz1 hk1 hS => ?_)
      obtain ⟨hP1, hK1, hD1⟩ := hB
      rw [ht] at hP1
      obtain ⟨_, rfl, rfl, rfl⟩ := hw
      obtain ⟨hP, hD⟩ := va_join (wr := []) (w1 := (wMd cI cJ cZ h0 h1 h2 h3 h4 h5 h6 h7 h8 h9 h10 h11 h12 h13 h14 h15 h16 h17 h18 h19 h20 h21 h22 h23 2 no ca ba nl xa sa da la ra fa ta ua uh uo ma mh ml nf fo fh fs rs ic mn bh bo ya np pa nc cp)) hP hD [0, 1, 2, 3, 4, 5, 6, 7, 8, 9, 10, 11, 12, 13, 14, 15, 16, 17, 18, 19, 20, 21, 22, 23] [] rfl rfl (by decide) (by decide) hk1 hFc hP1 hD1
      generalize H1 = H at hP hS ⊢
      have hP : va_P D vwCl (wMd cI cJ cZ h0 h1 h2 h3 h4 h5 h6 h7 h8 h9 h10 h11 h12 h13 h14 h15 h16 h17 h18 h19 h20 h21 h22 h23 2 no ca ba nl xa sa da la ra fa ta ua uh uo ma mh ml nf fo fh fs rs ic mn bh bo ya np pa nc cp) H := hP
      have hD : va_D A (wMd cI cJ cZ h0 h1 h2 h3 h4 h5 h6 h7 h8 h9 h10 h11 h12 h13 h14 h15 h16 h17 h18 h19 h20 h21 h22 h23 2 no ca ba nl xa sa da la ra fa ta ua uh uo ma mh ml nf fo fh fs rs ic mn bh bo ya np pa nc cp) := hD
      refine W.widen (k := 0) (n := 0) (Nat.le_of_ble_eq_true rfl) (Nat.le_of_ble_eq_true rfl) ?_
      refine nv_if_ne (tgt := 23) hx hb d_Md_allowed_18 (by decide) (by decide) (fun c8 => absurd c8 (by decide)) (fun _ => ?_)
      refine nv_iconst (n := 0) hx hb d_Md_allowed_21 ?_
      have hP9 := hP.sub (ws' := (wMd cI cJ cZ h0 h1 h2 h3 h4 h5 h6 h7 h8 h9 h10 h11 h12 h13 h14 h15 h16 h17 h18 h19 h20 h21 h22 h23 2 no ca ba nl xa sa da la ra fa ta ua uh uo ma mh ml nf fo fh fs rs ic mn bh bo ya np pa nc cp)) [0, 1, 2, 3, 4, 5, 6, 7, 8, 9, 10, 11, 12, 13, 14, 15, 16, 17, 18, 19, 20, 21, 22, 23] rfl
      have hD9 := hD.sub (ws' := (wMd cI cJ cZ h0 h1 h2 h3 h4 h5 h6 h7 h8 h9 h10 h11 h12 h13 h14 h15 h16 h17 h18 h19 h20 h21 h22 h23 2 no ca ba nl xa sa da la ra fa ta ua uh uo ma mh ml nf fo fh fs rs ic mn bh bo ya np pa nc cp)) [0, 1, 2, 3, 4, 5, 6, 7, 8, 9, 10, 11, 12, 13, 14, 15, 16, 17, 18, 19, 20, 21, 22, 23] (by decide) rfl
      exact W.iret hx hb hr (fun t ht hW => ⟨⟨_, ((2), (ba), (ic)), rfl, ⟨_, rfl, v⟩, by rw [ht]; exact hP9, va_K.moved hW.alike hK, hD9⟩, hS.F ht⟩) hS.2.2 d_Md_allowed_22
  · replace v := v.2 c2
    refine lv_iload_n hx hb d_Md_allowed_7 rfl (lv_at hl 2 rfl) ?_
    refine nv_iconst (n := (-1)) hx hb d_Md_allowed_8 ?_
    refine nv_ldc (z := 1000000000) hx hb hown (hts _ wd_820) (by decide) d_Md_allowed_9 ?_
    obtain ⟨k9, v⟩ := v
    refine vp_callSi (nv_runS (wc := []) (As := [.int (iI v_), .int (iI (-1)), .int (iI 1000000000)]) (rest := [.int (iI 0), .ref h0]) ⟨hx, hb, hml, hown, hts⟩ (m_Md_within l D cI cJ cO cZ v_ (-1) 1000000000 (fun z => (z = 1 ∧ ((-1) ≤ v_ ∧ v_ ≤ 1000000000)) ∨ (z = 0 ∧ ¬ ((-1) ≤ v_ ∧ v_ ≤ 1000000000))) (s_Md_within v_ (-1) 1000000000 k9 (by decide) (by decide))) (nv_cwS (n := 3) hts wd_809 wd_810 wd_10 wd_811 (by decide +kernel) ⟨Nat.le_of_ble_eq_true rfl, Nat.le_of_ble_eq_true rfl⟩) hK (hP.sub [] rfl) rfl hl.1 rfl (Nat.le_of_ble_eq_true rfl) d_Md_allowed_11 (Nat.le_of_ble_eq_true rfl) (Nat.le_of_ble_eq_true rfl)) (fun r hr => ?_)
    rcases hr with ⟨_, rfl, ⟨rfl, c10⟩ | ⟨rfl, c10⟩⟩
    · replace v := v.1 c10
      refine nv_iconst (n := 1) hx hb d_Md_allowed_14 ?_
      have hPc := hP.sub (ws' := (wMd cI cJ cZ h0 h1 h2 h3 h4 h5 h6 h7 h8 h9 h10 h11 h12 h13 h14 h15 h16 h17 h18 h19 h20 h21 h22 h23 th no ca ba nl xa sa da la ra fa ta ua uh uo ma mh ml nf fo fh fs rs ic mn bh bo ya np pa nc cp)) [0, 1, 2, 3, 4, 5, 6, 7, 8, 9, 10, 11, 12, 13, 14, 15, 16, 17, 18, 19, 20, 21, 22, 23] rfl
      have hDc := hD.sub (ws' := (wMd cI cJ cZ h0 h1 h2 h3 h4 h5 h6 h7 h8 h9 h10 h11 h12 h13 h14 h15 h16 h17 h18 h19 h20 h21 h22 h23 th no ca ba nl xa sa da la ra fa ta ua uh uo ma mh ml nf fo fh fs rs ic mn bh bo ya np pa nc cp)) [0, 1, 2, 3, 4, 5, 6, 7, 8, 9, 10, 11, 12, 13, 14, 15, 16, 17, 18, 19, 20, 21, 22, 23] (by decide) rfl
      have hFc := va_free (wc := (wMd cI cJ cZ h0 h1 h2 h3 h4 h5 h6 h7 h8 h9 h10 h11 h12 h13 h14 h15 h16 h17 h18 h19 h20 h21 h22 h23 th no ca ba nl xa sa da la ra fa ta ua uh uo ma mh ml nf fo fh fs rs ic mn bh bo ya np pa nc cp)) hD hS hA [0, 1, 2, 3, 4, 5, 6, 7, 8, 9, 10, 11, 12, 13, 14, 15, 16, 17, 18, 19, 20, 21, 22, 23] rfl
      refine va_calli (va_runV (As := [.int (iI 0), .int (iI 1), .int (iI 1)]) (rest := []) ⟨hx, hb, hml, hown, hts⟩ (m_Md_goes l D cI cJ cO cZ h0 h1 h2 h3 h4 h5 h6 h7 h8 h9 h10 h11 h12 h13 h14 h15 h16 h17 h18 h19 h20 h21 h22 h23 H.size th no ca ba nl xa sa da la ra fa ta ua uh uo ma mh ml nf fo fh fs rs ic mn bh bo ya np pa nc cp 0 1 1 (fun z t => z = 0 ∧ t = 1) (s_Md_goes_011 th no ca ba nl xa sa da la ra fa ta ua uh uo ma mh ml nf fo fh fs rs ic mn bh bo ya np pa nc cp)) (nv_cwV (n := 3) hts wd_812 wd_814 sl_17 wd_10 wd_815 (by decide +kernel) ⟨Nat.le_of_ble_eq_true rfl, Nat.le_of_ble_eq_true rfl⟩) ⟨blW, va_recv hK hPc (ci := 8) (q0 := 0) rfl rfl, fun U hU hW => ⟨rfl, by rw [hU], by rw [hU]; exact hPc, va_K.moved hW.alike hK, hDc.weaken (fun _ _ _ _ => trivial)⟩⟩ rfl rfl hl.1 rfl (lv_room (Nat.le_of_ble_eq_true rfl)) d_Md_allowed_15 ⟨Nat.le_of_ble_eq_true rfl, Nat.le_of_ble_eq_true rfl⟩) hS (fun q _ h => hFc q h) hFc (fun r u t H1 locs ht hvm hw hB hz1 hk1 hS => ?_)
      obtain ⟨hP1, hK1, hD1⟩ := hB
      rw [ht] at hP1
      obtain ⟨_, rfl, rfl, rfl⟩ := hw
      obtain ⟨hP, hD⟩ := va_join (wr := []) (w1 := (wMd cI cJ cZ h0 h1 h2 h3 h4 h5 h6 h7 h8 h9 h10 h11 h12 h13 h14 h15 h16 h17 h18 h19 h20 h21 h22 h23 1 no ca ba nl xa sa da la ra fa ta ua uh uo ma mh ml nf fo fh fs rs ic mn bh bo ya np pa nc cp)) hP hD [0, 1, 2, 3, 4, 5, 6, 7, 8, 9, 10, 11, 12, 13, 14, 15, 16, 17, 18, 19, 20, 21, 22, 23] [] rfl rfl (by decide) (by decide) hk1 hFc hP1 hD1
      generalize H1 = H at hP hS ⊢
      have hP : va_P D vwCl (wMd cI cJ cZ h0 h1 h2 h3 h4 h5 h6 h7 h8 h9 h10 h11 h12 h13 h14 h15 h16 h17 h18 h19 h20 h21 h22 h23 1 no ca ba nl xa sa da la ra fa ta ua uh uo ma mh ml nf fo fh fs rs ic mn bh bo ya np pa nc cp) H := hP
      have hD : va_D A (wMd cI cJ cZ h0 h1 h2 h3 h4 h5 h6 h7 h8 h9 h10 h11 h12 h13 h14 h15 h16 h17 h18 h19 h20 h21 h22 h23 1 no ca ba nl xa sa da la ra fa ta ua uh uo ma mh ml nf fo fh fs rs ic mn bh bo ya np pa nc cp) := hD
      refine W.widen (k := 0) (n := 0) (Nat.le_of_ble_eq_true rfl) (Nat.le_of_ble_eq_true rfl) ?_
      refine nv_if_ne (tgt := 23) hx hb d_Md_allowed_18 (by decide) (by decide) (fun c11 => absurd c11 (by decide)) (fun _ => ?_)
      refine nv_iconst (n := 0) hx hb d_Md_allowed_21 ?_
      have hP9 := hP.sub (ws' := (wMd cI cJ cZ h0 h1 h2 h3 h4 h5 h6 h7 h8 h9 h10 h11 h12 h13 h14 h15 h16 h17 h18 h19 h20 h21 h22 h23 1 no ca ba nl xa sa da la ra fa ta ua uh uo ma mh ml nf fo fh fs rs ic mn bh bo ya np pa nc cp)) [0, 1, 2, 3, 4, 5, 6, 7, 8, 9, 10, 11, 12, 13, 14, 15, 16, 17, 18, 19, 20, 21, 22, 23] rfl
      have hD9 := hD.sub (ws' := (wMd cI cJ cZ h0 h1 h2 h3 h4 h5 h6 h7 h8 h9 h10 h11 h12 h13 h14 h15 h16 h17 h18 h19 h20 h21 h22 h23 1 no ca ba nl xa sa da la ra fa ta ua uh uo ma mh ml nf fo fh fs rs ic mn bh bo ya np pa nc cp)) [0, 1, 2, 3, 4, 5, 6, 7, 8, 9, 10, 11, 12, 13, 14, 15, 16, 17, 18, 19, 20, 21, 22, 23] (by decide) rfl
      exact W.iret hx hb hr (fun t ht hW => ⟨⟨_, ((1), (ba), (ic)), rfl, ⟨_, rfl, v⟩, by rw [ht]; exact hP9, va_K.moved hW.alike hK, hD9⟩, hS.F ht⟩) hS.2.2 d_Md_allowed_22
    · replace v := v.2 c10
      refine nv_iconst (n := 1) hx hb d_Md_allowed_14 ?_
      have hPc := hP.sub (ws' := (wMd cI cJ cZ h0 h1 h2 h3 h4 h5 h6 h7 h8 h9 h10 h11 h12 h13 h14 h15 h16 h17 h18 h19 h20 h21 h22 h23 th no ca ba nl xa sa da la ra fa ta ua uh uo ma mh ml nf fo fh fs rs ic mn bh bo ya np pa nc cp)) [0, 1, 2, 3, 4, 5, 6, 7, 8, 9, 10, 11, 12, 13, 14, 15, 16, 17, 18, 19, 20, 21, 22, 23] rfl
      have hDc := hD.sub (ws' := (wMd cI cJ cZ h0 h1 h2 h3 h4 h5 h6 h7 h8 h9 h10 h11 h12 h13 h14 h15 h16 h17 h18 h19 h20 h21 h22 h23 th no ca ba nl xa sa da la ra fa ta ua uh uo ma mh ml nf fo fh fs rs ic mn bh bo ya np pa nc cp)) [0, 1, 2, 3, 4, 5, 6, 7, 8, 9, 10, 11, 12, 13, 14, 15, 16, 17, 18, 19, 20, 21, 22, 23] (by decide) rfl
      have hFc := va_free (wc := (wMd cI cJ cZ h0 h1 h2 h3 h4 h5 h6 h7 h8 h9 h10 h11 h12 h13 h14 h15 h16 h17 h18 h19 h20 h21 h22 h23 th no ca ba nl xa sa da la ra fa ta ua uh uo ma mh ml nf fo fh fs rs ic mn bh bo ya np pa nc cp)) hD hS hA [0, 1, 2, 3, 4, 5, 6, 7, 8, 9, 10, 11, 12, 13, 14, 15, 16, 17, 18, 19, 20, 21, 22, 23] rfl
      refine va_calli (va_runV (As := [.int (iI 0), .int (iI 0), .int (iI 1)]) (rest := []) ⟨hx, hb, hml, hown, hts⟩ (m_Md_goes l D cI cJ cO cZ h0 h1 h2 h3 h4 h5 h6 h7 h8 h9 h10 h11 h12 h13 h14 h15 h16 h17 h18 h19 h20 h21 h22 h23 H.size th no ca ba nl xa sa da la ra fa ta ua uh uo ma mh ml nf fo fh fs rs ic mn bh bo ya np pa nc cp 0 0 1 (fun z t => z = 0 ∧ t = 1) (s_Md_goes_001 th no ca ba nl xa sa da la ra fa ta ua uh uo ma mh ml nf fo fh fs rs ic mn bh bo ya np pa nc cp)) (nv_cwV (n := 3) hts wd_812 wd_814 sl_17 wd_10 wd_815 (by decide +kernel) ⟨Nat.le_of_ble_eq_true rfl, Nat.le_of_ble_eq_true rfl⟩) ⟨blW, va_recv hK hPc (ci := 8) (q0 := 0) rfl rfl, fun U hU hW => ⟨rfl, by rw [hU], by rw [hU]; exact hPc, va_K.moved hW.alike hK, hDc.weaken (fun _ _ _ _ => trivial)⟩⟩ rfl rfl hl.1 rfl (lv_room (Nat.le_of_ble_eq_true rfl)) d_Md_allowed_15 ⟨Nat.le_of_ble_eq_true rfl, Nat.le_of_ble_eq_true rfl⟩) hS (fun q _ h => hFc q h) hFc (fun r u t H1 locs ht hvm hw hB hz1 hk1 hS => ?_)
      obtain ⟨hP1, hK1, hD1⟩ := hB
      rw [ht] at hP1
      obtain ⟨_, rfl, rfl, rfl⟩ := hw
      obtain ⟨hP, hD⟩ := va_join (wr := []) (w1 := (wMd cI cJ cZ h0 h1 h2 h3 h4 h5 h6 h7 h8 h9 h10 h11 h12 h13 h14 h15 h16 h17 h18 h19 h20 h21 h22 h23 1 no ca ba nl xa sa da la ra fa ta ua uh uo ma mh ml nf fo fh fs rs ic mn bh bo ya np pa nc cp)) hP hD [0, 1, 2, 3, 4, 5, 6, 7, 8, 9, 10, 11, 12, 13, 14, 15, 16, 17, 18, 19, 20, 21, 22, 23] [] rfl rfl (by decide) (by decide) hk1 hFc hP1 hD1
      generalize H1 = H at hP hS ⊢
      have hP : va_P D vwCl (wMd cI cJ cZ h0 h1 h2 h3 h4 h5 h6 h7 h8 h9 h10 h11 h12 h13 h14 h15 h16 h17 h18 h19 h20 h21 h22 h23 1 no ca ba nl xa sa da la ra fa ta ua uh uo ma mh ml nf fo fh fs rs ic mn bh bo ya np pa nc cp) H := hP
      have hD : va_D A (wMd cI cJ cZ h0 h1 h2 h3 h4 h5 h6 h7 h8 h9 h10 h11 h12 h13 h14 h15 h16 h17 h18 h19 h20 h21 h22 h23 1 no ca ba nl xa sa da la ra fa ta ua uh uo ma mh ml nf fo fh fs rs ic mn bh bo ya np pa nc cp) := hD
      refine W.widen (k := 0) (n := 0) (Nat.le_of_ble_eq_true rfl) (Nat.le_of_ble_eq_true rfl) ?_
      refine nv_if_ne (tgt := 23) hx hb d_Md_allowed_18 (by decide) (by decide) (fun c12 => absurd c12 (by decide)) (fun _ => ?_)
      refine nv_iconst (n := 0) hx hb d_Md_allowed_21 ?_
      have hP9 := hP.sub (ws' := (wMd cI cJ cZ h0 h1 h2 h3 h4 h5 h6 h7 h8 h9 h10 h11 h12 h13 h14 h15 h16 h17 h18 h19 h20 h21 h22 h23 1 no ca ba nl xa sa da la ra fa ta ua uh uo ma mh ml nf fo fh fs rs ic mn bh bo ya np pa nc cp)) [0, 1, 2, 3, 4, 5, 6, 7, 8, 9, 10, 11, 12, 13, 14, 15, 16, 17, 18, 19, 20, 21, 22, 23] rfl
      have hD9 := hD.sub (ws' := (wMd cI cJ cZ h0 h1 h2 h3 h4 h5 h6 h7 h8 h9 h10 h11 h12 h13 h14 h15 h16 h17 h18 h19 h20 h21 h22 h23 1 no ca ba nl xa sa da la ra fa ta ua uh uo ma mh ml nf fo fh fs rs ic mn bh bo ya np pa nc cp)) [0, 1, 2, 3, 4, 5, 6, 7, 8, 9, 10, 11, 12, 13, 14, 15, 16, 17, 18, 19, 20, 21, 22, 23] (by decide) rfl
      exact W.iret hx hb hr (fun t ht hW => ⟨⟨_, ((1), (ba), (ic)), rfl, ⟨_, rfl, v⟩, by rw [ht]; exact hP9, va_K.moved hW.alike hK, hD9⟩, hS.F ht⟩) hS.2.2 d_Md_allowed_22

theorem d_Md_shines_0 : decode prog_10_method_13_code 0 = .ok (.aload_n 0, 1) := by decide +kernel
theorem d_Md_shines_1 : decode prog_10_method_13_code 1 = .ok (.aload_n 0, 1) := by decide +kernel
theorem d_Md_shines_2 : decode prog_10_method_13_code 2 = .ok (.iload_n 1, 1) := by decide +kernel
theorem d_Md_shines_3 : decode prog_10_method_13_code 3 = .ok (.invokevirtual 113, 3) := by decide +kernel
theorem d_Md_shines_6 : decode prog_10_method_13_code 6 = .ok (.ifCond .eq 15, 3) := by decide +kernel
theorem d_Md_shines_9 : decode prog_10_method_13_code 9 = .ok (.aload_n 0, 1) := by decide +kernel
theorem d_Md_shines_10 : decode prog_10_method_13_code 10 = .ok (.iload_n 2, 1) := by decide +kernel
theorem d_Md_shines_11 : decode prog_10_method_13_code 11 = .ok (.invokevirtual 116, 3) := by decide +kernel
theorem d_Md_shines_14 : decode prog_10_method_13_code 14 = .ok (.ifCond .eq 7, 3) := by decide +kernel
theorem d_Md_shines_17 : decode prog_10_method_13_code 17 = .ok (.iconst 1, 1) := by decide +kernel
theorem d_Md_shines_18 : decode prog_10_method_13_code 18 = .ok (.goto 4, 3) := by decide +kernel
theorem d_Md_shines_21 : decode prog_10_method_13_code 21 = .ok (.iconst 0, 1) := by decide +kernel
theorem d_Md_shines_22 : decode prog_10_method_13_code 22 = .ok (.iload_n 3, 1) := by decide +kernel
theorem d_Md_shines_23 : decode prog_10_method_13_code 23 = .ok (.iconst 0, 1) := by decide +kernel
theorem d_Md_shines_24 : decode prog_10_method_13_code 24 = .ok (.sipush 1000, 3) := by decide +kernel
theorem d_Md_shines_27 : decode prog_10_method_13_code 27 = .ok (.invokestatic 92, 3) := by decide +kernel
theorem d_Md_shines_30 : decode prog_10_method_13_code 30 = .ok (.iconst 1, 1) := by decide +kernel
theorem d_Md_shines_31 : decode prog_10_method_13_code 31 = .ok (.invokevirtual 96, 3) := by decide +kernel
theorem d_Md_shines_34 : decode prog_10_method_13_code 34 = .ok (.ifCond .ne 5, 3) := by decide +kernel
theorem d_Md_shines_37 : decode prog_10_method_13_code 37 = .ok (.iconst 0, 1) := by decide +kernel
theorem d_Md_shines_38 : decode prog_10_method_13_code 38 = .ok (.ireturn, 1) := by decide +kernel
theorem d_Md_shines_39 : decode prog_10_method_13_code 39 = .ok (.aload_n 0, 1) := by decide +kernel
theorem d_Md_shines_40 : decode prog_10_method_13_code 40 = .ok (.getfield 19, 3) := by decide +kernel
theorem d_Md_shines_43 : decode prog_10_method_13_code 43 = .ok (.bipush 12, 2) := by decide +kernel
theorem d_Md_shines_45 : decode prog_10_method_13_code 45 = .ok (.iload_n 1, 1) := by decide +kernel
theorem d_Md_shines_46 : decode prog_10_method_13_code 46 = .ok (.imul, 1) := by decide +kernel
theorem d_Md_shines_47 : decode prog_10_method_13_code 47 = .ok (.iload_n 2, 1) := by decide +kernel
theorem d_Md_shines_48 : decode prog_10_method_13_code 48 = .ok (.iadd, 1) := by decide +kernel
theorem d_Md_shines_49 : decode prog_10_method_13_code 49 = .ok (.iaload, 1) := by decide +kernel
theorem d_Md_shines_50 : decode prog_10_method_13_code 50 = .ok (.istore 4, 2) := by decide +kernel
theorem d_Md_shines_52 : decode prog_10_method_13_code 52 = .ok (.aload_n 0, 1) := by decide +kernel
theorem d_Md_shines_53 : decode prog_10_method_13_code 53 = .ok (.getfield 19, 3) := by decide +kernel
theorem d_Md_shines_56 : decode prog_10_method_13_code 56 = .ok (.bipush 12, 2) := by decide +kernel
theorem d_Md_shines_58 : decode prog_10_method_13_code 58 = .ok (.iload_n 1, 1) := by decide +kernel
theorem d_Md_shines_59 : decode prog_10_method_13_code 59 = .ok (.imul, 1) := by decide +kernel
theorem d_Md_shines_60 : decode prog_10_method_13_code 60 = .ok (.iload_n 2, 1) := by decide +kernel
theorem d_Md_shines_61 : decode prog_10_method_13_code 61 = .ok (.iadd, 1) := by decide +kernel
theorem d_Md_shines_62 : decode prog_10_method_13_code 62 = .ok (.iload_n 3, 1) := by decide +kernel
theorem d_Md_shines_63 : decode prog_10_method_13_code 63 = .ok (.iastore, 1) := by decide +kernel
theorem d_Md_shines_64 : decode prog_10_method_13_code 64 = .ok (.aload_n 0, 1) := by decide +kernel
theorem d_Md_shines_65 : decode prog_10_method_13_code 65 = .ok (.iconst 0, 1) := by decide +kernel
theorem d_Md_shines_66 : decode prog_10_method_13_code 66 = .ok (.putfield 100, 3) := by decide +kernel
theorem d_Md_shines_69 : decode prog_10_method_13_code 69 = .ok (.iload 4, 2) := by decide +kernel
theorem d_Md_shines_71 : decode prog_10_method_13_code 71 = .ok (.ireturn, 1) := by decide +kernel
def vc_Md_shines (th : Int) (no : Int) (ca : Nat → Int) (ba : Nat → Int) (nl : Int) (xa : Nat → Int) (sa : Nat → Int) (da : Nat → Int) (la : Nat → Int) (ra : Nat → Int) (fa : Nat → Int) (ta : Nat → Int) (ua : Nat → Int) (uh : Nat → Int) (uo : Nat → Int) (ma : Nat → Int) (mh : Nat → Int) (ml : Nat → Int) (nf : Int) (fo : Nat → Int) (fh : Nat → Int) (fs : Nat → Int) (rs : Int) (ic : Int) (mn : Int) (bh : Nat → Int) (bo : Nat → Int) (ya : Nat → Int) (np : Int) (pa : Nat → Int) (nc : Int) (cp : Nat → Int) (lp : Int) (ob : Int) (sh : Int) (post : Int → Int → (Nat → Int) → Int → Prop) : Prop := (r32 lp) ∧ ((r32 nl) ∧ (((0 ≤ lp ∧ lp < nl) → (r32 ob) ∧ ((r32 no) ∧ (((0 ≤ ob ∧ ob < no) → (r32 sh) ∧ (((0 ≤ sh ∧ sh ≤ 1000) → (0 ≤ 12 * lp + ob ∧ 12 * lp + ob < 96) ∧ ((0 ≤ 12 * lp + ob ∧ 12 * lp + ob < 96) ∧ (post (sa (12 * lp + ob).toNat) 0 (va_up sa (12 * lp + ob).toNat sh) 0))) ∧ (¬ (0 ≤ sh ∧ sh ≤ 1000) → post 0 2 sa ic))) ∧ (¬ (0 ≤ ob ∧ ob < no) → (r32 sh) ∧ (((0 ≤ sh ∧ sh ≤ 1000) → post 0 1 sa ic) ∧ (¬ (0 ≤ sh ∧ sh ≤ 1000) → post 0 1 sa ic)))))) ∧ (¬ (0 ≤ lp ∧ lp < nl) → (r32 sh) ∧ (((0 ≤ sh ∧ sh ≤ 1000) → post 0 1 sa ic) ∧ (¬ (0 ≤ sh ∧ sh ≤ 1000) → post 0 1 sa ic)))))
set_option maxHeartbeats 4000000 in
set_option maxRecDepth 100000 in
theorem m_Md_shines (l : Launch) (D : va_G) (cI cJ cO cZ : ClassId) (h0 h1 h2 h3 h4 h5 h6 h7 h8 h9 h10 h11 h12 h13 h14 h15 h16 h17 h18 h19 h20 h21 h22 h23 : Nat) (sz : Nat) (th : Int) (no : Int) (ca : Nat → Int) (ba : Nat → Int) (nl : Int) (xa : Nat → Int) (sa : Nat → Int) (da : Nat → Int) (la : Nat → Int) (ra : Nat → Int) (fa : Nat → Int) (ta : Nat → Int) (ua : Nat → Int) (uh : Nat → Int) (uo : Nat → Int) (ma : Nat → Int) (mh : Nat → Int) (ml : Nat → Int) (nf : Int) (fo : Nat → Int) (fh : Nat → Int) (fs : Nat → Int) (rs : Int) (ic : Int) (mn : Int) (bh : Nat → Int) (bo : Nat → Int) (ya : Nat → Int) (np : Int) (pa : Nat → Int) (nc : Int) (cp : Nat → Int) (lp : Int) (ob : Int) (sh : Int) (post : Int → Int → (Nat → Int) → Int → Prop) (v : vc_Md_shines th no ca ba nl xa sa da la ra fa ta ua uh uo ma mh ml nf fo fh fs rs ic mn bh bo ya np pa nc cp lp ob sh post) : Met l ⟨"LightDosesModel", "shines", "(III)I"⟩ (.code ⟨"LightDosesModel", "shines", "(III)I"⟩ prog_10_method_13_code 5 (some .int) :: TG) { frames := 1, cells := 0, slots := 0, locals := 23 } (va_Pc [.ref h0, .int (iI lp), .int (iI ob), .int (iI sh)] (fun U => U.heap.size = sz ∧ va_P D vwCl (wMd cI cJ cZ h0 h1 h2 h3 h4 h5 h6 h7 h8 h9 h10 h11 h12 h13 h14 h15 h16 h17 h18 h19 h20 h21 h22 h23 th no ca ba nl xa sa da la ra fa ta ua uh uo ma mh ml nf fo fh fs rs ic mn bh bo ya np pa nc cp) U.heap ∧ va_K D vwCl (tyx cI cJ cO cZ) U ∧ va_D (fun _ => True) (wMd cI cJ cZ h0 h1 h2 h3 h4 h5 h6 h7 h8 h9 h10 h11 h12 h13 h14 h15 h16 h17 h18 h19 h20 h21 h22 h23 th no ca ba nl xa sa da la ra fa ta ua uh uo ma mh ml nf fo fh fs rs ic mn bh bo ya np pa nc cp))) (va_Qi (fun (r : Int32) (u : Int × (Nat → Int) × Int) => ∃ z : Int, r = iI z ∧ post z u.1 u.2.1 u.2.2) (fun u t => va_P D vwCl (wMd cI cJ cZ h0 h1 h2 h3 h4 h5 h6 h7 h8 h9 h10 h11 h12 h13 h14 h15 h16 h17 h18 h19 h20 h21 h22 h23 u.1 no ca ba nl xa u.2.1 da la ra fa ta ua uh uo ma mh ml nf fo fh fs rs u.2.2 mn bh bo ya np pa nc cp) t.heap ∧ va_K D vwCl (tyx cI cJ cO cZ) t ∧ va_D (va_A (wMd cI cJ cZ h0 h1 h2 h3 h4 h5 h6 h7 h8 h9 h10 h11 h12 h13 h14 h15 h16 h17 h18 h19 h20 h21 h22 h23 th no ca ba nl xa sa da la ra fa ta ua uh uo ma mh ml nf fo fh fs rs ic mn bh bo ya np pa nc cp) sz) (wMd cI cJ cZ h0 h1 h2 h3 h4 h5 h6 h7 h8 h9 h10 h11 h12 h13 h14 h15 h16 h17 h18 h19 h20 h21 h22 h23 u.1 no ca ba nl xa u.2.1 da la ra fa ta ua uh uo ma mh ml nf fo fh fs rs u.2.2 mn bh bo ya np pa nc cp)) (va_A (wMd cI cJ cZ h0 h1 h2 h3 h4 h5 h6 h7 h8 h9 h10 h11 h12 h13 h14 h15 h16 h17 h18 h19 h20 h21 h22 h23 th no ca ba nl xa sa da la ra fa ta ua uh uo ma mh ml nf fo fh fs rs ic mn bh bo ya np pa nc cp) sz)) 0 0 (va_A (wMd cI cJ cZ h0 h1 h2 h3 h4 h5 h6 h7 h8 h9 h10 h11 h12 h13 h14 h15 h16 h17 h18 h19 h20 h21 h22 h23 th no ca ba nl xa sa da la ra fa ta ua uh uo ma mh ml nf fo fh fs rs ic mn bh bo ya np pa nc cp) sz) := by
  refine Met.ofW (cc := prog_10_method_13_code) (maxL := 5) (ret := (some .int)) (by decide) rfl ?_
  intro p e s m args below meth c s₁ B hml hv
  obtain ⟨rfl, hsz, hP, hK, hD0⟩ := hv
  have hx := B.exec
  have hb := B.bytes
  have hr := B.returns
  have hts0 := atoms_spec (ws := (.code ⟨"LightDosesModel", "shines", "(III)I"⟩ prog_10_method_13_code 5 (some .int) :: TG)) B.pre
  have hts : ∀ w ∈ TG, w.before _ s = true := fun w h => hts0 w (List.mem_cons_of_mem _ h)
  have hown : s.vm.findClass "LightDosesModel" = some m.cls := findClass_of_methodNamed B.named
  have hlocks := B.notSynchronized
  subst hsz
  have hD := hD0.self (sz := s.heap.size)
  generalize hAe : va_A (wMd cI cJ cZ h0 h1 h2 h3 h4 h5 h6 h7 h8 h9 h10 h11 h12 h13 h14 h15 h16 h17 h18 h19 h20 h21 h22 h23 th no ca ba nl xa sa da la ra fa ta ua uh uo ma mh ml nf fo fh fs rs ic mn bh bo ya np pa nc cp) s.heap.size = A at hD ⊢
  have hA : ∀ q : Nat, s.heap.size ≤ q → A q := fun q h => by rw [← hAe]; exact Or.inr h
  have hS : va_S A s.heap s.heap [] := va_S.rf
  have hP : va_P D vwCl (wMd cI cJ cZ h0 h1 h2 h3 h4 h5 h6 h7 h8 h9 h10 h11 h12 h13 h14 h15 h16 h17 h18 h19 h20 h21 h22 h23 th no ca ba nl xa sa da la ra fa ta ua uh uo ma mh ml nf fo fh fs rs ic mn bh bo ya np pa nc cp) s.heap := hP
  have hl := lv_entry ([Value.ref h0, Value.int (iI lp), Value.int (iI ob), Value.int (iI sh)]) (n := 5) (Nat.le_of_ble_eq_true rfl)
  rw [lg_entry_eq]
  generalize (lg_sl ([Value.ref h0, Value.int (iI lp), Value.int (iI ob), Value.int (iI sh)]) ++ List.replicate (5 - (lg_sl ([Value.ref h0, Value.int (iI lp), Value.int (iI ob), Value.int (iI sh)])).length) Slot.unset).toArray = ls at hl ⊢
  have hl : lv_has ls 5 [(0, .ref h0), (1, .int (iI lp)), (2, .int (iI ob)), (3, .int (iI sh))] := hl
  unfold vc_Md_shines at v
  obtain ⟨H, hH⟩ : ∃ H, H = s.heap := ⟨_, rfl⟩
  obtain ⟨locs, hlc⟩ : ∃ L : List Loc, L = [] := ⟨_, rfl⟩
  rw [← hlc] at hS ⊢
  have hP : va_P D vwCl (wMd cI cJ cZ h0 h1 h2 h3 h4 h5 h6 h7 h8 h9 h10 h11 h12 h13 h14 h15 h16 h17 h18 h19 h20 h21 h22 h23 th no ca ba nl xa sa da la ra fa ta ua uh uo ma mh ml nf fo fh fs rs ic mn bh bo ya np pa nc cp) H := by rw [hH]; exact hP
  have hS : va_S A s.heap H locs := by rw [hH]; exact hS
  have hW0 : ∀ {X : Heap → Prop}, X H → X s.heap := fun h => by rw [← hH]; exact h
  refine hW0 (X := fun Z => W p l e _ s m _ below meth c Z locs 0 0 _ _) ?_
  refine lv_aload_n hx hb d_Md_shines_0 rfl (lv_at hl 0 rfl) ?_
  refine lv_aload_n hx hb d_Md_shines_1 rfl (lv_at hl 0 rfl) ?_
  refine lv_iload_n hx hb d_Md_shines_2 rfl (lv_at hl 1 rfl) ?_
  obtain ⟨k1, v⟩ := v
  obtain ⟨k2, v⟩ := v
  refine vp_callSi (nv_runV (wc := (wMd cI cJ cZ h0 h1 h2 h3 h4 h5 h6 h7 h8 h9 h10 h11 h12 h13 h14 h15 h16 h17 h18 h19 h20 h21 h22 h23 th no ca ba nl xa sa da la ra fa ta ua uh uo ma mh ml nf fo fh fs rs ic mn bh bo ya np pa nc cp)) (As := [.int (iI lp)]) (rest := [.ref h0]) ⟨hx, hb, hml, hown, hts⟩ (m_Md_isLamp l D cI cJ cO cZ h0 h1 h2 h3 h4 h5 h6 h7 h8 h9 h10 h11 h12 h13 h14 h15 h16 h17 h18 h19 h20 h21 h22 h23 th no ca ba nl xa sa da la ra fa ta ua uh uo ma mh ml nf fo fh fs rs ic mn bh bo ya np pa nc cp lp (fun z => (z = 1 ∧ (0 ≤ lp ∧ lp < nl)) ∨ (z = 0 ∧ ¬ (0 ≤ lp ∧ lp < nl))) (s_Md_isLamp th no ca ba nl xa sa da la ra fa ta ua uh uo ma mh ml nf fo fh fs rs ic mn bh bo ya np pa nc cp lp k1 k2)) (nv_cwV (n := 1) hts wd_836 wd_838 sl_19 wd_10 wd_839 (by decide +kernel) ⟨Nat.le_of_ble_eq_true rfl, Nat.le_of_ble_eq_true rfl⟩) hK (hP.sub [0, 1, 2, 3, 4, 5, 6, 7, 8, 9, 10, 11, 12, 13, 14, 15, 16, 17, 18, 19, 20, 21, 22, 23] rfl) (va_recv hK hP (ci := 8) (q0 := 0) rfl rfl) rfl hl.1 rfl (Nat.le_of_ble_eq_true rfl) d_Md_shines_3 (Nat.le_of_ble_eq_true rfl) (Nat.le_of_ble_eq_true rfl)) (fun r hr => ?_)
  rcases hr with ⟨_, rfl, ⟨rfl, c3⟩ | ⟨rfl, c3⟩⟩
  · replace v := v.1 c3
    refine nv_if_eq (tgt := 21) hx hb d_Md_shines_6 (by decide) (by decide) (fun c4 => absurd c4 (by decide)) (fun _ => ?_)
    refine lv_aload_n hx hb d_Md_shines_9 rfl (lv_at hl 0 rfl) ?_
    refine lv_iload_n hx hb d_Md_shines_10 rfl (lv_at hl 2 rfl) ?_
    obtain ⟨k5, v⟩ := v
    obtain ⟨k6, v⟩ := v
    refine vp_callSi (nv_runV (wc := (wMd cI cJ cZ h0 h1 h2 h3 h4 h5 h6 h7 h8 h9 h10 h11 h12 h13 h14 h15 h16 h17 h18 h19 h20 h21 h22 h23 th no ca ba nl xa sa da la ra fa ta ua uh uo ma mh ml nf fo fh fs rs ic mn bh bo ya np pa nc cp)) (As := [.int (iI ob)]) (rest := [.ref h0]) ⟨hx, hb, hml, hown, hts⟩ (m_Md_isObject l D cI cJ cO cZ h0 h1 h2 h3 h4 h5 h6 h7 h8 h9 h10 h11 h12 h13 h14 h15 h16 h17 h18 h19 h20 h21 h22 h23 th no ca ba nl xa sa da la ra fa ta ua uh uo ma mh ml nf fo fh fs rs ic mn bh bo ya np pa nc cp ob (fun z => (z = 1 ∧ (0 ≤ ob ∧ ob < no)) ∨ (z = 0 ∧ ¬ (0 ≤ ob ∧ ob < no))) (s_Md_isObject th no ca ba nl xa sa da la ra fa ta ua uh uo ma mh ml nf fo fh fs rs ic mn bh bo ya np pa nc cp ob k5 k6)) (nv_cwV (n := 1) hts wd_840 wd_842 sl_20 wd_10 wd_843 (by decide +kernel) ⟨Nat.le_of_ble_eq_true rfl, Nat.le_of_ble_eq_true rfl⟩) hK (hP.sub [0, 1, 2, 3, 4, 5, 6, 7, 8, 9, 10, 11, 12, 13, 14, 15, 16, 17, 18, 19, 20, 21, 22, 23] rfl) (va_recv hK hP (ci := 8) (q0 := 0) rfl rfl) rfl hl.1 rfl (Nat.le_of_ble_eq_true rfl) d_Md_shines_11 (Nat.le_of_ble_eq_true rfl) (Nat.le_of_ble_eq_true rfl)) (fun r hr => ?_)
    rcases hr with ⟨_, rfl, ⟨rfl, c7⟩ | ⟨rfl, c7⟩⟩
    · replace v := v.1 c7
      refine nv_if_eq (tgt := 21) hx hb d_Md_shines_14 (by decide) (by decide) (fun c8 => absurd c8 (by decide)) (fun _ => ?_)
      refine nv_iconst (n := 1) hx hb d_Md_shines_17 ?_
      refine lv_goto (tgt := 22) hx hb d_Md_shines_18 (by decide) ?_
      refine lv_iload_n hx hb d_Md_shines_22 rfl (lv_at hl 3 rfl) ?_
      refine nv_iconst (n := 0) hx hb d_Md_shines_23 ?_
      refine nv_sipush (z := 1000) hx hb d_Md_shines_24 (by decide) ?_
      obtain ⟨k9, v⟩ := v
      refine vp_callSi (nv_runS (wc := []) (As := [.int (iI sh), .int (iI 0), .int (iI 1000)]) (rest := [.int (iI 1), .ref h0]) ⟨hx, hb, hml, hown, hts⟩ (m_Md_within l D cI cJ cO cZ sh 0 1000 (fun z => (z = 1 ∧ (0 ≤ sh ∧ sh ≤ 1000)) ∨ (z = 0 ∧ ¬ (0 ≤ sh ∧ sh ≤ 1000))) (s_Md_within sh 0 1000 k9 (by decide) (by decide))) (nv_cwS (n := 3) hts wd_809 wd_810 wd_10 wd_811 (by decide +kernel) ⟨Nat.le_of_ble_eq_true rfl, Nat.le_of_ble_eq_true rfl⟩) hK (hP.sub [] rfl) rfl hl.1 rfl (Nat.le_of_ble_eq_true rfl) d_Md_shines_27 (Nat.le_of_ble_eq_true rfl) (Nat.le_of_ble_eq_true rfl)) (fun r hr => ?_)
      rcases hr with ⟨_, rfl, ⟨rfl, c10⟩ | ⟨rfl, c10⟩⟩
      · replace v := v.1 c10
        refine nv_iconst (n := 1) hx hb d_Md_shines_30 ?_
        have hPc := hP.sub (ws' := (wMd cI cJ cZ h0 h1 h2 h3 h4 h5 h6 h7 h8 h9 h10 h11 h12 h13 h14 h15 h16 h17 h18 h19 h20 h21 h22 h23 th no ca ba nl xa sa da la ra fa ta ua uh uo ma mh ml nf fo fh fs rs ic mn bh bo ya np pa nc cp)) [0, 1, 2, 3, 4, 5, 6, 7, 8, 9, 10, 11, 12, 13, 14, 15, 16, 17, 18, 19, 20, 21, 22, 23] rfl
        have hDc := hD.sub (ws' := (wMd cI cJ cZ h0 h1 h2 h3 h4 h5 h6 h7 h8 h9 h10 h11 h12 h13 h14 h15 h16 h17 h18 h19 h20 h21 h22 h23 th no ca ba nl xa sa da la ra fa ta ua uh uo ma mh ml nf fo fh fs rs ic mn bh bo ya np pa nc cp)) [0, 1, 2, 3, 4, 5, 6, 7, 8, 9, 10, 11, 12, 13, 14, 15, 16, 17, 18, 19, 20, 21, 22, 23] (by decide) rfl
        have hFc := va_free (wc := (wMd cI cJ cZ h0 h1 h2 h3 h4 h5 h6 h7 h8 h9 h10 h11 h12 h13 h14 h15 h16 h17 h18 h19 h20 h21 h22 h23 th no ca ba nl xa sa da la ra fa ta ua uh uo ma mh ml nf fo fh fs rs ic mn bh bo ya np pa nc cp)) hD hS hA [0, 1, 2, 3, 4, 5, 6, 7, 8, 9, 10, 11, 12, 13, 14, 15, 16, 17, 18, 19, 20, 21, 22, 23] rfl
        refine va_calli (va_runV (As := [.int (iI 1), .int (iI 1), .int (iI 1)]) (rest := []) ⟨hx, hb, hml, hown, hts⟩ (m_Md_goes l D cI cJ cO cZ h0 h1 h2 h3 h4 h5 h6 h7 h8 h9 h10 h11 h12 h13 h14 h15 h16 h17 h18 h19 h20 h21 h22 h23 H.size th no ca ba nl xa sa da la ra fa ta ua uh uo ma mh ml nf fo fh fs rs ic mn bh bo ya np pa nc cp 1 1 1 (fun z t => z = 1 ∧ t = 0) (s_Md_goes_111 th no ca ba nl xa sa da la ra fa ta ua uh uo ma mh ml nf fo fh fs rs ic mn bh bo ya np pa nc cp)) (nv_cwV (n := 3) hts wd_812 wd_814 sl_17 wd_10 wd_815 (by decide +kernel) ⟨Nat.le_of_ble_eq_true rfl, Nat.le_of_ble_eq_true rfl⟩) ⟨blW, va_recv hK hPc (ci := 8) (q0 := 0) rfl rfl, fun U hU hW => ⟨rfl, by rw [hU], by rw [hU]; exact hPc, va_K.moved hW.alike hK, hDc.weaken (fun _ _ _ _ => trivial)⟩⟩ rfl rfl hl.1 rfl (lv_room (Nat.le_of_ble_eq_true rfl)) d_Md_shines_31 ⟨Nat.le_of_ble_eq_true rfl, Nat.le_of_ble_eq_true rfl⟩) hS (fun q _ h => hFc q h) hFc (fun r u t H1 locs ht hvm hw hB hz1 hk1 hS => ?_)
        obtain ⟨hP1, hK1, hD1⟩ := hB
        rw [ht] at hP1
        obtain ⟨_, rfl, rfl, rfl⟩ := hw
        obtain ⟨hP, hD⟩ := va_join (wr := []) (w1 := (wMd cI cJ cZ h0 h1 h2 h3 h4 h5 h6 h7 h8 h9 h10 h11 h12 h13 h14 h15 h16 h17 h18 h19 h20 h21 h22 h23 0 no ca ba nl xa sa da la ra fa ta ua uh uo ma mh ml nf fo fh fs rs ic mn bh bo ya np pa nc cp)) hP hD [0, 1, 2, 3, 4, 5, 6, 7, 8, 9, 10, 11, 12, 13, 14, 15, 16, 17, 18, 19, 20, 21, 22, 23] [] rfl rfl (by decide) (by decide) hk1 hFc hP1 hD1
        generalize H1 = H at hP hS ⊢
        have hP : va_P D vwCl (wMd cI cJ cZ h0 h1 h2 h3 h4 h5 h6 h7 h8 h9 h10 h11 h12 h13 h14 h15 h16 h17 h18 h19 h20 h21 h22 h23 0 no ca ba nl xa sa da la ra fa ta ua uh uo ma mh ml nf fo fh fs rs ic mn bh bo ya np pa nc cp) H := hP
        have hD : va_D A (wMd cI cJ cZ h0 h1 h2 h3 h4 h5 h6 h7 h8 h9 h10 h11 h12 h13 h14 h15 h16 h17 h18 h19 h20 h21 h22 h23 0 no ca ba nl xa sa da la ra fa ta ua uh uo ma mh ml nf fo fh fs rs ic mn bh bo ya np pa nc cp) := hD
        refine W.widen (k := 0) (n := 0) (Nat.le_of_ble_eq_true rfl) (Nat.le_of_ble_eq_true rfl) ?_
        refine nv_if_ne (tgt := 39) hx hb d_Md_shines_34 (by decide) (by decide) (fun _ => ?_) (fun c11 => absurd c11 (by decide))
        refine lv_aload_n hx hb d_Md_shines_39 rfl (lv_at hl 0 rfl) ?_
        refine va_get (D := D) (ci := 8) (v := .ref h4) (C := "LightDosesModel") (T := T_Md) (N := 32) hx hb hts in_Md hown hK hP 0 rfl rfl 6 (by decide) (hts _ wd_709) (fun _ h9 => h9) rfl d_Md_shines_40 ?_
        refine nv_bipush (z := 12) hx hb d_Md_shines_43 (by decide) ?_
        refine lv_iload_n hx hb d_Md_shines_45 rfl (lv_at hl 1 rfl) ?_
        refine nv_imul (z := 12 * lp) hx hb d_Md_shines_46 (by first | rfl | omega) ?_
        refine lv_iload_n hx hb d_Md_shines_47 rfl (lv_at hl 2 rfl) ?_
        refine nv_iadd (z := 12 * lp + ob) hx hb d_Md_shines_48 (by first | rfl | omega) ?_
        obtain ⟨k12, v⟩ := v
        refine nv_iald (f := sa) hx hb hK 0 (hP 4 _ rfl) rfl (12 * lp + ob).toNat (Int.toNat_of_nonneg k12.1).symm (by omega) (by decide) d_Md_shines_49 ?_
        refine lv_istore (lv' := [(4, .int (iI (sa (12 * lp + ob).toNat))), (0, .ref h0), (1, .int (iI lp)), (2, .int (iI ob)), (3, .int (iI sh))]) hx hb d_Md_shines_50 hl (by decide) rfl (fun ls hl => ?_)
        refine lv_aload_n hx hb d_Md_shines_52 rfl (lv_at hl 1 rfl) ?_
        refine va_get (D := D) (ci := 8) (v := .ref h4) (C := "LightDosesModel") (T := T_Md) (N := 32) hx hb hts in_Md hown hK hP 0 rfl rfl 6 (by decide) (hts _ wd_709) (fun _ h9 => h9) rfl d_Md_shines_53 ?_
        refine nv_bipush (z := 12) hx hb d_Md_shines_56 (by decide) ?_
        refine lv_iload_n hx hb d_Md_shines_58 rfl (lv_at hl 2 rfl) ?_
        refine nv_imul (z := 12 * lp) hx hb d_Md_shines_59 (by first | rfl | omega) ?_
        refine lv_iload_n hx hb d_Md_shines_60 rfl (lv_at hl 3 rfl) ?_
        refine nv_iadd (z := 12 * lp + ob) hx hb d_Md_shines_61 (by first | rfl | omega) ?_
        refine lv_iload_n hx hb d_Md_shines_62 rfl (lv_at hl 4 rfl) ?_
        obtain ⟨k13, v⟩ := v
        refine nv_iast (f := sa) hx hb hK hP hD hS 4 0 rfl rfl (12 * lp + ob).toNat (Int.toNat_of_nonneg k13.1).symm (by omega) (by decide) d_Md_shines_63 (fun H locs hP hD hS => ?_)
        have hP : va_P D vwCl (wMd cI cJ cZ h0 h1 h2 h3 h4 h5 h6 h7 h8 h9 h10 h11 h12 h13 h14 h15 h16 h17 h18 h19 h20 h21 h22 h23 0 no ca ba nl xa (va_up sa (12 * lp + ob).toNat sh) da la ra fa ta ua uh uo ma mh ml nf fo fh fs rs ic mn bh bo ya np pa nc cp) H := hP
        have hD : va_D A (wMd cI cJ cZ h0 h1 h2 h3 h4 h5 h6 h7 h8 h9 h10 h11 h12 h13 h14 h15 h16 h17 h18 h19 h20 h21 h22 h23 0 no ca ba nl xa (va_up sa (12 * lp + ob).toNat sh) da la ra fa ta ua uh uo ma mh ml nf fo fh fs rs ic mn bh bo ya np pa nc cp) := hD
        refine lv_aload_n hx hb d_Md_shines_64 rfl (lv_at hl 1 rfl) ?_
        refine nv_iconst (n := 0) hx hb d_Md_shines_65 ?_
        refine va_put (D := D) (ci := 8) (v := .int (iI 0)) (ty := .boolean) (C := "LightDosesModel") (T := T_Md) (N := 32) hx hb hts in_Md t_Md tok_Md n_Md hown hK hP hD hS 0 rfl rfl 23 (by decide) (hts _ wd_726) (fun _ h9 => h9) rfl (by decide +kernel) (by decide) (by decide) (Nat.le_of_ble_eq_true rfl) d_Md_shines_66 (fun H locs hP hD hS => ?_)
        have hP : va_P D vwCl (wMd cI cJ cZ h0 h1 h2 h3 h4 h5 h6 h7 h8 h9 h10 h11 h12 h13 h14 h15 h16 h17 h18 h19 h20 h21 h22 h23 0 no ca ba nl xa (va_up sa (12 * lp + ob).toNat sh) da la ra fa ta ua uh uo ma mh ml nf fo fh fs rs 0 mn bh bo ya np pa nc cp) H := hP
        have hD : va_D A (wMd cI cJ cZ h0 h1 h2 h3 h4 h5 h6 h7 h8 h9 h10 h11 h12 h13 h14 h15 h16 h17 h18 h19 h20 h21 h22 h23 0 no ca ba nl xa (va_up sa (12 * lp + ob).toNat sh) da la ra fa ta ua uh uo ma mh ml nf fo fh fs rs 0 mn bh bo ya np pa nc cp) := hD
        refine lv_iload hx hb d_Md_shines_69 (lv_at hl 0 rfl) ?_
        have hP9 := hP.sub (ws' := (wMd cI cJ cZ h0 h1 h2 h3 h4 h5 h6 h7 h8 h9 h10 h11 h12 h13 h14 h15 h16 h17 h18 h19 h20 h21 h22 h23 0 no ca ba nl xa (va_up sa (12 * lp + ob).toNat sh) da la ra fa ta ua uh uo ma mh ml nf fo fh fs rs 0 mn bh bo ya np pa nc cp)) [0, 1, 2, 3, 4, 5, 6, 7, 8, 9, 10, 11, 12, 13, 14, 15, 16, 17, 18, 19, 20, 21, 22, 23] rfl
        have hD9 := hD.sub (ws' := (wMd cI cJ cZ h0 h1 h2 h3 h4 h5 h6 h7 h8 h9 h10 h11 h12 h13 h14 h15 h16 h17 h18 h19 h20 h21 h22 h23 0 no ca ba nl xa (va_up sa (12 * lp + ob).toNat sh) da la ra fa ta ua uh uo ma mh ml nf fo fh fs rs 0 mn bh bo ya np pa nc cp)) [0, 1, 2, 3, 4, 5, 6, 7, 8, 9, 10, 11, 12, 13, 14, 15, 16, 17, 18, 19, 20, 21, 22, 23] (by decide) rfl
        exact W.iret hx hb hr (fun t ht hW => ⟨⟨_, ((0), (va_up sa (12 * lp + ob).toNat sh), (0)), rfl, ⟨_, rfl, v⟩, by rw [ht]; exact hP9, va_K.moved hW.alike hK, hD9⟩, hS.F ht⟩) hS.2.2 d_Md_shines_71
      · replace v := v.2 c10
        refine nv_iconst (n := 1) hx hb d_Md_shines_30 ?_
        have hPc := hP.sub (ws' := (wMd cI cJ cZ h0 h1 h2 h3 h4 h5 h6 h7 h8 h9 h10 h11 h12 h13 h14 h15 h16 h17 h18 h19 h20 h21 h22 h23 th no ca ba nl xa sa da la ra fa ta ua uh uo ma mh ml nf fo fh fs rs ic mn bh bo ya np pa nc cp)) [0, 1, 2, 3, 4, 5, 6, 7, 8, 9, 10, 11, 12, 13, 14, 15, 16, 17, 18, 19, 20, 21, 22, 23] rfl
        have hDc := hD.sub (ws' := (wMd cI cJ cZ h0 h1 h2 h3 h4 h5 h6 h7 h8 h9 h10 h11 h12 h13 h14 h15 h16 h17 h18 h19 h20 h21 h22 h23 th no ca ba nl xa sa da la ra fa ta ua uh uo ma mh ml nf fo fh fs rs ic mn bh bo ya np pa nc cp)) [0, 1, 2, 3, 4, 5, 6, 7, 8, 9, 10, 11, 12, 13, 14, 15, 16, 17, 18, 19, 20, 21, 22, 23] (by decide) rfl
        have hFc := va_free (wc := (wMd cI cJ cZ h0 h1 h2 h3 h4 h5 h6 h7 h8 h9 h10 h11 h12 h13 h14 h15 h16 h17 h18 h19 h20 h21 h22 h23 th no ca ba nl xa sa da la ra fa ta ua uh uo ma mh ml nf fo fh fs rs ic mn bh bo ya np pa nc cp)) hD hS hA [0, 1, 2, 3, 4, 5, 6, 7, 8, 9, 10, 11, 12, 13, 14, 15, 16, 17, 18, 19, 20, 21, 22, 23] rfl
        refine va_calli (va_runV (As := [.int (iI 1), .int (iI 0), .int (iI 1)]) (rest := []) ⟨hx, hb, hml, hown, hts⟩ (m_Md_goes l D cI cJ cO cZ h0 h1 h2 h3 h4 h5 h6 h7 h8 h9 h10 h11 h12 h13 h14 h15 h16 h17 h18 h19 h20 h21 h22 h23 H.size th no ca ba nl xa sa da la ra fa ta ua uh uo ma mh ml nf fo fh fs rs ic mn bh bo ya np pa nc cp 1 0 1 (fun z t => z = 0 ∧ t = 2) (s_Md_goes_101 th no ca ba nl xa sa da la ra fa ta ua uh uo ma mh ml nf fo fh fs rs ic mn bh bo ya np pa nc cp)) (nv_cwV (n := 3) hts wd_812 wd_814 sl_17 wd_10 wd_815 (by decide +kernel) ⟨Nat.le_of_ble_eq_true rfl, Nat.le_of_ble_eq_true rfl⟩) ⟨blW, va_recv hK hPc (ci := 8) (q0 := 0) rfl rfl, fun U hU hW => ⟨rfl, by rw [hU], by rw [hU]; exact hPc, va_K.moved hW.alike hK, hDc.weaken (fun _ _ _ _ => trivial)⟩⟩ rfl rfl hl.1 rfl (lv_room (Nat.le_of_ble_eq_true rfl)) d_Md_shines_31 ⟨Nat.le_of_ble_eq_true rfl, Nat.le_of_ble_eq_true rfl⟩) hS (fun q _ h => hFc q h) hFc (fun r u t H1 locs ht hvm hw hB hz1 hk1 hS => ?_)
        obtain ⟨hP1, hK1, hD1⟩ := hB
        rw [ht] at hP1
        obtain ⟨_, rfl, rfl, rfl⟩ := hw
        obtain ⟨hP, hD⟩ := va_join (wr := []) (w1 := (wMd cI cJ cZ h0 h1 h2 h3 h4 h5 h6 h7 h8 h9 h10 h11 h12 h13 h14 h15 h16 h17 h18 h19 h20 h21 h22 h23 2 no ca ba nl xa sa da la ra fa ta ua uh uo ma mh ml nf fo fh fs rs ic mn bh bo ya np pa nc cp)) hP hD [0, 1, 2, 3, 4, 5, 6, 7, 8, 9, 10, 11, 12, 13, 14, 15, 16, 17, 18, 19, 20, 21, 22, 23] [] rfl rfl (by decide) (by decide) hk1 hFc hP1 hD1
        generalize H1 = H at hP hS ⊢
        have hP : va_P D vwCl (wMd cI cJ cZ h0 h1 h2 h3 h4 h5 h6 h7 h8 h9 h10 h11 h12 h13 h14 h15 h16 h17 h18 h19 h20 h21 h22 h23 2 no ca ba nl xa sa da la ra fa ta ua uh uo ma mh ml nf fo fh fs rs ic mn bh bo ya np pa nc cp) H := hP
        have hD : va_D A (wMd cI cJ cZ h0 h1 h2 h3 h4 h5 h6 h7 h8 h9 h10 h11 h12 h13 h14 h15 h16 h17 h18 h19 h20 h21 h22 h23 2 no ca ba nl xa sa da la ra fa ta ua uh uo ma mh ml nf fo fh fs rs ic mn bh bo ya np pa nc cp) := hD
        refine W.widen (k := 0) (n := 0) (Nat.le_of_ble_eq_true rfl) (Nat.le_of_ble_eq_true rfl) ?_
        refine nv_if_ne (tgt := 39) hx hb d_Md_shines_34 (by decide) (by decide) (fun c14 => absurd c14 (by decide)) (fun _ => ?_)
        refine nv_iconst (n := 0) hx hb d_Md_shines_37 ?_
        have hP9 := hP.sub (ws' := (wMd cI cJ cZ h0 h1 h2 h3 h4 h5 h6 h7 h8 h9 h10 h11 h12 h13 h14 h15 h16 h17 h18 h19 h20 h21 h22 h23 2 no ca ba nl xa sa da la ra fa ta ua uh uo ma mh ml nf fo fh fs rs ic mn bh bo ya np pa nc cp)) [0, 1, 2, 3, 4, 5, 6, 7, 8, 9, 10, 11, 12, 13, 14, 15, 16, 17, 18, 19, 20, 21, 22, 23] rfl
        have hD9 := hD.sub (ws' := (wMd cI cJ cZ h0 h1 h2 h3 h4 h5 h6 h7 h8 h9 h10 h11 h12 h13 h14 h15 h16 h17 h18 h19 h20 h21 h22 h23 2 no ca ba nl xa sa da la ra fa ta ua uh uo ma mh ml nf fo fh fs rs ic mn bh bo ya np pa nc cp)) [0, 1, 2, 3, 4, 5, 6, 7, 8, 9, 10, 11, 12, 13, 14, 15, 16, 17, 18, 19, 20, 21, 22, 23] (by decide) rfl
        exact W.iret hx hb hr (fun t ht hW => ⟨⟨_, ((2), (sa), (ic)), rfl, ⟨_, rfl, v⟩, by rw [ht]; exact hP9, va_K.moved hW.alike hK, hD9⟩, hS.F ht⟩) hS.2.2 d_Md_shines_38
    · replace v := v.2 c7
      refine nv_if_eq (tgt := 21) hx hb d_Md_shines_14 (by decide) (by decide) (fun _ => ?_) (fun c15 => absurd c15 (by decide))
      refine nv_iconst (n := 0) hx hb d_Md_shines_21 ?_
      refine lv_iload_n hx hb d_Md_shines_22 rfl (lv_at hl 3 rfl) ?_
      refine nv_iconst (n := 0) hx hb d_Md_shines_23 ?_
      refine nv_sipush (z := 1000) hx hb d_Md_shines_24 (by decide) ?_
      obtain ⟨k16, v⟩ := v
      refine vp_callSi (nv_runS (wc := []) (As := [.int (iI sh), .int (iI 0), .int (iI 1000)]) (rest := [.int (iI 0), .ref h0]) ⟨hx, hb, hml, hown, hts⟩ (m_Md_within l D cI cJ cO cZ sh 0 1000 (fun z => (z = 1 ∧ (0 ≤ sh ∧ sh ≤ 1000)) ∨ (z = 0 ∧ ¬ (0 ≤ sh ∧ sh ≤ 1000))) (s_Md_within sh 0 1000 k16 (by decide) (by decide))) (nv_cwS (n := 3) hts wd_809 wd_810 wd_10 wd_811 (by decide +kernel) ⟨Nat.le_of_ble_eq_true rfl, Nat.le_of_ble_eq_true rfl⟩) hK (hP.sub [] rfl) rfl hl.1 rfl (Nat.le_of_ble_eq_true rfl) d_Md_shines_27 (Nat.le_of_ble_eq_true rfl) (Nat.le_of_ble_eq_true rfl)) (fun r hr => ?_)
      rcases hr with ⟨_, rfl, ⟨rfl, c17⟩ | ⟨rfl, c17⟩⟩
      · replace v := v.1 c17
        refine nv_iconst (n := 1) hx hb d_Md_shines_30 ?_
        have hPc := hP.sub (ws' := (wMd cI cJ cZ h0 h1 h2 h3 h4 h5 h6 h7 h8 h9 h10 h11 h12 h13 h14 h15 h16 h17 h18 h19 h20 h21 h22 h23 th no ca ba nl xa sa da la ra fa ta ua uh uo ma mh ml nf fo fh fs rs ic mn bh bo ya np pa nc cp)) [0, 1, 2, 3, 4, 5, 6, 7, 8, 9, 10, 11, 12, 13, 14, 15, 16, 17, 18, 19, 20, 21, 22, 23] rfl
        have hDc := hD.sub (ws' := (wMd cI cJ cZ h0 h1 h2 h3 h4 h5 h6 h7 h8 h9 h10 h11 h12 h13 h14 h15 h16 h17 h18 h19 h20 h21 h22 h23 th no ca ba nl xa sa da la ra fa ta ua uh uo ma mh ml nf fo fh fs rs ic mn bh bo ya np pa nc cp)) [0, 1, 2, 3, 4, 5, 6, 7, 8, 9, 10, 11, 12, 13, 14, 15, 16, 17, 18, 19, 20, 21, 22, 23] (by decide) rfl
        have hFc := va_free (wc := (wMd cI cJ cZ h0 h1 h2 h3 h4 h5 h6 h7 h8 h9 h10 h11 h12 h13 h14 h15 h16 h17 h18 h19 h20 h21 h22 h23 th no ca ba nl xa sa da la ra fa ta ua uh uo ma mh ml nf fo fh fs rs ic mn bh bo ya np pa nc cp)) hD hS hA [0, 1, 2, 3, 4, 5, 6, 7, 8, 9, 10, 11, 12, 13, 14, 15, 16, 17, 18, 19, 20, 21, 22, 23] rfl
        refine va_calli (va_runV (As := [.int (iI 0), .int (iI 1), .int (iI 1)]) (rest := []) ⟨hx, hb, hml, hown, hts⟩ (m_Md_goes l D cI cJ cO cZ h0 h1 h2 h3 h4 h5 h6 h7 h8 h9 h10 h11 h12 h13 h14 h15 h16 h17 h18 h19 h20 h21 h22 h23 H.size th no ca ba nl xa sa da la ra fa ta ua uh uo ma mh ml nf fo fh fs rs ic mn bh bo ya np pa nc cp 0 1 1 (fun z t => z = 0 ∧ t = 1) (s_Md_goes_011 th no ca ba nl xa sa da la ra fa ta ua uh uo ma mh ml nf fo fh fs rs ic mn bh bo ya np pa nc cp)) (nv_cwV (n := 3) hts wd_812 wd_814 sl_17 wd_10 wd_815 (by decide +kernel) ⟨Nat.le_of_ble_eq_true rfl, Nat.le_of_ble_eq_true rfl⟩) ⟨blW, va_recv hK hPc (ci := 8) (q0 := 0) rfl rfl, fun U hU hW => ⟨rfl, by rw [hU], by rw [hU]; exact hPc, va_K.moved hW.alike hK, hDc.weaken (fun _ _ _ _ => trivial)⟩⟩ rfl rfl hl.1 rfl (lv_room (Nat.le_of_ble_eq_true rfl)) d_Md_shines_31 ⟨Nat.le_of_ble_eq_true rfl, Nat.le_of_ble_eq_true rfl⟩) hS (fun q _ h => hFc q h) hFc (fun r u t H1 locs ht hvm hw hB hz1 hk1 hS => ?_)
        obtain ⟨hP1, hK1, hD1⟩ := hB
        rw [ht] at hP1
        obtain ⟨_, rfl, rfl, rfl⟩ := hw
        obtain ⟨hP, hD⟩ := va_join (wr := []) (w1 := (wMd cI cJ cZ h0 h1 h2 h3 h4 h5 h6 h7 h8 h9 h10 h11 h12 h13 h14 h15 h16 h17 h18 h19 h20 h21 h22 h23 1 no ca ba nl xa sa da la ra fa ta ua uh uo ma mh ml nf fo fh fs rs ic mn bh bo ya np pa nc cp)) hP hD [0, 1, 2, 3, 4, 5, 6, 7, 8, 9, 10, 11, 12, 13, 14, 15, 16, 17, 18, 19, 20, 21, 22, 23] [] rfl rfl (by decide) (by decide) hk1 hFc hP1 hD1
        generalize H1 = H at hP hS ⊢
        have hP : va_P D vwCl (wMd cI cJ cZ h0 h1 h2 h3 h4 h5 h6 h7 h8 h9 h10 h11 h12 h13 h14 h15 h16 h17 h18 h19 h20 h21 h22 h23 1 no ca ba nl xa sa da la ra fa ta ua uh uo ma mh ml nf fo fh fs rs ic mn bh bo ya np pa nc cp) H := hP
        have hD : va_D A (wMd cI cJ cZ h0 h1 h2 h3 h4 h5 h6 h7 h8 h9 h10 h11 h12 h13 h14 h15 h16 h17 h18 h19 h20 h21 h22 h23 1 no ca ba nl xa sa da la ra fa ta ua uh uo ma mh ml nf fo fh fs rs ic mn bh bo ya np pa nc cp) := hD
        refine W.widen (k := 0) (n := 0) (Nat.le_of_ble_eq_true rfl) (Nat.le_of_ble_eq_true rfl) ?_
        refine nv_if_ne (tgt := 39) hx hb d_Md_shines_34 (by decide) (by decide) (fun c18 => absurd c18 (by decide)) (fun _ => ?_)
        refine nv_iconst (n := 0) hx hb d_Md_shines_37 ?_
        have hP9 := hP.sub (ws' := (wMd cI cJ cZ h0 h1 h2 h3 h4 h5 h6 h7 h8 h9 h10 h11 h12 h13 h14 h15 h16 h17 h18 h19 h20 h21 h22 h23 1 no ca ba nl xa sa da la ra fa ta ua uh uo ma mh ml nf fo fh fs rs ic mn bh bo ya np pa nc cp)) [0, 1, 2, 3, 4, 5, 6, 7, 8, 9, 10, 11, 12, 13, 14, 15, 16, 17, 18, 19, 20, 21, 22, 23] rfl
        have hD9 := hD.sub (ws' := (wMd cI cJ cZ h0 h1 h2 h3 h4 h5 h6 h7 h8 h9 h10 h11 h12 h13 h14 h15 h16 h17 h18 h19 h20 h21 h22 h23 1 no ca ba nl xa sa da la ra fa ta ua uh uo ma mh ml nf fo fh fs rs ic mn bh bo ya np pa nc cp)) [0, 1, 2, 3, 4, 5, 6, 7, 8, 9, 10, 11, 12, 13, 14, 15, 16, 17, 18, 19, 20, 21, 22, 23] (by decide) rfl
        exact W.iret hx hb hr (fun t ht hW => ⟨⟨_, ((1), (sa), (ic)), rfl, ⟨_, rfl, v⟩, by rw [ht]; exact hP9, va_K.moved hW.alike hK, hD9⟩, hS.F ht⟩) hS.2.2 d_Md_shines_38
      · replace v := v.2 c17
        refine nv_iconst (n := 1) hx hb d_Md_shines_30 ?_
        have hPc := hP.sub (ws' := (wMd cI cJ cZ h0 h1 h2 h3 h4 h5 h6 h7 h8 h9 h10 h11 h12 h13 h14 h15 h16 h17 h18 h19 h20 h21 h22 h23 th no ca ba nl xa sa da la ra fa ta ua uh uo ma mh ml nf fo fh fs rs ic mn bh bo ya np pa nc cp)) [0, 1, 2, 3, 4, 5, 6, 7, 8, 9, 10, 11, 12, 13, 14, 15, 16, 17, 18, 19, 20, 21, 22, 23] rfl
        have hDc := hD.sub (ws' := (wMd cI cJ cZ h0 h1 h2 h3 h4 h5 h6 h7 h8 h9 h10 h11 h12 h13 h14 h15 h16 h17 h18 h19 h20 h21 h22 h23 th no ca ba nl xa sa da la ra fa ta ua uh uo ma mh ml nf fo fh fs rs ic mn bh bo ya np pa nc cp)) [0, 1, 2, 3, 4, 5, 6, 7, 8, 9, 10, 11, 12, 13, 14, 15, 16, 17, 18, 19, 20, 21, 22, 23] (by decide) rfl
        have hFc := va_free (wc := (wMd cI cJ cZ h0 h1 h2 h3 h4 h5 h6 h7 h8 h9 h10 h11 h12 h13 h14 h15 h16 h17 h18 h19 h20 h21 h22 h23 th no ca ba nl xa sa da la ra fa ta ua uh uo ma mh ml nf fo fh fs rs ic mn bh bo ya np pa nc cp)) hD hS hA [0, 1, 2, 3, 4, 5, 6, 7, 8, 9, 10, 11, 12, 13, 14, 15, 16, 17, 18, 19, 20, 21, 22, 23] rfl
        refine va_calli (va_runV (As := [.int (iI 0), .int (iI 0), .int (iI 1)]) (rest := []) ⟨hx, hb, hml, hown, hts⟩ (m_Md_goes l D cI cJ cO cZ h0 h1 h2 h3 h4 h5 h6 h7 h8 h9 h10 h11 h12 h13 h14 h15 h16 h17 h18 h19 h20 h21 h22 h23 H.size th no ca ba nl xa sa da la ra fa ta ua uh uo ma mh ml nf fo fh fs rs ic mn bh bo ya np pa nc cp 0 0 1 (fun z t => z = 0 ∧ t = 1) (s_Md_goes_001 th no ca ba nl xa sa da la ra fa ta ua uh uo ma mh ml nf fo fh fs rs ic mn bh bo ya np pa nc cp)) (nv_cwV (n := 3) hts wd_812 wd_814 sl_17 wd_10 wd_815 (by decide +kernel) ⟨Nat.le_of_ble_eq_true rfl, Nat.le_of_ble_eq_true rfl⟩) ⟨blW, va_recv hK hPc (ci := 8) (q0 := 0) rfl rfl, fun U hU hW => ⟨rfl, by rw [hU], by rw [hU]; exact hPc, va_K.moved hW.alike hK, hDc.weaken (fun _ _ _ _ => trivial)⟩⟩ rfl rfl hl.1 rfl (lv_room (Nat.le_of_ble_eq_true rfl)) d_Md_shines_31 ⟨Nat.le_of_ble_eq_true rfl, Nat.le_of_ble_eq_true rfl⟩) hS (fun q _ h => hFc q h) hFc (fun r u t H1 locs ht hvm hw hB hz1 hk1 hS => ?_)
        obtain ⟨hP1, hK1, hD1⟩ := hB
        rw [ht] at hP1
        obtain ⟨_, rfl, rfl, rfl⟩ := hw
        obtain ⟨hP, hD⟩ := va_join (wr := []) (w1 := (wMd cI cJ cZ h0 h1 h2 h3 h4 h5 h6 h7 h8 h9 h10 h11 h12 h13 h14 h15 h16 h17 h18 h19 h20 h21 h22 h23 1 no ca ba nl xa sa da la ra fa ta ua uh uo ma mh ml nf fo fh fs rs ic mn bh bo ya np pa nc cp)) hP hD [0, 1, 2, 3, 4, 5, 6, 7, 8, 9, 10, 11, 12, 13, 14, 15, 16, 17, 18, 19, 20, 21, 22, 23] [] rfl rfl (by decide) (by decide) hk1 hFc hP1 hD1
        generalize H1 = H at hP hS ⊢
        have hP : va_P D vwCl (wMd cI cJ cZ h0 h1 h2 h3 h4 h5 h6 h7 h8 h9 h10 h11 h12 h13 h14 h15 h16 h17 h18 h19 h20 h21 h22 h23 1 no ca ba nl xa sa da la ra fa ta ua uh uo ma mh ml nf fo fh fs rs ic mn bh bo ya np pa nc cp) H := hP
        have hD : va_D A (wMd cI cJ cZ h0 h1 h2 h3 h4 h5 h6 h7 h8 h9 h10 h11 h12 h13 h14 h15 h16 h17 h18 h19 h20 h21 h22 h23 1 no ca ba nl xa sa da la ra fa ta ua uh uo ma mh ml nf fo fh fs rs ic mn bh bo ya np pa nc cp) := hD
        refine W.widen (k := 0) (n := 0) (Nat.le_of_ble_eq_true rfl) (Nat.le_of_ble_eq_true rfl) ?_
        refine nv_if_ne (tgt := 39) hx hb d_Md_shines_34 (by decide) (by decide) (fun c19 => absurd c19 (by decide)) (fun _ => ?_)
        refine nv_iconst (n := 0) hx hb d_Md_shines_37 ?_
        have hP9 := hP.sub (ws' := (wMd cI cJ cZ h0 h1 h2 h3 h4 h5 h6 h7 h8 h9 h10 h11 h12 h13 h14 h15 h16 h17 h18 h19 h20 h21 h22 h23 1 no ca ba nl xa sa da la ra fa ta ua uh uo ma mh ml nf fo fh fs rs ic mn bh bo ya np pa nc cp)) [0, 1, 2, 3, 4, 5, 6, 7, 8, 9, 10, 11, 12, 13, 14, 15, 16, 17, 18, 19, 20, 21, 22, 23] rfl
        have hD9 := hD.sub (ws' := (wMd cI cJ cZ h0 h1 h2 h3 h4 h5 h6 h7 h8 h9 h10 h11 h12 h13 h14 h15 h16 h17 h18 h19 h20 h21 h22 h23 1 no ca ba nl xa sa da la ra fa ta ua uh uo ma mh ml nf fo fh fs rs ic mn bh bo ya np pa nc cp)) [0, 1, 2, 3, 4, 5, 6, 7, 8, 9, 10, 11, 12, 13, 14, 15, 16, 17, 18, 19, 20, 21, 22, 23] (by decide) rfl
        exact W.iret hx hb hr (fun t ht hW => ⟨⟨_, ((1), (sa), (ic)), rfl, ⟨_, rfl, v⟩, by rw [ht]; exact hP9, va_K.moved hW.alike hK, hD9⟩, hS.F ht⟩) hS.2.2 d_Md_shines_38
  · replace v := v.2 c3
    refine nv_if_eq (tgt := 21) hx hb d_Md_shines_6 (by decide) (by decide) (fun _ => ?_) (fun c20 => absurd c20 (by decide))
    refine nv_iconst (n := 0) hx hb d_Md_shines_21 ?_
    refine lv_iload_n hx hb d_Md_shines_22 rfl (lv_at hl 3 rfl) ?_
    refine nv_iconst (n := 0) hx hb d_Md_shines_23 ?_
    refine nv_sipush (z := 1000) hx hb d_Md_shines_24 (by decide) ?_
    obtain ⟨k21, v⟩ := v
    refine vp_callSi (nv_runS (wc := []) (As := [.int (iI sh), .int (iI 0), .int (iI 1000)]) (rest := [.int (iI 0), .ref h0]) ⟨hx, hb, hml, hown, hts⟩ (m_Md_within l D cI cJ cO cZ sh 0 1000 (fun z => (z = 1 ∧ (0 ≤ sh ∧ sh ≤ 1000)) ∨ (z = 0 ∧ ¬ (0 ≤ sh ∧ sh ≤ 1000))) (s_Md_within sh 0 1000 k21 (by decide) (by decide))) (nv_cwS (n := 3) hts wd_809 wd_810 wd_10 wd_811 (by decide +kernel) ⟨Nat.le_of_ble_eq_true rfl, Nat.le_of_ble_eq_true rfl⟩) hK (hP.sub [] rfl) rfl hl.1 rfl (Nat.le_of_ble_eq_true rfl) d_Md_shines_27 (Nat.le_of_ble_eq_true rfl) (Nat.le_of_ble_eq_true rfl)) (fun r hr => ?_)
    rcases hr with ⟨_, rfl, ⟨rfl, c22⟩ | ⟨rfl, c22⟩⟩
    · replace v := v.1 c22
      refine nv_iconst (n := 1) hx hb d_Md_shines_30 ?_
      have hPc := hP.sub (ws' := (wMd cI cJ cZ h0 h1 h2 h3 h4 h5 h6 h7 h8 h9 h10 h11 h12 h13 h14 h15 h16 h17 h18 h19 h20 h21 h22 h23 th no ca ba nl xa sa da la ra fa ta ua uh uo ma mh ml nf fo fh fs rs ic mn bh bo ya np pa nc cp)) [0, 1, 2, 3, 4, 5, 6, 7, 8, 9, 10, 11, 12, 13, 14, 15, 16, 17, 18, 19, 20, 21, 22, 23] rfl
      have hDc := hD.sub (ws' := (wMd cI cJ cZ h0 h1 h2 h3 h4 h5 h6 h7 h8 h9 h10 h11 h12 h13 h14 h15 h16 h17 h18 h19 h20 h21 h22 h23 th no ca ba nl xa sa da la ra fa ta ua uh uo ma mh ml nf fo fh fs rs ic mn bh bo ya np pa nc cp)) [0, 1, 2, 3, 4, 5, 6, 7, 8, 9, 10, 11, 12, 13, 14, 15, 16, 17, 18, 19, 20, 21, 22, 23] (by decide) rfl
      have hFc := va_free (wc := (wMd cI cJ cZ h0 h1 h2 h3 h4 h5 h6 h7 h8 h9 h10 h11 h12 h13 h14 h15 h16 h17 h18 h19 h20 h21 h22 h23 th no ca ba nl xa sa da la ra fa ta ua uh uo ma mh ml nf fo fh fs rs ic mn bh bo ya np pa nc cp)) hD hS hA [0, 1, 2, 3, 4, 5, 6, 7, 8, 9, 10, 11, 12, 13, 14, 15, 16, 17, 18, 19, 20, 21, 22, 23] rfl
      refine va_calli (va_runV (As := [.int (iI 0), .int (iI 1), .int (iI 1)]) (rest := []) ⟨hx, hb, hml, hown, hts⟩ (m_Md_goes l D cI cJ cO cZ h0 h1 h2 h3 h4 h5 h6 h7 h8 h9 h10 h11 h12 h13 h14 h15 h16 h17 h18 h19 h20 h21 h22 h23 H.size th no ca ba nl xa sa da la ra fa ta ua uh uo ma mh ml nf fo fh fs rs ic mn bh bo ya np pa nc cp 0 1 1 (fun z t => z = 0 ∧ t = 1) (s_Md_goes_011 th no ca ba nl xa sa da la ra fa ta ua uh uo ma mh ml nf fo fh fs rs ic mn bh bo ya np pa nc cp)) (nv_cwV (n := 3) hts wd_812 wd_814 sl_17 wd_10 wd_815 (by decide +kernel) ⟨Nat.le_of_ble_eq_true rfl, Nat.le_of_ble_eq_true rfl⟩) ⟨blW, va_recv hK hPc (ci := 8) (q0 := 0) rfl rfl, fun U hU hW => ⟨rfl, by rw [hU], by rw [hU]; exact hPc, va_K.moved hW.alike hK, hDc.weaken (fun _ _ _ _ => trivial)⟩⟩ rfl rfl hl.1 rfl (lv_room (Nat.le_of_ble_eq_true rfl)) d_Md_shines_31 ⟨Nat.le_of_ble_eq_true rfl, Nat.le_of_ble_eq_true rfl⟩) hS (fun q _ h => hFc q h) hFc (fun r u t H1 locs ht hvm hw hB hz1 hk1 hS => ?_)
      obtain ⟨hP1, hK1, hD1⟩ := hB
      rw [ht] at hP1
      obtain ⟨_, rfl, rfl, rfl⟩ := hw
      obtain ⟨hP, hD⟩ := va_join (wr := []) (w1 := (wMd cI cJ cZ h0 h1 h2 h3 h4 h5 h6 h7 h8 h9 h10 h11 h12 h13 h14 h15 h16 h17 h18 h19 h20 h21 h22 h23 1 no ca ba nl xa sa da la ra fa ta ua uh uo ma mh ml nf fo fh fs rs ic mn bh bo ya np pa nc cp)) hP hD [0, 1, 2, 3, 4, 5, 6, 7, 8, 9, 10, 11, 12, 13, 14, 15, 16, 17, 18, 19, 20, 21, 22, 23] [] rfl rfl (by decide) (by decide) hk1 hFc hP1 hD1
      generalize H1 = H at hP hS ⊢
      have hP : va_P D vwCl (wMd cI cJ cZ h0 h1 h2 h3 h4 h5 h6 h7 h8 h9 h10 h11 h12 h13 h14 h15 h16 h17 h18 h19 h20 h21 h22 h23 1 no ca ba nl xa sa da la ra fa ta ua uh uo ma mh ml nf fo fh fs rs ic mn bh bo ya np pa nc cp) H := hP
      have hD : va_D A (wMd cI cJ cZ h0 h1 h2 h3 h4 h5 h6 h7 h8 h9 h10 h11 h12 h13 h14 h15 h16 h17 h18 h19 h20 h21 h22 h23 1 no ca ba nl xa sa da la ra fa ta ua uh uo ma mh ml nf fo fh fs rs ic mn bh bo ya np pa nc cp) := hD
      refine W.widen (k := 0) (n := 0) (Nat.le_of_ble_eq_true rfl) (Nat.le_of_ble_eq_true rfl) ?_
      refine nv_if_ne (tgt := 39) hx hb d_Md_shines_34 (by decide) (by decide) (fun c23 => absurd c23 (by decide)) (fun _ => ?_)
      refine nv_iconst (n := 0) hx hb d_Md_shines_37 ?_
      have hP9 := hP.sub (ws' := (wMd cI cJ cZ h0 h1 h2 h3 h4 h5 h6 h7 h8 h9 h10 h11 h12 h13 h14 h15 h16 h17 h18 h19 h20 h21 h22 h23 1 no ca ba nl xa sa da la ra fa ta ua uh uo ma mh ml nf fo fh fs rs ic mn bh bo ya np pa nc cp)) [0, 1, 2, 3, 4, 5, 6, 7, 8, 9, 10, 11, 12, 13, 14, 15, 16, 17, 18, 19, 20, 21, 22, 23] rfl
      have hD9 := hD.sub (ws' := (wMd cI cJ cZ h0 h1 h2 h3 h4 h5 h6 h7 h8 h9 h10 h11 h12 h13 h14 h15 h16 h17 h18 h19 h20 h21 h22 h23 1 no ca ba nl xa sa da la ra fa ta ua uh uo ma mh ml nf fo fh fs rs ic mn bh bo ya np pa nc cp)) [0, 1, 2, 3, 4, 5, 6, 7, 8, 9, 10, 11, 12, 13, 14, 15, 16, 17, 18, 19, 20, 21, 22, 23] (by decide) rfl
      exact W.iret hx hb hr (fun t ht hW => ⟨⟨_, ((1), (sa), (ic)), rfl, ⟨_, rfl, v⟩, by rw [ht]; exact hP9, va_K.moved hW.alike hK, hD9⟩, hS.F ht⟩) hS.2.2 d_Md_shines_38
    · replace v := v.2 c22
      refine nv_iconst (n := 1) hx hb d_Md_shines_30 ?_
      have hPc := hP.sub (ws' := (wMd cI cJ cZ h0 h1 h2 h3 h4 h5 h6 h7 h8 h9 h10 h11 h12 h13 h14 h15 h16 h17 h18 h19 h20 h21 h22 h23 th no ca ba nl xa sa da la ra fa ta ua uh uo ma mh ml nf fo fh fs rs ic mn bh bo ya np pa nc cp)) [0, 1, 2, 3, 4, 5, 6, 7, 8, 9, 10, 11, 12, 13, 14, 15, 16, 17, 18, 19, 20, 21, 22, 23] rfl
      have hDc := hD.sub (ws' := (wMd cI cJ cZ h0 h1 h2 h3 h4 h5 h6 h7 h8 h9 h10 h11 h12 h13 h14 h15 h16 h17 h18 h19 h20 h21 h22 h23 th no ca ba nl xa sa da la ra fa ta ua uh uo ma mh ml nf fo fh fs rs ic mn bh bo ya np pa nc cp)) [0, 1, 2, 3, 4, 5, 6, 7, 8, 9, 10, 11, 12, 13, 14, 15, 16, 17, 18, 19, 20, 21, 22, 23] (by decide) rfl
      have hFc := va_free (wc := (wMd cI cJ cZ h0 h1 h2 h3 h4 h5 h6 h7 h8 h9 h10 h11 h12 h13 h14 h15 h16 h17 h18 h19 h20 h21 h22 h23 th no ca ba nl xa sa da la ra fa ta ua uh uo ma mh ml nf fo fh fs rs ic mn bh bo ya np pa nc cp)) hD hS hA [0, 1, 2, 3, 4, 5, 6, 7, 8, 9, 10, 11, 12, 13, 14, 15, 16, 17, 18, 19, 20, 21, 22, 23] rfl
      refine va_calli (va_runV (As := [.int (iI 0), .int (iI 0), .int (iI 1)]) (rest := []) ⟨hx, hb, hml, hown, hts⟩ (m_Md_goes l D cI cJ cO cZ h0 h1 h2 h3 h4 h5 h6 h7 h8 h9 h10 h11 h12 h13 h14 h15 h16 h17 h18 h19 h20 h21 h22 h23 H.size th no ca ba nl xa sa da la ra fa ta ua uh uo ma mh ml nf fo fh fs rs ic mn bh bo ya np pa nc cp 0 0 1 (fun z t => z = 0 ∧ t = 1) (s_Md_goes_001 th no ca ba nl xa sa da la ra fa ta ua uh uo ma mh ml nf fo fh fs rs ic mn bh bo ya np pa nc cp)) (nv_cwV (n := 3) hts wd_812 wd_814 sl_17 wd_10 wd_815 (by decide +kernel) ⟨Nat.le_of_ble_eq_true rfl, Nat.le_of_ble_eq_true rfl⟩) ⟨blW, va_recv hK hPc (ci := 8) (q0 := 0) rfl rfl, fun U hU hW => ⟨rfl, by rw [hU], by rw [hU]; exact hPc, va_K.moved hW.alike hK, hDc.weaken (fun _ _ _ _ => trivial)⟩⟩ rfl rfl hl.1 rfl (lv_room (Nat.le_of_ble_eq_true rfl)) d_Md_shines_31 ⟨Nat.le_of_ble_eq_true rfl, Nat.le_of_ble_eq_true rfl⟩) hS (fun q _ h => hFc q h) hFc (fun r u t H1 locs ht hvm hw hB hz1 hk1 hS => ?_)
      obtain ⟨hP1, hK1, hD1⟩ := hB
      rw [ht] at hP1
      obtain ⟨_, rfl, rfl, rfl⟩ := hw
      obtain ⟨hP, hD⟩ := va_join (wr := []) (w1 := (wMd cI cJ cZ h0 h1 h2 h3 h4 h5 h6 h7 h8 h9 h10 h11 h12 h13 h14 h15 h16 h17 h18 h19 h20 h21 h22 h23 1 no ca ba nl xa sa da la ra fa ta ua uh uo ma mh ml nf fo fh fs rs ic mn bh bo ya np pa nc cp)) hP hD [0, 1, 2, 3, 4, 5, 6, 7, 8, 9, 10, 11, 12, 13, 14, 15, 16, 17, 18, 19, 20, 21, 22, 23] [] rfl rfl (by decide) (by decide) hk1 hFc hP1 hD1
      generalize H1 = H at hP hS ⊢
      have hP : va_P D vwCl (wMd cI cJ cZ h0 h1 h2 h3 h4 h5 h6 h7 h8 h9 h10 h11 h12 h13 h14 h15 h16 h17 h18 h19 h20 h21 h22 h23 1 no ca ba nl xa sa da la ra fa ta ua uh uo ma mh ml nf fo fh fs rs ic mn bh bo ya np pa nc cp) H := hP
      have hD : va_D A (wMd cI cJ cZ h0 h1 h2 h3 h4 h5 h6 h7 h8 h9 h10 h11 h12 h13 h14 h15 h16 h17 h18 h19 h20 h21 h22 h23 1 no ca ba nl xa sa da la ra fa ta ua uh uo ma mh ml nf fo fh fs rs ic mn bh bo ya np pa nc cp) := hD
      refine W.widen (k := 0) (n := 0) (Nat.le_of_ble_eq_true rfl) (Nat.le_of_ble_eq_true rfl) ?_
      refine nv_if_ne (tgt := 39) hx hb d_Md_shines_34 (by decide) (by decide) (fun c24 => absurd c24 (by decide)) (fun _ => ?_)
      refine nv_iconst (n := 0) hx hb d_Md_shines_37 ?_
      have hP9 := hP.sub (ws' := (wMd cI cJ cZ h0 h1 h2 h3 h4 h5 h6 h7 h8 h9 h10 h11 h12 h13 h14 h15 h16 h17 h18 h19 h20 h21 h22 h23 1 no ca ba nl xa sa da la ra fa ta ua uh uo ma mh ml nf fo fh fs rs ic mn bh bo ya np pa nc cp)) [0, 1, 2, 3, 4, 5, 6, 7, 8, 9, 10, 11, 12, 13, 14, 15, 16, 17, 18, 19, 20, 21, 22, 23] rfl
      have hD9 := hD.sub (ws' := (wMd cI cJ cZ h0 h1 h2 h3 h4 h5 h6 h7 h8 h9 h10 h11 h12 h13 h14 h15 h16 h17 h18 h19 h20 h21 h22 h23 1 no ca ba nl xa sa da la ra fa ta ua uh uo ma mh ml nf fo fh fs rs ic mn bh bo ya np pa nc cp)) [0, 1, 2, 3, 4, 5, 6, 7, 8, 9, 10, 11, 12, 13, 14, 15, 16, 17, 18, 19, 20, 21, 22, 23] (by decide) rfl
      exact W.iret hx hb hr (fun t ht hW => ⟨⟨_, ((1), (sa), (ic)), rfl, ⟨_, rfl, v⟩, by rw [ht]; exact hP9, va_K.moved hW.alike hK, hD9⟩, hS.F ht⟩) hS.2.2 d_Md_shines_38

theorem d_Md_daylight_0 : decode prog_10_method_14_code 0 = .ok (.aload_n 0, 1) := by decide +kernel
theorem d_Md_daylight_1 : decode prog_10_method_14_code 1 = .ok (.iload_n 1, 1) := by decide +kernel
theorem d_Md_daylight_2 : decode prog_10_method_14_code 2 = .ok (.iconst 0, 1) := by decide +kernel
theorem d_Md_daylight_3 : decode prog_10_method_14_code 3 = .ok (.bipush 23, 2) := by decide +kernel
theorem d_Md_daylight_5 : decode prog_10_method_14_code 5 = .ok (.invokestatic 92, 3) := by decide +kernel
theorem d_Md_daylight_8 : decode prog_10_method_14_code 8 = .ok (.iload_n 2, 1) := by decide +kernel
theorem d_Md_daylight_9 : decode prog_10_method_14_code 9 = .ok (.invokestatic 105, 3) := by decide +kernel
theorem d_Md_daylight_12 : decode prog_10_method_14_code 12 = .ok (.iconst 1, 1) := by decide +kernel
theorem d_Md_daylight_13 : decode prog_10_method_14_code 13 = .ok (.invokevirtual 96, 3) := by decide +kernel
theorem d_Md_daylight_16 : decode prog_10_method_14_code 16 = .ok (.ifCond .ne 5, 3) := by decide +kernel
theorem d_Md_daylight_19 : decode prog_10_method_14_code 19 = .ok (.iconst 0, 1) := by decide +kernel
theorem d_Md_daylight_20 : decode prog_10_method_14_code 20 = .ok (.ireturn, 1) := by decide +kernel
theorem d_Md_daylight_21 : decode prog_10_method_14_code 21 = .ok (.aload_n 0, 1) := by decide +kernel
theorem d_Md_daylight_22 : decode prog_10_method_14_code 22 = .ok (.getfield 22, 3) := by decide +kernel
theorem d_Md_daylight_25 : decode prog_10_method_14_code 25 = .ok (.iload_n 1, 1) := by decide +kernel
theorem d_Md_daylight_26 : decode prog_10_method_14_code 26 = .ok (.iaload, 1) := by decide +kernel
theorem d_Md_daylight_27 : decode prog_10_method_14_code 27 = .ok (.istore_n 3, 1) := by decide +kernel
theorem d_Md_daylight_28 : decode prog_10_method_14_code 28 = .ok (.aload_n 0, 1) := by decide +kernel
theorem d_Md_daylight_29 : decode prog_10_method_14_code 29 = .ok (.getfield 22, 3) := by decide +kernel
theorem d_Md_daylight_32 : decode prog_10_method_14_code 32 = .ok (.iload_n 1, 1) := by decide +kernel
theorem d_Md_daylight_33 : decode prog_10_method_14_code 33 = .ok (.iload_n 2, 1) := by decide +kernel
theorem d_Md_daylight_34 : decode prog_10_method_14_code 34 = .ok (.iastore, 1) := by decide +kernel
theorem d_Md_daylight_35 : decode prog_10_method_14_code 35 = .ok (.aload_n 0, 1) := by decide +kernel
theorem d_Md_daylight_36 : decode prog_10_method_14_code 36 = .ok (.iconst 0, 1) := by decide +kernel
theorem d_Md_daylight_37 : decode prog_10_method_14_code 37 = .ok (.putfield 100, 3) := by decide +kernel
theorem d_Md_daylight_40 : decode prog_10_method_14_code 40 = .ok (.iload_n 3, 1) := by decide +kernel
theorem d_Md_daylight_41 : decode prog_10_method_14_code 41 = .ok (.ireturn, 1) := by decide +kernel
def vc_Md_daylight (th : Int) (no : Int) (ca : Nat → Int) (ba : Nat → Int) (nl : Int) (xa : Nat → Int) (sa : Nat → Int) (da : Nat → Int) (la : Nat → Int) (ra : Nat → Int) (fa : Nat → Int) (ta : Nat → Int) (ua : Nat → Int) (uh : Nat → Int) (uo : Nat → Int) (ma : Nat → Int) (mh : Nat → Int) (ml : Nat → Int) (nf : Int) (fo : Nat → Int) (fh : Nat → Int) (fs : Nat → Int) (rs : Int) (ic : Int) (mn : Int) (bh : Nat → Int) (bo : Nat → Int) (ya : Nat → Int) (np : Int) (pa : Nat → Int) (nc : Int) (cp : Nat → Int) (tm : Int) (lx : Int) (post : Int → Int → (Nat → Int) → Int → Prop) : Prop := (r32 tm) ∧ (((0 ≤ tm ∧ tm ≤ 23) → (r32 lx) ∧ (((0 ≤ lx ∧ lx ≤ 5000) → (0 ≤ tm ∧ tm < 24) ∧ ((0 ≤ tm ∧ tm < 24) ∧ (post (da (tm).toNat) 0 (va_up da (tm).toNat lx) 0))) ∧ (¬ (0 ≤ lx ∧ lx ≤ 5000) → post 0 2 da ic))) ∧ (¬ (0 ≤ tm ∧ tm ≤ 23) → (r32 lx) ∧ (((0 ≤ lx ∧ lx ≤ 5000) → post 0 1 da ic) ∧ (¬ (0 ≤ lx ∧ lx ≤ 5000) → post 0 1 da ic))))
set_option maxHeartbeats 4000000 in
set_option maxRecDepth 100000 in
theorem m_Md_daylight (l : Launch) (D : va_G) (cI cJ cO cZ : ClassId) (h0 h1 h2 h3 h4 h5 h6 h7 h8 h9 h10 h11 h12 h13 h14 h15 h16 h17 h18 h19 h20 h21 h22 h23 : Nat) (sz : Nat) (th : Int) (no : Int) (ca : Nat → Int) (ba : Nat → Int) (nl : Int) (xa : Nat → Int) (sa : Nat → Int) (da : Nat → Int) (la : Nat → Int) (ra : Nat → Int) (fa : Nat → Int) (ta : Nat → Int) (ua : Nat → Int) (uh : Nat → Int) (uo : Nat → Int) (ma : Nat → Int) (mh : Nat → Int) (ml : Nat → Int) (nf : Int) (fo : Nat → Int) (fh : Nat → Int) (fs : Nat → Int) (rs : Int) (ic : Int) (mn : Int) (bh : Nat → Int) (bo : Nat → Int) (ya : Nat → Int) (np : Int) (pa : Nat → Int) (nc : Int) (cp : Nat → Int) (tm : Int) (lx : Int) (post : Int → Int → (Nat → Int) → Int → Prop) (v : vc_Md_daylight th no ca ba nl xa sa da la ra fa ta ua uh uo ma mh ml nf fo fh fs rs ic mn bh bo ya np pa nc cp tm lx post) : Met l ⟨"LightDosesModel", "daylight", "(II)I"⟩ (.code ⟨"LightDosesModel", "daylight", "(II)I"⟩ prog_10_method_14_code 4 (some .int) :: TG) { frames := 1, cells := 0, slots := 0, locals := 23 } (va_Pc [.ref h0, .int (iI tm), .int (iI lx)] (fun U => U.heap.size = sz ∧ va_P D vwCl (wMd cI cJ cZ h0 h1 h2 h3 h4 h5 h6 h7 h8 h9 h10 h11 h12 h13 h14 h15 h16 h17 h18 h19 h20 h21 h22 h23 th no ca ba nl xa sa da la ra fa ta ua uh uo ma mh ml nf fo fh fs rs ic mn bh bo ya np pa nc cp) U.heap ∧ va_K D vwCl (tyx cI cJ cO cZ) U ∧ va_D (fun _ => True) (wMd cI cJ cZ h0 h1 h2 h3 h4 h5 h6 h7 h8 h9 h10 h11 h12 h13 h14 h15 h16 h17 h18 h19 h20 h21 h22 h23 th no ca ba nl xa sa da la ra fa ta ua uh uo ma mh ml nf fo fh fs rs ic mn bh bo ya np pa nc cp))) (va_Qi (fun (r : Int32) (u : Int × (Nat → Int) × Int) => ∃ z : Int, r = iI z ∧ post z u.1 u.2.1 u.2.2) (fun u t => va_P D vwCl (wMd cI cJ cZ h0 h1 h2 h3 h4 h5 h6 h7 h8 h9 h10 h11 h12 h13 h14 h15 h16 h17 h18 h19 h20 h21 h22 h23 u.1 no ca ba nl xa sa u.2.1 la ra fa ta ua uh uo ma mh ml nf fo fh fs rs u.2.2 mn bh bo ya np pa nc cp) t.heap ∧ va_K D vwCl (tyx cI cJ cO cZ) t ∧ va_D (va_A (wMd cI cJ cZ h0 h1 h2 h3 h4 h5 h6 h7 h8 h9 h10 h11 h12 h13 h14 h15 h16 h17 h18 h19 h20 h21 h22 h23 th no ca ba nl xa sa da la ra fa ta ua uh uo ma mh ml nf fo fh fs rs ic mn bh bo ya np pa nc cp) sz) (wMd cI cJ cZ h0 h1 h2 h3 h4 h5 h6 h7 h8 h9 h10 h11 h12 h13 h14 h15 h16 h17 h18 h19 h20 h21 h22 h23 u.1 no ca ba nl xa sa u.2.1 la ra fa ta ua uh uo ma mh ml nf fo fh fs rs u.2.2 mn bh bo ya np pa nc cp)) (va_A (wMd cI cJ cZ h0 h1 h2 h3 h4 h5 h6 h7 h8 h9 h10 h11 h12 h13 h14 h15 h16 h17 h18 h19 h20 h21 h22 h23 th no ca ba nl xa sa da la ra fa ta ua uh uo ma mh ml nf fo fh fs rs ic mn bh bo ya np pa nc cp) sz)) 0 0 (va_A (wMd cI cJ cZ h0 h1 h2 h3 h4 h5 h6 h7 h8 h9 h10 h11 h12 h13 h14 h15 h16 h17 h18 h19 h20 h21 h22 h23 th no ca ba nl xa sa da la ra fa ta ua uh uo ma mh ml nf fo fh fs rs ic mn bh bo ya np pa nc cp) sz) := by
  refine Met.ofW (cc := prog_10_method_14_code) (maxL := 4) (ret := (some .int)) (by decide) rfl ?_
  intro p e s m args below meth c s₁ B hml hv
  obtain ⟨rfl, hsz, hP, hK, hD0⟩ := hv
  have hx := B.exec
  have hb := B.bytes
  have hr := B.returns
  have hts0 := atoms_spec (ws := (.code ⟨"LightDosesModel", "daylight", "(II)I"⟩ prog_10_method_14_code 4 (some .int) :: TG)) B.pre
  have hts : ∀ w ∈ TG, w.before _ s = true := fun w h => hts0 w (List.mem_cons_of_mem _ h)
  have hown : s.vm.findClass "LightDosesModel" = some m.cls := findClass_of_methodNamed B.named
  have hlocks := B.notSynchronized
  subst hsz
  have hD := hD0.self (sz := s.heap.size)
  generalize hAe : va_A (wMd cI cJ cZ h0 h1 h2 h3 h4 h5 h6 h7 h8 h9 h10 h11 h12 h13 h14 h15 h16 h17 h18 h19 h20 h21 h22 h23 th no ca ba nl xa sa da la ra fa ta ua uh uo ma mh ml nf fo fh fs rs ic mn bh bo ya np pa nc cp) s.heap.size = A at hD ⊢
  have hA : ∀ q : Nat, s.heap.size ≤ q → A q := fun q h => by rw [← hAe]; exact Or.inr h
  have hS : va_S A s.heap s.heap [] := va_S.rf
  have hP : va_P D vwCl (wMd cI cJ cZ h0 h1 h2 h3 h4 h5 h6 h7 h8 h9 h10 h11 h12 h13 h14 h15 h16 h17 h18 h19 h20 h21 h22 h23 th no ca ba nl xa sa da la ra fa ta ua uh uo ma mh ml nf fo fh fs rs ic mn bh bo ya np pa nc cp) s.heap := hP
  have hl := lv_entry ([Value.ref h0, Value.int (iI tm), Value.int (iI lx)]) (n := 4) (Nat.le_of_ble_eq_true rfl)
  rw [lg_entry_eq]
  generalize (lg_sl ([Value.ref h0, Value.int (iI tm), Value.int (iI lx)]) ++ List.replicate (4 - (lg_sl ([Value.ref h0, Value.int (iI tm), Value.int (iI lx)])).length) Slot.unset).toArray = ls at hl ⊢
  have hl : lv_has ls 4 [(0, .ref h0), (1, .int (iI tm)), (2, .int (iI lx))] := hl
  unfold vc_Md_daylight at v
  obtain ⟨H, hH⟩ : ∃ H, H = s.heap := ⟨_, rfl⟩
  obtain ⟨locs, hlc⟩ : ∃ L : List Loc, L = [] := ⟨_, rfl⟩
  rw [← hlc] at hS ⊢
  have hP : va_P D vwCl (wMd cI cJ cZ h0 h1 h2 h3 h4 h5 h6 h7 h8 h9 h10 h11 h12 h13 h14 h15 h16 h17 h18 h19 h20 h21 h22 h23 th no ca ba nl xa sa da la ra fa ta ua uh uo ma mh ml nf fo fh fs rs ic mn bh bo ya np pa nc cp) H := by rw [hH]; exact hP
  have hS : va_S A s.heap H locs := by rw [hH]; exact hS
  have hW0 : ∀ {X : Heap → Prop}, X H → X s.heap := fun h => by rw [← hH]; exact h
  refine hW0 (X := fun Z => W p l e _ s m _ below meth c Z locs 0 0 _ _) ?_
  refine lv_aload_n hx hb d_Md_daylight_0 rfl (lv_at hl 0 rfl) ?_
  refine lv_iload_n hx hb d_Md_daylight_1 rfl (lv_at hl 1 rfl) ?_
  refine nv_iconst (n := 0) hx hb d_Md_daylight_2 ?_
  refine nv_bipush (z := 23) hx hb d_Md_daylight_3 (by decide) ?_
  obtain ⟨k1, v⟩ := v
  refine vp_callSi (nv_runS (wc := []) (As := [.int (iI tm), .int (iI 0), .int (iI 23)]) (rest := [.ref h0]) ⟨hx, hb, hml, hown, hts⟩ (m_Md_within l D cI cJ cO cZ tm 0 23 (fun z => (z = 1 ∧ (0 ≤ tm ∧ tm ≤ 23)) ∨ (z = 0 ∧ ¬ (0 ≤ tm ∧ tm ≤ 23))) (s_Md_within tm 0 23 k1 (by decide) (by decide))) (nv_cwS (n := 3) hts wd_809 wd_810 wd_10 wd_811 (by decide +kernel) ⟨Nat.le_of_ble_eq_true rfl, Nat.le_of_ble_eq_true rfl⟩) hK (hP.sub [] rfl) rfl hl.1 rfl (Nat.le_of_ble_eq_true rfl) d_Md_daylight_5 (Nat.le_of_ble_eq_true rfl) (Nat.le_of_ble_eq_true rfl)) (fun r hr => ?_)
  rcases hr with ⟨_, rfl, ⟨rfl, c2⟩ | ⟨rfl, c2⟩⟩
  · replace v := v.1 c2
    refine lv_iload_n hx hb d_Md_daylight_8 rfl (lv_at hl 2 rfl) ?_
    obtain ⟨k3, v⟩ := v
    refine vp_callSi (nv_runS (wc := []) (As := [.int (iI lx)]) (rest := [.int (iI 1), .ref h0]) ⟨hx, hb, hml, hown, hts⟩ (m_Md_isLux l D cI cJ cO cZ lx (fun z => (z = 1 ∧ (0 ≤ lx ∧ lx ≤ 5000)) ∨ (z = 0 ∧ ¬ (0 ≤ lx ∧ lx ≤ 5000))) (s_Md_isLux lx k3)) (nv_cwS (n := 1) hts wd_825 wd_826 wd_10 wd_827 (by decide +kernel) ⟨Nat.le_of_ble_eq_true rfl, Nat.le_of_ble_eq_true rfl⟩) hK (hP.sub [] rfl) rfl hl.1 rfl (Nat.le_of_ble_eq_true rfl) d_Md_daylight_9 (Nat.le_of_ble_eq_true rfl) (Nat.le_of_ble_eq_true rfl)) (fun r hr => ?_)
    rcases hr with ⟨_, rfl, ⟨rfl, c4⟩ | ⟨rfl, c4⟩⟩
    · replace v := v.1 c4
      refine nv_iconst (n := 1) hx hb d_Md_daylight_12 ?_
      have hPc := hP.sub (ws' := (wMd cI cJ cZ h0 h1 h2 h3 h4 h5 h6 h7 h8 h9 h10 h11 h12 h13 h14 h15 h16 h17 h18 h19 h20 h21 h22 h23 th no ca ba nl xa sa da la ra fa ta ua uh uo ma mh ml nf fo fh fs rs ic mn bh bo ya np pa nc cp)) [0, 1, 2, 3, 4, 5, 6, 7, 8, 9, 10, 11, 12, 13, 14, 15, 16, 17, 18, 19, 20, 21, 22, 23] rfl
      have hDc := hD.sub (ws' := (wMd cI cJ cZ h0 h1 h2 h3 h4 h5 h6 h7 h8 h9 h10 h11 h12 h13 h14 h15 h16 h17 h18 h19 h20 h21 h22 h23 th no ca ba nl xa sa da la ra fa ta ua uh uo ma mh ml nf fo fh fs rs ic mn bh bo ya np pa nc cp)) [0, 1, 2, 3, 4, 5, 6, 7, 8, 9, 10, 11, 12, 13, 14, 15, 16, 17, 18, 19, 20, 21, 22, 23] (by decide) rfl
      have hFc := va_free (wc := (wMd cI cJ cZ h0 h1 h2 h3 h4 h5 h6 h7 h8 h9 h10 h11 h12 h13 h14 h15 h16 h17 h18 h19 h20 h21 h22 h23 th no ca ba nl xa sa da la ra fa ta ua uh uo ma mh ml nf fo fh fs rs ic mn bh bo ya np pa nc cp)) hD hS hA [0, 1, 2, 3, 4, 5, 6, 7, 8, 9, 10, 11, 12, 13, 14, 15, 16, 17, 18, 19, 20, 21, 22, 23] rfl
      refine va_calli (va_runV (As := [.int (iI 1), .int (iI 1), .int (iI 1)]) (rest := []) ⟨hx, hb, hml, hown, hts⟩ (m_Md_goes l D cI cJ cO cZ h0 h1 h2 h3 h4 h5 h6 h7 h8 h9 h10 h11 h12 h13 h14 h15 h16 h17 h18 h19 h20 h21 h22 h23 H.size th no ca ba nl xa sa da la ra fa ta ua uh uo ma mh ml nf fo fh fs rs ic mn bh bo ya np pa nc cp 1 1 1 (fun z t => z = 1 ∧ t = 0) (s_Md_goes_111 th no ca ba nl xa sa da la ra fa ta ua uh uo ma mh ml nf fo fh fs rs ic mn bh bo ya np pa nc cp)) (nv_cwV (n := 3) hts wd_812 wd_814 sl_17 wd_10 wd_815 (by decide +kernel) ⟨Nat.le_of_ble_eq_true rfl, Nat.le_of_ble_eq_true rfl⟩) ⟨blW, va_recv hK hPc (ci := 8) (q0 := 0) rfl rfl, fun U hU hW => ⟨rfl, by rw [hU], by rw [hU]; exact hPc, va_K.moved hW.alike hK, hDc.weaken (fun _ _ _ _ => trivial)⟩⟩ rfl rfl hl.1 rfl (lv_room (Nat.le_of_ble_eq_true rfl)) d_Md_daylight_13 ⟨Nat.le_of_ble_eq_true rfl, Nat.le_of_ble_eq_true rfl⟩) hS (fun q _ h => hFc q h) hFc (fun r u t H1 locs ht hvm hw hB hz1 hk1 hS => ?_)
      obtain ⟨hP1, hK1, hD1⟩ := hB
      rw [ht] at hP1
      obtain ⟨_, rfl, rfl, rfl⟩ := hw
      obtain ⟨hP, hD⟩ := va_join (wr := []) (w1 := (wMd cI cJ cZ h0 h1 h2 h3 h4 h5 h6 h7 h8 h9 h10 h11 h12 h13 h14 h15 h16 h17 h18 h19 h20 h21 h22 h23 0 no ca ba nl xa sa da la ra fa ta ua uh uo ma mh ml nf fo fh fs rs ic mn bh bo ya np pa nc cp)) hP hD [0, 1, 2, 3, 4, 5, 6, 7, 8, 9, 10, 11, 12, 13, 14, 15, 16, 17, 18, 19, 20, 21, 22, 23] [] rfl rfl (by decide) (by decide) hk1 hFc hP1 hD1
      generalize H1 = H at hP hS ⊢
      have hP : va_P D vwCl (wMd cI cJ cZ h0 h1 h2 h3 h4 h5 h6 h7 h8 h9 h10 h11 h12 h13 h14 h15 h16 h17 h18 h19 h20 h21 h22 h23 0 no ca ba nl xa sa da la ra fa ta ua uh uo ma mh ml nf fo fh fs rs ic mn bh bo ya np pa nc cp) H := hP
      have hD : va_D A (wMd cI cJ cZ h0 h1 h2 h3 h4 h5 h6 h7 h8 h9 h10 h11 h12 h13 h14 h15 h16 h17 h18 h19 h20 h21 h22 h23 0 no ca ba nl xa sa da la ra fa ta ua uh uo ma mh ml nf fo fh fs rs ic mn bh bo ya np pa nc cp) := hD
      refine W.widen (k := 0) (n := 0) (Nat.le_of_ble_eq_true rfl) (Nat.le_of_ble_eq_true rfl) ?_
      refine nv_if_ne (tgt := 21) hx hb d_Md_daylight_16 (by decide) (by decide) (fun _ => ?_) (fun c5 => absurd c5 (by decide))
      refine lv_aload_n hx hb d_Md_daylight_21 rfl (lv_at hl 0 rfl) ?_
      refine va_get (D := D) (ci := 8) (v := .ref h5) (C := "LightDosesModel") (T := T_Md) (N := 32) hx hb hts in_Md hown hK hP 0 rfl rfl 7 (by decide) (hts _ wd_710) (fun _ h9 => h9) rfl d_Md_daylight_22 ?_
      refine lv_iload_n hx hb d_Md_daylight_25 rfl (lv_at hl 1 rfl) ?_
      obtain ⟨k6, v⟩ := v
      refine nv_iald (f := da) hx hb hK 0 (hP 5 _ rfl) rfl (tm).toNat (Int.toNat_of_nonneg k6.1).symm (by omega) (by decide) d_Md_daylight_26 ?_
      refine lv_istore_n (lv' := [(3, .int (iI (da (tm).toNat))), (0, .ref h0), (1, .int (iI tm)), (2, .int (iI lx))]) hx hb d_Md_daylight_27 rfl hl (by decide) rfl (fun ls hl => ?_)
      refine lv_aload_n hx hb d_Md_daylight_28 rfl (lv_at hl 1 rfl) ?_
      refine va_get (D := D) (ci := 8) (v := .ref h5) (C := "LightDosesModel") (T := T_Md) (N := 32) hx hb hts in_Md hown hK hP 0 rfl rfl 7 (by decide) (hts _ wd_710) (fun _ h9 => h9) rfl d_Md_daylight_29 ?_
      refine lv_iload_n hx hb d_Md_daylight_32 rfl (lv_at hl 2 rfl) ?_
      refine lv_iload_n hx hb d_Md_daylight_33 rfl (lv_at hl 3 rfl) ?_
      obtain ⟨k7, v⟩ := v
      refine nv_iast (f := da) hx hb hK hP hD hS 5 0 rfl rfl (tm).toNat (Int.toNat_of_nonneg k7.1).symm (by omega) (by decide) d_Md_daylight_34 (fun H locs hP hD hS => ?_)
      have hP : va_P D vwCl (wMd cI cJ cZ h0 h1 h2 h3 h4 h5 h6 h7 h8 h9 h10 h11 h12 h13 h14 h15 h16 h17 h18 h19 h20 h21 h22 h23 0 no ca ba nl xa sa (va_up da (tm).toNat lx) la ra fa ta ua uh uo ma mh ml nf fo fh fs rs ic mn bh bo ya np pa nc cp) H := hP
      have hD : va_D A (wMd cI cJ cZ h0 h1 h2 h3 h4 h5 h6 h7 h8 h9 h10 h11 h12 h13 h14 h15 h16 h17 h18 h19 h20 h21 h22 h23 0 no ca ba nl xa sa (va_up da (tm).toNat lx) la ra fa ta ua uh uo ma mh ml nf fo fh fs rs ic mn bh bo ya np pa nc cp) := hD
      refine lv_aload_n hx hb d_Md_daylight_35 rfl (lv_at hl 1 rfl) ?_
      refine nv_iconst (n := 0) hx hb d_Md_daylight_36 ?_
      refine va_put (D := D) (ci := 8) (v := .int (iI 0)) (ty := .boolean) (C := "LightDosesModel") (T := T_Md) (N := 32) hx hb hts in_Md t_Md tok_Md n_Md hown hK hP hD hS 0 rfl rfl 23 (by decide) (hts _ wd_726) (fun _ h9 => h9) rfl (by decide +kernel) (by decide) (by decide) (Nat.le_of_ble_eq_true rfl) d_Md_daylight_37 (fun H locs hP hD hS => ?_)
      have hP : va_P D vwCl (wMd cI cJ cZ h0 h1 h2 h3 h4 h5 h6 h7 h8 h9 h10 h11 h12 h13 h14 h15 h16 h17 h18 h19 h20 h21 h22 h23 0 no ca ba nl xa sa (va_up da (tm).toNat lx) la ra fa ta ua uh uo ma mh ml nf fo fh fs rs 0 mn bh bo ya np pa nc cp) H := hP
      have hD : va_D A (wMd cI cJ cZ h0 h1 h2 h3 h4 h5 h6 h7 h8 h9 h10 h11 h12 h13 h14 h15 h16 h17 h18 h19 h20 h21 h22 h23 0 no ca ba nl xa sa (va_up da (tm).toNat lx) la ra fa ta ua uh uo ma mh ml nf fo fh fs rs 0 mn bh bo ya np pa nc cp) := hD
      refine lv_iload_n hx hb d_Md_daylight_40 rfl (lv_at hl 0 rfl) ?_
      have hP9 := hP.sub (ws' := (wMd cI cJ cZ h0 h1 h2 h3 h4 h5 h6 h7 h8 h9 h10 h11 h12 h13 h14 h15 h16 h17 h18 h19 h20 h21 h22 h23 0 no ca ba nl xa sa (va_up da (tm).toNat lx) la ra fa ta ua uh uo ma mh ml nf fo fh fs rs 0 mn bh bo ya np pa nc cp)) [0, 1, 2, 3, 4, 5, 6, 7, 8, 9, 10, 11, 12, 13, 14, 15, 16, 17, 18, 19, 20, 21, 22, 23] rfl
      have hD9 := hD.sub (ws' := (wMd cI cJ cZ h0 h1 h2 h3 h4 h5 h6 h7 h8 h9 h10 h11 h12 h13 h14 h15 h16 h17 h18 h19 h20 h21 h22 h23 0 no ca ba nl xa sa (va_up da (tm).toNat lx) la ra fa ta ua uh uo ma mh ml nf fo fh fs rs 0 mn bh bo ya np pa nc cp)) [0, 1, 2, 3, 4, 5, 6, 7, 8, 9, 10, 11, 12, 13, 14, 15, 16, 17, 18, 19, 20, 21, 22, 23] (by decide) rfl
      exact W.iret hx hb hr (fun t ht hW => ⟨⟨_, ((0), (va_up da (tm).toNat lx), (0)), rfl, ⟨_, rfl, v⟩, by rw [ht]; exact hP9, va_K.moved hW.alike hK, hD9⟩, hS.F ht⟩) hS.2.2 d_Md_daylight_41
    · replace v := v.2 c4
      refine nv_iconst (n := 1) hx hb d_Md_daylight_12 ?_
      have hPc := hP.sub (ws' := (wMd cI cJ cZ h0 h1 h2 h3 h4 h5 h6 h7 h8 h9 h10 h11 h12 h13 h14 h15 h16 h17 h18 h19 h20 h21 h22 h23 th no ca ba nl xa sa da la ra fa ta ua uh uo ma mh ml nf fo fh fs rs ic mn bh bo ya np pa nc cp)) [0, 1, 2, 3, 4, 5, 6, 7, 8, 9, 10, 11, 12, 13, 14, 15, 16, 17, 18, 19, 20, 21, 22, 23] rfl
      have hDc := hD.sub (ws' := (wMd cI cJ cZ h0 h1 h2 h3 h4 h5 h6 h7 h8 h9 h10 h11 h12 h13 h14 h15 h16 h17 h18 h19 h20 h21 h22 h23 th no ca ba nl xa sa da la ra fa ta ua uh uo ma mh ml nf fo fh fs rs ic mn bh bo ya np pa nc cp)) [0, 1, 2, 3, 4, 5, 6, 7, 8, 9, 10, 11, 12, 13, 14, 15, 16, 17, 18, 19, 20, 21, 22, 23] (by decide) rfl
      have hFc := va_free (wc := (wMd cI cJ cZ h0 h1 h2 h3 h4 h5 h6 h7 h8 h9 h10 h11 h12 h13 h14 h15 h16 h17 h18 h19 h20 h21 h22 h23 th no ca ba nl xa sa da la ra fa ta ua uh uo ma mh ml nf fo fh fs rs ic mn bh bo ya np pa nc cp)) hD hS hA [0, 1, 2, 3, 4, 5, 6, 7, 8, 9, 10, 11, 12, 13, 14, 15, 16, 17, 18, 19, 20, 21, 22, 23] rfl
      refine va_calli (va_runV (As := [.int (iI 1), .int (iI 0), .int (iI 1)]) (rest := []) ⟨hx, hb, hml, hown, hts⟩ (m_Md_goes l D cI cJ cO cZ h0 h1 h2 h3 h4 h5 h6 h7 h8 h9 h10 h11 h12 h13 h14 h15 h16 h17 h18 h19 h20 h21 h22 h23 H.size th no ca ba nl xa sa da la ra fa ta ua uh uo ma mh ml nf fo fh fs rs ic mn bh bo ya np pa nc cp 1 0 1 (fun z t => z = 0 ∧ t = 2) (s_Md_goes_101 th no ca ba nl xa sa da la ra fa ta ua uh uo ma mh ml nf fo fh fs rs ic mn bh bo ya np pa nc cp)) (nv_cwV (n := 3) hts wd_812 wd_814 sl_17 wd_10 wd_815 (by decide +kernel) ⟨Nat.le_of_ble_eq_true rfl, Nat.le_of_ble_eq_true rfl⟩) ⟨blW, va_recv hK hPc (ci := 8) (q0 := 0) rfl rfl, fun U hU hW => ⟨rfl, by rw [hU], by rw [hU]; exact hPc, va_K.moved hW.alike hK, hDc.weaken (fun _ _ _ _ => trivial)⟩⟩ rfl rfl hl.1 rfl (lv_room (Nat.le_of_ble_eq_true rfl)) d_Md_daylight_13 ⟨Nat.le_of_ble_eq_true rfl, Nat.le_of_ble_eq_true rfl⟩) hS (fun q _ h => hFc q h) hFc (fun r u t H1 locs ht hvm hw hB hz1 hk1 hS => ?_)
      obtain ⟨hP1, hK1, hD1⟩ := hB
      rw [ht] at hP1
      obtain ⟨_, rfl, rfl, rfl⟩ := hw
      obtain ⟨hP, hD⟩ := va_join (wr := []) (w1 := (wMd cI cJ cZ h0 h1 h2 h3 h4 h5 h6 h7 h8 h9 h10 h11 h12 h13 h14 h15 h16 h17 h18 h19 h20 h21 h22 h23 2 no ca ba nl xa sa da la ra fa ta ua uh uo ma mh ml nf fo fh fs rs ic mn bh bo ya np pa nc cp)) hP hD [0, 1, 2, 3, 4, 5, 6, 7, 8, 9, 10, 11, 12, 13, 14, 15, 16, 17, 18, 19, 20, 21, 22, 23] [] rfl rfl (by decide) (by decide) hk1 hFc hP1 hD1
      generalize H1 = H at hP hS ⊢
      have hP : va_P D vwCl (wMd cI cJ cZ h0 h1 h2 h3 h4 h5 h6 h7 h8 h9 h10 h11 h12 h13 h14 h15 h16 h17 h18 h19 h20 h21 h22 h23 2 no ca ba nl xa sa da la ra fa ta ua uh uo ma mh ml nf fo fh fs rs ic mn bh bo ya np pa nc cp) H := hP
      have hD : va_D A (wMd cI cJ cZ h0 h1 h2 h3 h4 h5 h6 h7 h8 h9 h10 h11 h12 h13 h14 h15 h16 h17 h18 h19 h20 h21 h22 h23 2 no ca ba nl xa sa da la ra fa ta ua uh uo ma mh ml nf fo fh fs rs ic mn bh bo ya np pa nc cp) := hD
      refine W.widen (k := 0) (n := 0) (Nat.le_of_ble_eq_true rfl) (Nat.le_of_ble_eq_true rfl) ?_
      refine nv_if_ne (tgt := 21) hx hb d_Md_daylight_16 (by decide) (by decide) (fun c8 => absurd c8 (by decide)) (fun _ => ?_)
      refine nv_iconst (n := 0) hx hb d_Md_daylight_19 ?_
      have hP9 := hP.sub (ws' := (wMd cI cJ cZ h0 h1 h2 h3 h4 h5 h6 h7 h8 h9 h10 h11 h12 h13 h14 h15 h16 h17 h18 h19 h20 h21 h22 h23 2 no ca ba nl xa sa da la ra fa ta ua uh uo ma mh ml nf fo fh fs rs ic mn bh bo ya np pa nc cp)) [0, 1, 2, 3, 4, 5, 6, 7, 8, 9, 10, 11, 12, 13, 14, 15, 16, 17, 18, 19, 20, 21, 22, 23] rfl
      have hD9 := hD.sub (ws' := (wMd cI cJ cZ h0 h1 h2 h3 h4 h5 h6 h7 h8 h9 h10 h11 h12 h13 h14 h15 h16 h17 h18 h19 h20 h21 h22 h23 2 no ca ba nl xa sa da la ra fa ta ua uh uo ma mh ml nf fo fh fs rs ic mn bh bo ya np pa nc cp)) [0, 1, 2, 3, 4, 5, 6, 7, 8, 9, 10, 11, 12, 13, 14, 15, 16, 17, 18, 19, 20, 21, 22, 23] (by decide) rfl
      exact W.iret hx hb hr (fun t ht hW => ⟨⟨_, ((2), (da), (ic)), rfl, ⟨_, rfl, v⟩, by rw [ht]; exact hP9, va_K.moved hW.alike hK, hD9⟩, hS.F ht⟩) hS.2.2 d_Md_daylight_20
  · replace v := v.2 c2
    refine lv_iload_n hx hb d_Md_daylight_8 rfl (lv_at hl 2 rfl) ?_
    obtain ⟨k9, v⟩ := v
    refine vp_callSi (nv_runS (wc := []) (As := [.int (iI lx)]) (rest := [.int (iI 0), .ref h0]) ⟨hx, hb, hml, hown, hts⟩ (m_Md_isLux l D cI cJ cO cZ lx (fun z => (z = 1 ∧ (0 ≤ lx ∧ lx ≤ 5000)) ∨ (z = 0 ∧ ¬ (0 ≤ lx ∧ lx ≤ 5000))) (s_Md_isLux lx k9)) (nv_cwS (n := 1) hts wd_825 wd_826 wd_10 wd_827 (by decide +kernel) ⟨Nat.le_of_ble_eq_true rfl, Nat.le_of_ble_eq_true rfl⟩) hK (hP.sub [] rfl) rfl hl.1 rfl (Nat.le_of_ble_eq_true rfl) d_Md_daylight_9 (Nat.le_of_ble_eq_true rfl) (Nat.le_of_ble_eq_true rfl)) (fun r hr => ?_)
    rcases hr with ⟨_, rfl, ⟨rfl, c10⟩ | ⟨rfl, c10⟩⟩
    · replace v := v.1 c10
      refine nv_iconst (n := 1) hx hb d_Md_daylight_12 ?_
      have hPc := hP.sub (ws' := (wMd cI cJ cZ h0 h1 h2 h3 h4 h5 h6 h7 h8 h9 h10 h11 h12 h13 h14 h15 h16 h17 h18 h19 h20 h21 h22 h23 th no ca ba nl xa sa da la ra fa ta ua uh uo ma mh ml nf fo fh fs rs ic mn bh bo ya np pa nc cp)) [0, 1, 2, 3, 4, 5, 6, 7, 8, 9, 10, 11, 12, 13, 14, 15, 16, 17, 18, 19, 20, 21, 22, 23] rfl
      have hDc := hD.sub (ws' := (wMd cI cJ cZ h0 h1 h2 h3 h4 h5 h6 h7 h8 h9 h10 h11 h12 h13 h14 h15 h16 h17 h18 h19 h20 h21 h22 h23 th no ca ba nl xa sa da la ra fa ta ua uh uo ma mh ml nf fo fh fs rs ic mn bh bo ya np pa nc cp)) [0, 1, 2, 3, 4, 5, 6, 7, 8, 9, 10, 11, 12, 13, 14, 15, 16, 17, 18, 19, 20, 21, 22, 23] (by decide) rfl
      have hFc := va_free (wc := (wMd cI cJ cZ h0 h1 h2 h3 h4 h5 h6 h7 h8 h9 h10 h11 h12 h13 h14 h15 h16 h17 h18 h19 h20 h21 h22 h23 th no ca ba nl xa sa da la ra fa ta ua uh uo ma mh ml nf fo fh fs rs ic mn bh bo ya np pa nc cp)) hD hS hA [0, 1, 2, 3, 4, 5, 6, 7, 8, 9, 10, 11, 12, 13, 14, 15, 16, 17, 18, 19, 20, 21, 22, 23] rfl
      refine va_calli (va_runV (As := [.int (iI 0), .int (iI 1), .int (iI 1)]) (rest := []) ⟨hx, hb, hml, hown, hts⟩ (m_Md_goes l D cI cJ cO cZ h0 h1 h2 h3 h4 h5 h6 h7 h8 h9 h10 h11 h12 h13 h14 h15 h16 h17 h18 h19 h20 h21 h22 h23 H.size th no ca ba nl xa sa da la ra fa ta ua uh uo ma mh ml nf fo fh fs rs ic mn bh bo ya np pa nc cp 0 1 1 (fun z t => z = 0 ∧ t = 1) (s_Md_goes_011 th no ca ba nl xa sa da la ra fa ta ua uh uo ma mh ml nf fo fh fs rs ic mn bh bo ya np pa nc cp)) (nv_cwV (n := 3) hts wd_812 wd_814 sl_17 wd_10 wd_815 (by decide +kernel) ⟨Nat.le_of_ble_eq_true rfl, Nat.le_of_ble_eq_true rfl⟩) ⟨blW, va_recv hK hPc (ci := 8) (q0 := 0) rfl rfl, fun U hU hW => ⟨rfl, by rw [hU], by rw [hU]; exact hPc, va_K.moved hW.alike hK, hDc.weaken (fun _ _ _ _ => trivial)⟩⟩ rfl rfl hl.1 rfl (lv_room (Nat.le_of_ble_eq_true rfl)) d_Md_daylight_13 ⟨Nat.le_of_ble_eq_true rfl, Nat.le_of_ble_eq_true rfl⟩) hS (fun q _ h => hFc q h) hFc (fun r u t H1 locs ht hvm hw hB hz1 hk1 hS => ?_)
      obtain ⟨hP1, hK1, hD1⟩ := hB
      rw [ht] at hP1
      obtain ⟨_, rfl, rfl, rfl⟩ := hw
      obtain ⟨hP, hD⟩ := va_join (wr := []) (w1 := (wMd cI cJ cZ h0 h1 h2 h3 h4 h5 h6 h7 h8 h9 h10 h11 h12 h13 h14 h15 h16 h17 h18 h19 h20 h21 h22 h23 1 no ca ba nl xa sa da la ra fa ta ua uh uo ma mh ml nf fo fh fs rs ic mn bh bo ya np pa nc cp)) hP hD [0, 1, 2, 3, 4, 5, 6, 7, 8, 9, 10, 11, 12, 13, 14, 15, 16, 17, 18, 19, 20, 21, 22, 23] [] rfl rfl (by decide) (by decide) hk1 hFc hP1 hD1
      generalize H1 = H at hP hS ⊢
      have hP : va_P D vwCl (wMd cI cJ cZ h0 h1 h2 h3 h4 h5 h6 h7 h8 h9 h10 h11 h12 h13 h14 h15 h16 h17 h18 h19 h20 h21 h22 h23 1 no ca ba nl xa sa da la ra fa ta ua uh uo ma mh ml nf fo fh fs rs ic mn bh bo ya np pa nc cp) H := hP
      have hD : va_D A (wMd cI cJ cZ h0 h1 h2 h3 h4 h5 h6 h7 h8 h9 h10 h11 h12 h13 h14 h15 h16 h17 h18 h19 h20 h21 h22 h23 1 no ca ba nl xa sa da la ra fa ta ua uh uo ma mh ml nf fo fh fs rs ic mn bh bo ya np pa nc cp) := hD
      refine W.widen (k := 0) (n := 0) (Nat.le_of_ble_eq_true rfl) (Nat.le_of_ble_eq_true rfl) ?_
      refine nv_if_ne (tgt := 21) hx hb d_Md_daylight_16 (by decide) (by decide) (fun c11 => absurd c11 (by decide)) (fun _ => ?_)
      refine nv_iconst (n := 0) hx hb d_Md_daylight_19 ?_
      have hP9 := hP.sub (ws' := (wMd cI cJ cZ h0 h1 h2 h3 h4 h5 h6 h7 h8 h9 h10 h11 h12 h13 h14 h15 h16 h17 h18 h19 h20 h21 h22 h23 1 no ca ba nl xa sa da la ra fa ta ua uh uo ma mh ml nf fo fh fs rs ic mn bh bo ya np pa nc cp)) [0, 1, 2, 3, 4, 5, 6, 7, 8, 9, 10, 11, 12, 13, 14, 15, 16, 17, 18, 19, 20, 21, 22, 23] rfl
      have hD9 := hD.sub (ws' := (wMd cI cJ cZ h0 h1 h2 h3 h4 h5 h6 h7 h8 h9 h10 h11 h12 h13 h14 h15 h16 h17 h18 h19 h20 h21 h22 h23 1 no ca ba nl xa sa da la ra fa ta ua uh uo ma mh ml nf fo fh fs rs ic mn bh bo ya np pa nc cp)) [0, 1, 2, 3, 4, 5, 6, 7, 8, 9, 10, 11, 12, 13, 14, 15, 16, 17, 18, 19, 20, 21, 22, 23] (by decide) rfl
      exact W.iret hx hb hr (fun t ht hW => ⟨⟨_, ((1), (da), (ic)), rfl, ⟨_, rfl, v⟩, by rw [ht]; exact hP9, va_K.moved hW.alike hK, hD9⟩, hS.F ht⟩) hS.2.2 d_Md_daylight_20
    · replace v := v.2 c10
      refine nv_iconst (n := 1) hx hb d_Md_daylight_12 ?_
      have hPc := hP.sub (ws' := (wMd cI cJ cZ h0 h1 h2 h3 h4 h5 h6 h7 h8 h9 h10 h11 h12 h13 h14 h15 h16 h17 h18 h19 h20 h21 h22 h23 th no ca ba nl xa sa da la ra fa ta ua uh uo ma mh ml nf fo fh fs rs ic mn bh bo ya np pa nc cp)) [0, 1, 2, 3, 4, 5, 6, 7, 8, 9, 10, 11, 12, 13, 14, 15, 16, 17, 18, 19, 20, 21, 22, 23] rfl
      have hDc := hD.sub (ws' := (wMd cI cJ cZ h0 h1 h2 h3 h4 h5 h6 h7 h8 h9 h10 h11 h12 h13 h14 h15 h16 h17 h18 h19 h20 h21 h22 h23 th no ca ba nl xa sa da la ra fa ta ua uh uo ma mh ml nf fo fh fs rs ic mn bh bo ya np pa nc cp)) [0, 1, 2, 3, 4, 5, 6, 7, 8, 9, 10, 11, 12, 13, 14, 15, 16, 17, 18, 19, 20, 21, 22, 23] (by decide) rfl
      have hFc := va_free (wc := (wMd cI cJ cZ h0 h1 h2 h3 h4 h5 h6 h7 h8 h9 h10 h11 h12 h13 h14 h15 h16 h17 h18 h19 h20 h21 h22 h23 th no ca ba nl xa sa da la ra fa ta ua uh uo ma mh ml nf fo fh fs rs ic mn bh bo ya np pa nc cp)) hD hS hA [0, 1, 2, 3, 4, 5, 6, 7, 8, 9, 10, 11, 12, 13, 14, 15, 16, 17, 18, 19, 20, 21, 22, 23] rfl
      refine va_calli (va_runV (As := [.int (iI 0), .int (iI 0), .int (iI 1)]) (rest := []) ⟨hx, hb, hml, hown, hts⟩ (m_Md_goes l D cI cJ cO cZ h0 h1 h2 h3 h4 h5 h6 h7 h8 h9 h10 h11 h12 h13 h14 h15 h16 h17 h18 h19 h20 h21 h22 h23 H.size th no ca ba nl xa sa da la ra fa ta ua uh uo ma mh ml nf fo fh fs rs ic mn bh bo ya np pa nc cp 0 0 1 (fun z t => z = 0 ∧ t = 1) (s_Md_goes_001 th no ca ba nl xa sa da la ra fa ta ua uh uo ma mh ml nf fo fh fs rs ic mn bh bo ya np pa nc cp)) (nv_cwV (n := 3) hts wd_812 wd_814 sl_17 wd_10 wd_815 (by decide +kernel) ⟨Nat.le_of_ble_eq_true rfl, Nat.le_of_ble_eq_true rfl⟩) ⟨blW, va_recv hK hPc (ci := 8) (q0 := 0) rfl rfl, fun U hU hW => ⟨rfl, by rw [hU], by rw [hU]; exact hPc, va_K.moved hW.alike hK, hDc.weaken (fun _ _ _ _ => trivial)⟩⟩ rfl rfl hl.1 rfl (lv_room (Nat.le_of_ble_eq_true rfl)) d_Md_daylight_13 ⟨Nat.le_of_ble_eq_true rfl, Nat.le_of_ble_eq_true rfl⟩) hS (fun q _ h => hFc q h) hFc (fun r u t H1 locs ht hvm hw hB hz1 hk1 hS => ?_)
      obtain ⟨hP1, hK1, hD1⟩ := hB
      rw [ht] at hP1
      obtain ⟨_, rfl, rfl, rfl⟩ := hw
      obtain ⟨hP, hD⟩ := va_join (wr := []) (w1 := (wMd cI cJ cZ h0 h1 h2 h3 h4 h5 h6 h7 h8 h9 h10 h11 h12 h13 h14 h15 h16 h17 h18 h19 h20 h21 h22 h23 1 no ca ba nl xa sa da la ra fa ta ua uh uo ma mh ml nf fo fh fs rs ic mn bh bo ya np pa nc cp)) hP hD [0, 1, 2, 3, 4, 5, 6, 7, 8, 9, 10, 11, 12, 13, 14, 15, 16, 17, 18, 19, 20, 21, 22, 23] [] rfl rfl (by decide) (by decide) hk1 hFc hP1 hD1
      generalize H1 = H at hP hS ⊢
      have hP : va_P D vwCl (wMd cI cJ cZ h0 h1 h2 h3 h4 h5 h6 h7 h8 h9 h10 h11 h12 h13 h14 h15 h16 h17 h18 h19 h20 h21 h22 h23 1 no ca ba nl xa sa da la ra fa ta ua uh uo ma mh ml nf fo fh fs rs ic mn bh bo ya np pa nc cp) H := hP
      have hD : va_D A (wMd cI cJ cZ h0 h1 h2 h3 h4 h5 h6 h7 h8 h9 h10 h11 h12 h13 h14 h15 h16 h17 h18 h19 h20 h21 h22 h23 1 no ca ba nl xa sa da la ra fa ta ua uh uo ma mh ml nf fo fh fs rs ic mn bh bo ya np pa nc cp) := hD
      refine W.widen (k := 0) (n := 0) (Nat.le_of_ble_eq_true rfl) (Nat.le_of_ble_eq_true rfl) ?_
      refine nv_if_ne (tgt := 21) hx hb d_Md_daylight_16 (by decide) (by decide) (fun c12 => absurd c12 (by decide)) (fun _ => ?_)
      refine nv_iconst (n := 0) hx hb d_Md_daylight_19 ?_
      have hP9 := hP.sub (ws' := (wMd cI cJ cZ h0 h1 h2 h3 h4 h5 h6 h7 h8 h9 h10 h11 h12 h13 h14 h15 h16 h17 h18 h19 h20 h21 h22 h23 1 no ca ba nl xa sa da la ra fa ta ua uh uo ma mh ml nf fo fh fs rs ic mn bh bo ya np pa nc cp)) [0, 1, 2, 3, 4, 5, 6, 7, 8, 9, 10, 11, 12, 13, 14, 15, 16, 17, 18, 19, 20, 21, 22, 23] rfl
      have hD9 := hD.sub (ws' := (wMd cI cJ cZ h0 h1 h2 h3 h4 h5 h6 h7 h8 h9 h10 h11 h12 h13 h14 h15 h16 h17 h18 h19 h20 h21 h22 h23 1 no ca ba nl xa sa da la ra fa ta ua uh uo ma mh ml nf fo fh fs rs ic mn bh bo ya np pa nc cp)) [0, 1, 2, 3, 4, 5, 6, 7, 8, 9, 10, 11, 12, 13, 14, 15, 16, 17, 18, 19, 20, 21, 22, 23] (by decide) rfl
      exact W.iret hx hb hr (fun t ht hW => ⟨⟨_, ((1), (da), (ic)), rfl, ⟨_, rfl, v⟩, by rw [ht]; exact hP9, va_K.moved hW.alike hK, hD9⟩, hS.F ht⟩) hS.2.2 d_Md_daylight_20

theorem d_Md_shown_0 : decode prog_10_method_15_code 0 = .ok (.aload_n 0, 1) := by decide +kernel
theorem d_Md_shown_1 : decode prog_10_method_15_code 1 = .ok (.iload_n 1, 1) := by decide +kernel
theorem d_Md_shown_2 : decode prog_10_method_15_code 2 = .ok (.invokevirtual 116, 3) := by decide +kernel
theorem d_Md_shown_5 : decode prog_10_method_15_code 5 = .ok (.ifCond .eq 14, 3) := by decide +kernel
theorem d_Md_shown_8 : decode prog_10_method_15_code 8 = .ok (.iload_n 2, 1) := by decide +kernel
theorem d_Md_shown_9 : decode prog_10_method_15_code 9 = .ok (.invokestatic 119, 3) := by decide +kernel
theorem d_Md_shown_12 : decode prog_10_method_15_code 12 = .ok (.ifCond .eq 7, 3) := by decide +kernel
theorem d_Md_shown_15 : decode prog_10_method_15_code 15 = .ok (.iconst 1, 1) := by decide +kernel
theorem d_Md_shown_16 : decode prog_10_method_15_code 16 = .ok (.goto 4, 3) := by decide +kernel
theorem d_Md_shown_19 : decode prog_10_method_15_code 19 = .ok (.iconst 0, 1) := by decide +kernel
theorem d_Md_shown_20 : decode prog_10_method_15_code 20 = .ok (.istore 4, 2) := by decide +kernel
theorem d_Md_shown_22 : decode prog_10_method_15_code 22 = .ok (.aload_n 0, 1) := by decide +kernel
theorem d_Md_shown_23 : decode prog_10_method_15_code 23 = .ok (.iload 4, 2) := by decide +kernel
theorem d_Md_shown_25 : decode prog_10_method_15_code 25 = .ok (.iload 4, 2) := by decide +kernel
theorem d_Md_shown_27 : decode prog_10_method_15_code 27 = .ok (.ifCond .eq 18, 3) := by decide +kernel
theorem d_Md_shown_30 : decode prog_10_method_15_code 30 = .ok (.aload_n 0, 1) := by decide +kernel
theorem d_Md_shown_31 : decode prog_10_method_15_code 31 = .ok (.getfield 29, 3) := by decide +kernel
theorem d_Md_shown_34 : decode prog_10_method_15_code 34 = .ok (.iload_n 1, 1) := by decide +kernel
theorem d_Md_shown_35 : decode prog_10_method_15_code 35 = .ok (.iaload, 1) := by decide +kernel
theorem d_Md_shown_36 : decode prog_10_method_15_code 36 = .ok (.bipush 16, 2) := by decide +kernel
theorem d_Md_shown_38 : decode prog_10_method_15_code 38 = .ok (.if_icmp .ge 7, 3) := by decide +kernel
theorem d_Md_shown_41 : decode prog_10_method_15_code 41 = .ok (.iconst 1, 1) := by decide +kernel
theorem d_Md_shown_42 : decode prog_10_method_15_code 42 = .ok (.goto 4, 3) := by decide +kernel
theorem d_Md_shown_45 : decode prog_10_method_15_code 45 = .ok (.iconst 0, 1) := by decide +kernel
theorem d_Md_shown_46 : decode prog_10_method_15_code 46 = .ok (.iload_n 3, 1) := by decide +kernel
theorem d_Md_shown_47 : decode prog_10_method_15_code 47 = .ok (.iload_n 2, 1) := by decide +kernel
theorem d_Md_shown_48 : decode prog_10_method_15_code 48 = .ok (.if_icmp .le 14, 3) := by decide +kernel
theorem d_Md_shown_51 : decode prog_10_method_15_code 51 = .ok (.iload_n 3, 1) := by decide +kernel
theorem d_Md_shown_52 : decode prog_10_method_15_code 52 = .ok (.sipush 26280, 3) := by decide +kernel
theorem d_Md_shown_55 : decode prog_10_method_15_code 55 = .ok (.if_icmp .gt 7, 3) := by decide +kernel
theorem d_Md_shown_58 : decode prog_10_method_15_code 58 = .ok (.iconst 1, 1) := by decide +kernel
theorem d_Md_shown_59 : decode prog_10_method_15_code 59 = .ok (.goto 4, 3) := by decide +kernel
theorem d_Md_shown_62 : decode prog_10_method_15_code 62 = .ok (.iconst 0, 1) := by decide +kernel
theorem d_Md_shown_63 : decode prog_10_method_15_code 63 = .ok (.invokevirtual 96, 3) := by decide +kernel
theorem d_Md_shown_66 : decode prog_10_method_15_code 66 = .ok (.ifCond .ne 5, 3) := by decide +kernel
theorem d_Md_shown_69 : decode prog_10_method_15_code 69 = .ok (.iconst 0, 1) := by decide +kernel
theorem d_Md_shown_70 : decode prog_10_method_15_code 70 = .ok (.ireturn, 1) := by decide +kernel
theorem d_Md_shown_71 : decode prog_10_method_15_code 71 = .ok (.aload_n 0, 1) := by decide +kernel
theorem d_Md_shown_72 : decode prog_10_method_15_code 72 = .ok (.getfield 32, 3) := by decide +kernel
theorem d_Md_shown_75 : decode prog_10_method_15_code 75 = .ok (.bipush 16, 2) := by decide +kernel
theorem d_Md_shown_77 : decode prog_10_method_15_code 77 = .ok (.iload_n 1, 1) := by decide +kernel
theorem d_Md_shown_78 : decode prog_10_method_15_code 78 = .ok (.imul, 1) := by decide +kernel
theorem d_Md_shown_79 : decode prog_10_method_15_code 79 = .ok (.aload_n 0, 1) := by decide +kernel
theorem d_Md_shown_80 : decode prog_10_method_15_code 80 = .ok (.getfield 29, 3) := by decide +kernel
theorem d_Md_shown_83 : decode prog_10_method_15_code 83 = .ok (.iload_n 1, 1) := by decide +kernel
theorem d_Md_shown_84 : decode prog_10_method_15_code 84 = .ok (.iaload, 1) := by decide +kernel
theorem d_Md_shown_85 : decode prog_10_method_15_code 85 = .ok (.iadd, 1) := by decide +kernel
theorem d_Md_shown_86 : decode prog_10_method_15_code 86 = .ok (.iload_n 2, 1) := by decide +kernel
theorem d_Md_shown_87 : decode prog_10_method_15_code 87 = .ok (.iastore, 1) := by decide +kernel
theorem d_Md_shown_88 : decode prog_10_method_15_code 88 = .ok (.aload_n 0, 1) := by decide +kernel
theorem d_Md_shown_89 : decode prog_10_method_15_code 89 = .ok (.getfield 35, 3) := by decide +kernel
theorem d_Md_shown_92 : decode prog_10_method_15_code 92 = .ok (.bipush 16, 2) := by decide +kernel
theorem d_Md_shown_94 : decode prog_10_method_15_code 94 = .ok (.iload_n 1, 1) := by decide +kernel
theorem d_Md_shown_95 : decode prog_10_method_15_code 95 = .ok (.imul, 1) := by decide +kernel
theorem d_Md_shown_96 : decode prog_10_method_15_code 96 = .ok (.aload_n 0, 1) := by decide +kernel
theorem d_Md_shown_97 : decode prog_10_method_15_code 97 = .ok (.getfield 29, 3) := by decide +kernel
theorem d_Md_shown_100 : decode prog_10_method_15_code 100 = .ok (.iload_n 1, 1) := by decide +kernel
theorem d_Md_shown_101 : decode prog_10_method_15_code 101 = .ok (.iaload, 1) := by decide +kernel
theorem d_Md_shown_102 : decode prog_10_method_15_code 102 = .ok (.iadd, 1) := by decide +kernel
theorem d_Md_shown_103 : decode prog_10_method_15_code 103 = .ok (.iload_n 3, 1) := by decide +kernel
theorem d_Md_shown_104 : decode prog_10_method_15_code 104 = .ok (.iastore, 1) := by decide +kernel
theorem d_Md_shown_105 : decode prog_10_method_15_code 105 = .ok (.aload_n 0, 1) := by decide +kernel
theorem d_Md_shown_106 : decode prog_10_method_15_code 106 = .ok (.getfield 29, 3) := by decide +kernel
theorem d_Md_shown_109 : decode prog_10_method_15_code 109 = .ok (.iload_n 1, 1) := by decide +kernel
theorem d_Md_shown_110 : decode prog_10_method_15_code 110 = .ok (.dup2, 1) := by decide +kernel
theorem d_Md_shown_111 : decode prog_10_method_15_code 111 = .ok (.iaload, 1) := by decide +kernel
theorem d_Md_shown_112 : decode prog_10_method_15_code 112 = .ok (.iconst 1, 1) := by decide +kernel
theorem d_Md_shown_113 : decode prog_10_method_15_code 113 = .ok (.iadd, 1) := by decide +kernel
theorem d_Md_shown_114 : decode prog_10_method_15_code 114 = .ok (.iastore, 1) := by decide +kernel
theorem d_Md_shown_115 : decode prog_10_method_15_code 115 = .ok (.aload_n 0, 1) := by decide +kernel
theorem d_Md_shown_116 : decode prog_10_method_15_code 116 = .ok (.iconst 0, 1) := by decide +kernel
theorem d_Md_shown_117 : decode prog_10_method_15_code 117 = .ok (.putfield 100, 3) := by decide +kernel
theorem d_Md_shown_120 : decode prog_10_method_15_code 120 = .ok (.aload_n 0, 1) := by decide +kernel
theorem d_Md_shown_121 : decode prog_10_method_15_code 121 = .ok (.getfield 29, 3) := by decide +kernel
theorem d_Md_shown_124 : decode prog_10_method_15_code 124 = .ok (.iload_n 1, 1) := by decide +kernel
theorem d_Md_shown_125 : decode prog_10_method_15_code 125 = .ok (.iaload, 1) := by decide +kernel
theorem d_Md_shown_126 : decode prog_10_method_15_code 126 = .ok (.ireturn, 1) := by decide +kernel
def vc_Md_shown (th : Int) (no : Int) (ca : Nat → Int) (ba : Nat → Int) (nl : Int) (xa : Nat → Int) (sa : Nat → Int) (da : Nat → Int) (la : Nat → Int) (ra : Nat → Int) (fa : Nat → Int) (ta : Nat → Int) (ua : Nat → Int) (uh : Nat → Int) (uo : Nat → Int) (ma : Nat → Int) (mh : Nat → Int) (ml : Nat → Int) (nf : Int) (fo : Nat → Int) (fh : Nat → Int) (fs : Nat → Int) (rs : Int) (ic : Int) (mn : Int) (bh : Nat → Int) (bo : Nat → Int) (ya : Nat → Int) (np : Int) (pa : Nat → Int) (nc : Int) (cp : Nat → Int) (ob : Int) (from_ : Int) (to_ : Int) (post : Int → Int → (Nat → Int) → (Nat → Int) → (Nat → Int) → Int → Prop) : Prop := (r32 ob) ∧ ((r32 no) ∧ (((0 ≤ ob ∧ ob < no) → (r32 from_) ∧ (((0 ≤ from_ ∧ from_ < 26280) → (0 ≤ ob ∧ ob < 12) ∧ ((r32 (ra (ob).toNat)) ∧ ((16 ≤ ra (ob).toNat → (r32 to_) ∧ ((to_ ≤ from_ → post 0 2 fa ta ra ic) ∧ (from_ < to_ → (26280 < to_ → post 0 2 fa ta ra ic) ∧ (to_ ≤ 26280 → post 0 2 fa ta ra ic)))) ∧ (ra (ob).toNat < 16 → (r32 to_) ∧ ((to_ ≤ from_ → post 0 3 fa ta ra ic) ∧ (from_ < to_ → (26280 < to_ → post 0 3 fa ta ra ic) ∧ (to_ ≤ 26280 → (0 ≤ ob ∧ ob < 12) ∧ ((0 ≤ 16 * ob + (ra (ob).toNat) ∧ 16 * ob + (ra (ob).toNat) < 192) ∧ ((0 ≤ ob ∧ ob < 12) ∧ ((0 ≤ 16 * ob + (ra (ob).toNat) ∧ 16 * ob + (ra (ob).toNat) < 192) ∧ ((0 ≤ ob ∧ ob < 12) ∧ ((0 ≤ ob ∧ ob < 12) ∧ ((0 ≤ ob ∧ ob < 12) ∧ (post ((va_up ra (ob).toNat (ra (ob).toNat + 1)) (ob).toNat) 0 (va_up fa (16 * ob + (ra (ob).toNat)).toNat from_) (va_up ta (16 * ob + (ra (ob).toNat)).toNat to_) (va_up ra (ob).toNat (ra (ob).toNat + 1)) 0)))))))))))))) ∧ (¬ (0 ≤ from_ ∧ from_ < 26280) → (r32 to_) ∧ ((to_ ≤ from_ → post 0 1 fa ta ra ic) ∧ (from_ < to_ → (26280 < to_ → post 0 1 fa ta ra ic) ∧ (to_ ≤ 26280 → post 0 1 fa ta ra ic)))))) ∧ (¬ (0 ≤ ob ∧ ob < no) → (r32 to_) ∧ ((r32 from_) ∧ ((to_ ≤ from_ → post 0 1 fa ta ra ic) ∧ (from_ < to_ → (26280 < to_ → post 0 1 fa ta ra ic) ∧ (to_ ≤ 26280 → post 0 1 fa ta ra ic)))))))
set_option maxHeartbeats 4000000 in
set_option maxRecDepth 100000 in
theorem m_Md_shown (l : Launch) (D : va_G) (cI cJ cO cZ : ClassId) (h0 h1 h2 h3 h4 h5 h6 h7 h8 h9 h10 h11 h12 h13 h14 h15 h16 h17 h18 h19 h20 h21 h22 h23 : Nat) (sz : Nat) (th : Int) (no : Int) (ca : Nat → Int) (ba : Nat → Int) (nl : Int) (xa : Nat → Int) (sa : Nat → Int) (da : Nat → Int) (la : Nat → Int) (ra : Nat → Int) (fa : Nat → Int) (ta : Nat → Int) (ua : Nat → Int) (uh : Nat → Int) (uo : Nat → Int) (ma : Nat → Int) (mh : Nat → Int) (ml : Nat → Int) (nf : Int) (fo : Nat → Int) (fh : Nat → Int) (fs : Nat → Int) (rs : Int) (ic : Int) (mn : Int) (bh : Nat → Int) (bo : Nat → Int) (ya : Nat → Int) (np : Int) (pa : Nat → Int) (nc : Int) (cp : Nat → Int) (ob : Int) (from_ : Int) (to_ : Int) (post : Int → Int → (Nat → Int) → (Nat → Int) → (Nat → Int) → Int → Prop) (v : vc_Md_shown th no ca ba nl xa sa da la ra fa ta ua uh uo ma mh ml nf fo fh fs rs ic mn bh bo ya np pa nc cp ob from_ to_ post) : Met l ⟨"LightDosesModel", "shown", "(III)I"⟩ (.code ⟨"LightDosesModel", "shown", "(III)I"⟩ prog_10_method_15_code 5 (some .int) :: TG) { frames := 1, cells := 0, slots := 0, locals := 23 } (va_Pc [.ref h0, .int (iI ob), .int (iI from_), .int (iI to_)] (fun U => U.heap.size = sz ∧ va_P D vwCl (wMd cI cJ cZ h0 h1 h2 h3 h4 h5 h6 h7 h8 h9 h10 h11 h12 h13 h14 h15 h16 h17 h18 h19 h20 h21 h22 h23 th no ca ba nl xa sa da la ra fa ta ua uh uo ma mh ml nf fo fh fs rs ic mn bh bo ya np pa nc cp) U.heap ∧ va_K D vwCl (tyx cI cJ cO cZ) U ∧ va_D (fun _ => True) (wMd cI cJ cZ h0 h1 h2 h3 h4 h5 h6 h7 h8 h9 h10 h11 h12 h13 h14 h15 h16 h17 h18 h19 h20 h21 h22 h23 th no ca ba nl xa sa da la ra fa ta ua uh uo ma mh ml nf fo fh fs rs ic mn bh bo ya np pa nc cp))) (va_Qi (fun (r : Int32) (u : Int × (Nat → Int) × (Nat → Int) × (Nat → Int) × Int) => ∃ z : Int, r = iI z ∧ post z u.1 u.2.1 u.2.2.1 u.2.2.2.1 u.2.2.2.2) (fun u t => va_P D vwCl (wMd cI cJ cZ h0 h1 h2 h3 h4 h5 h6 h7 h8 h9 h10 h11 h12 h13 h14 h15 h16 h17 h18 h19 h20 h21 h22 h23 u.1 no ca ba nl xa sa da la u.2.2.2.1 u.2.1 u.2.2.1 ua uh uo ma mh ml nf fo fh fs rs u.2.2.2.2 mn bh bo ya np pa nc cp) t.heap ∧ va_K D vwCl (tyx cI cJ cO cZ) t ∧ va_D (va_A (wMd cI cJ cZ h0 h1 h2 h3 h4 h5 h6 h7 h8 h9 h10 h11 h12 h13 h14 h15 h16 h17 h18 h19 h20 h21 h22 h23 th no ca ba nl xa sa da la ra fa ta ua uh uo ma mh ml nf fo fh fs rs ic mn bh bo ya np pa nc cp) sz) (wMd cI cJ cZ h0 h1 h2 h3 h4 h5 h6 h7 h8 h9 h10 h11 h12 h13 h14 h15 h16 h17 h18 h19 h20 h21 h22 h23 u.1 no ca ba nl xa sa da la u.2.2.2.1 u.2.1 u.2.2.1 ua uh uo ma mh ml nf fo fh fs rs u.2.2.2.2 mn bh bo ya np pa nc cp)) (va_A (wMd cI cJ cZ h0 h1 h2 h3 h4 h5 h6 h7 h8 h9 h10 h11 h12 h13 h14 h15 h16 h17 h18 h19 h20 h21 h22 h23 th no ca ba nl xa sa da la ra fa ta ua uh uo ma mh ml nf fo fh fs rs ic mn bh bo ya np pa nc cp) sz)) 0 0 (va_A (wMd cI cJ cZ h0 h1 h2 h3 h4 h5 h6 h7 h8 h9 h10 h11 h12 h13 h14 h15 h16 h17 h18 h19 h20 h21 h22 h23 th no ca ba nl xa sa da la ra fa ta ua uh uo ma mh ml nf fo fh fs rs ic mn bh bo ya np pa nc cp) sz) := by
  refine Met.ofW (cc := prog_10_method_15_code) (maxL := 5) (ret := (some .int)) (by decide) rfl ?_
  intro p e s m args below meth c s₁ B hml hv
  obtain ⟨rfl, hsz, hP, hK, hD0⟩ := hv
  have hx := B.exec
  have hb := B.bytes
  have hr := B.returns
  have hts0 := atoms_spec (ws := (.code ⟨"LightDosesModel", "shown", "(III)I"⟩ prog_10_method_15_code 5 (some .int) :: TG)) B.pre
  have hts : ∀ w ∈ TG, w.before _ s = true := fun w h => hts0 w (List.mem_cons_of_mem _ h)
  have hown : s.vm.findClass "LightDosesModel" = some m.cls := findClass_of_methodNamed B.named
  have hlocks := B.notSynchronized
  subst hsz
  have hD := hD0.self (sz := s.heap.size)
  generalize hAe : va_A (wMd cI cJ cZ h0 h1 h2 h3 h4 h5 h6 h7 h8 h9 h10 h11 h12 h13 h14 h15 h16 h17 h18 h19 h20 h21 h22 h23 th no ca ba nl xa sa da la ra fa ta ua uh uo ma mh ml nf fo fh fs rs ic mn bh bo ya np pa nc cp) s.heap.size = A at hD ⊢
  have hA : ∀ q : Nat, s.heap.size ≤ q → A q := fun q h => by rw [← hAe]; exact Or.inr h
  have hS : va_S A s.heap s.heap [] := va_S.rf
  have hP : va_P D vwCl (wMd cI cJ cZ h0 h1 h2 h3 h4 h5 h6 h7 h8 h9 h10 h11 h12 h13 h14 h15 h16 h17 h18 h19 h20 h21 h22 h23 th no ca ba nl xa sa da la ra fa ta ua uh uo ma mh ml nf fo fh fs rs ic mn bh bo ya np pa nc cp) s.heap := hP
  have hl := lv_entry ([Value.ref h0, Value.int (iI ob), Value.int (iI from_), Value.int (iI to_)]) (n := 5) (Nat.le_of_ble_eq_true rfl)
  rw [lg_entry_eq]
  generalize (lg_sl ([Value.ref h0, Value.int (iI ob), Value.int (iI from_), Value.int (iI to_)]) ++ List.replicate (5 - (lg_sl ([Value.ref h0, Value.int (iI ob), Value.int (iI from_), Value.int (iI to_)])).length) Slot.unset).toArray = ls at hl ⊢
  have hl : lv_has ls 5 [(0, .ref h0), (1, .int (iI ob)), (2, .int (iI from_)), (3, .int (iI to_))] := hl
  unfold vc_Md_shown at v
  obtain ⟨H, hH⟩ : ∃ H, H = s.heap := ⟨_, rfl⟩
  obtain ⟨locs, hlc⟩ : ∃ L : List Loc, L = [] := ⟨_, rfl⟩
  rw [← hlc] at hS ⊢
  have hP : va_P D vwCl (wMd cI cJ cZ h0 h1 h2 h3 h4 h5 h6 h7 h8 h9 h10 h11 h12 h13 h14 h15 h16 h17 h18 h19 h20 h21 h22 h23 th no ca ba nl xa sa da la ra fa ta ua uh uo ma mh ml nf fo fh fs rs ic mn bh bo ya np pa nc cp) H := by rw [hH]; exact hP
  have hS : va_S A s.heap H locs := by rw [hH]; exact hS
  have hW0 : ∀ {X : Heap → Prop}, X H → X s.heap := fun h => by rw [← hH]; exact h
  refine hW0 (X := fun Z => W p l e _ s m _ below meth c Z locs 0 0 _ _) ?_
  refine lv_aload_n hx hb d_Md_shown_0 rfl (lv_at hl 0 rfl) ?_
  refine lv_iload_n hx hb d_Md_shown_1 rfl (lv_at hl 1 rfl) ?_
  obtain ⟨k1, v⟩ := v
  obtain ⟨k2, v⟩ := v
  refine vp_callSi (nv_runV (wc := (wMd cI cJ cZ h0 h1 h2 h3 h4 h5 h6 h7 h8 h9 h10 h11 h12 h13 h14 h15 h16 h17 h18 h19 h20 h21 h22 h23 th no ca ba nl xa sa da la ra fa ta ua uh uo ma mh ml nf fo fh fs rs ic mn bh bo ya np pa nc cp)) (As := [.int (iI ob)]) (rest := []) ⟨hx, hb, hml, hown, hts⟩ (m_Md_isObject l D cI cJ cO cZ h0 h1 h2 h3 h4 h5 h6 h7 h8 h9 h10 h11 h12 h13 h14 h15 h16 h17 h18 h19 h20 h21 h22 h23 th no ca ba nl xa sa da la ra fa ta ua uh uo ma mh ml nf fo fh fs rs ic mn bh bo ya np pa nc cp ob (fun z => (z = 1 ∧ (0 ≤ ob ∧ ob < no)) ∨ (z = 0 ∧ ¬ (0 ≤ ob ∧ ob < no))) (s_Md_isObject th no ca ba nl xa sa da la ra fa ta ua uh uo ma mh ml nf fo fh fs rs ic mn bh bo ya np pa nc cp ob k1 k2)) (nv_cwV (n := 1) hts wd_840 wd_842 sl_20 wd_10 wd_843 (by decide +kernel) ⟨Nat.le_of_ble_eq_true rfl, Nat.le_of_ble_eq_true rfl⟩) hK (hP.sub [0, 1, 2, 3, 4, 5, 6, 7, 8, 9, 10, 11, 12, 13, 14, 15, 16, 17, 18, 19, 20, 21, 22, 23] rfl) (va_recv hK hP (ci := 8) (q0 := 0) rfl rfl) rfl hl.1 rfl (Nat.le_of_ble_eq_true rfl) d_Md_shown_2 (Nat.le_of_ble_eq_true rfl) (Nat.le_of_ble_eq_true rfl)) (fun r hr => ?_)
  rcases hr with ⟨_, rfl, ⟨rfl, c3⟩ | ⟨rfl, c3⟩⟩
  · replace v := v.1 c3
    refine nv_if_eq (tgt := 19) hx hb d_Md_shown_5 (by decide) (by decide) (fun c4 => absurd c4 (by decide)) (fun _ => ?_)
    refine lv_iload_n hx hb d_Md_shown_8 rfl (lv_at hl 2 rfl) ?_
    obtain ⟨k5, v⟩ := v
    refine vp_callSi (nv_runS (wc := []) (As := [.int (iI from_)]) (rest := []) ⟨hx, hb, hml, hown, hts⟩ (m_Md_isHour l D cI cJ cO cZ from_ (fun z => (z = 1 ∧ (0 ≤ from_ ∧ from_ < 26280)) ∨ (z = 0 ∧ ¬ (0 ≤ from_ ∧ from_ < 26280))) (s_Md_isHour from_ k5)) (nv_cwS (n := 1) hts wd_852 wd_853 wd_10 wd_854 (by decide +kernel) ⟨Nat.le_of_ble_eq_true rfl, Nat.le_of_ble_eq_true rfl⟩) hK (hP.sub [] rfl) rfl hl.1 rfl (Nat.le_of_ble_eq_true rfl) d_Md_shown_9 (Nat.le_of_ble_eq_true rfl) (Nat.le_of_ble_eq_true rfl)) (fun r hr => ?_)
    rcases hr with ⟨_, rfl, ⟨rfl, c6⟩ | ⟨rfl, c6⟩⟩
    · replace v := v.1 c6
      refine nv_if_eq (tgt := 19) hx hb d_Md_shown_12 (by decide) (by decide) (fun c7 => absurd c7 (by decide)) (fun _ => ?_)
      refine nv_iconst (n := 1) hx hb d_Md_shown_15 ?_
      refine lv_goto (tgt := 20) hx hb d_Md_shown_16 (by decide) ?_
      refine lv_istore (lv' := [(4, .int (iI 1)), (0, .ref h0), (1, .int (iI ob)), (2, .int (iI from_)), (3, .int (iI to_))]) hx hb d_Md_shown_20 hl (by decide) rfl (fun ls hl => ?_)
      refine lv_aload_n hx hb d_Md_shown_22 rfl (lv_at hl 1 rfl) ?_
      refine lv_iload hx hb d_Md_shown_23 (lv_at hl 0 rfl) ?_
      refine lv_iload hx hb d_Md_shown_25 (lv_at hl 0 rfl) ?_
      refine nv_if_eq (tgt := 45) hx hb d_Md_shown_27 (by decide) (by decide) (fun c8 => absurd c8 (by decide)) (fun _ => ?_)
      refine lv_aload_n hx hb d_Md_shown_30 rfl (lv_at hl 1 rfl) ?_
      refine va_get (D := D) (ci := 8) (v := .ref h7) (C := "LightDosesModel") (T := T_Md) (N := 32) hx hb hts in_Md hown hK hP 0 rfl rfl 9 (by decide) (hts _ wd_712) (fun _ h9 => h9) rfl d_Md_shown_31 ?_
      refine lv_iload_n hx hb d_Md_shown_34 rfl (lv_at hl 2 rfl) ?_
      obtain ⟨k9, v⟩ := v
      refine nv_iald (f := ra) hx hb hK 0 (hP 7 _ rfl) rfl (ob).toNat (Int.toNat_of_nonneg k9.1).symm (by omega) (by decide) d_Md_shown_35 ?_
      refine nv_bipush (z := 16) hx hb d_Md_shown_36 (by decide) ?_
      obtain ⟨k10, v⟩ := v
      refine nv_icmp_ge (tgt := 45) hx hb d_Md_shown_38 (by decide) k10 (by decide) (fun c11 => ?_) (fun c11 => ?_)
      · replace v := v.1 c11
        refine nv_iconst (n := 0) hx hb d_Md_shown_45 ?_
        refine lv_iload_n hx hb d_Md_shown_46 rfl (lv_at hl 4 rfl) ?_
        refine lv_iload_n hx hb d_Md_shown_47 rfl (lv_at hl 3 rfl) ?_
        obtain ⟨k12, v⟩ := v
        refine nv_icmp_le (tgt := 62) hx hb d_Md_shown_48 (by decide) k12 k5 (fun c13 => ?_) (fun c13 => ?_)
        · replace v := v.1 c13
          refine nv_iconst (n := 0) hx hb d_Md_shown_62 ?_
          have hPc := hP.sub (ws' := (wMd cI cJ cZ h0 h1 h2 h3 h4 h5 h6 h7 h8 h9 h10 h11 h12 h13 h14 h15 h16 h17 h18 h19 h20 h21 h22 h23 th no ca ba nl xa sa da la ra fa ta ua uh uo ma mh ml nf fo fh fs rs ic mn bh bo ya np pa nc cp)) [0, 1, 2, 3, 4, 5, 6, 7, 8, 9, 10, 11, 12, 13, 14, 15, 16, 17, 18, 19, 20, 21, 22, 23] rfl
          have hDc := hD.sub (ws' := (wMd cI cJ cZ h0 h1 h2 h3 h4 h5 h6 h7 h8 h9 h10 h11 h12 h13 h14 h15 h16 h17 h18 h19 h20 h21 h22 h23 th no ca ba nl xa sa da la ra fa ta ua uh uo ma mh ml nf fo fh fs rs ic mn bh bo ya np pa nc cp)) [0, 1, 2, 3, 4, 5, 6, 7, 8, 9, 10, 11, 12, 13, 14, 15, 16, 17, 18, 19, 20, 21, 22, 23] (by decide) rfl
          have hFc := va_free (wc := (wMd cI cJ cZ h0 h1 h2 h3 h4 h5 h6 h7 h8 h9 h10 h11 h12 h13 h14 h15 h16 h17 h18 h19 h20 h21 h22 h23 th no ca ba nl xa sa da la ra fa ta ua uh uo ma mh ml nf fo fh fs rs ic mn bh bo ya np pa nc cp)) hD hS hA [0, 1, 2, 3, 4, 5, 6, 7, 8, 9, 10, 11, 12, 13, 14, 15, 16, 17, 18, 19, 20, 21, 22, 23] rfl
          refine va_calli (va_runV (As := [.int (iI 1), .int (iI 0), .int (iI 0)]) (rest := []) ⟨hx, hb, hml, hown, hts⟩ (m_Md_goes l D cI cJ cO cZ h0 h1 h2 h3 h4 h5 h6 h7 h8 h9 h10 h11 h12 h13 h14 h15 h16 h17 h18 h19 h20 h21 h22 h23 H.size th no ca ba nl xa sa da la ra fa ta ua uh uo ma mh ml nf fo fh fs rs ic mn bh bo ya np pa nc cp 1 0 0 (fun z t => z = 0 ∧ t = 2) (s_Md_goes_100 th no ca ba nl xa sa da la ra fa ta ua uh uo ma mh ml nf fo fh fs rs ic mn bh bo ya np pa nc cp)) (nv_cwV (n := 3) hts wd_812 wd_814 sl_17 wd_10 wd_815 (by decide +kernel) ⟨Nat.le_of_ble_eq_true rfl, Nat.le_of_ble_eq_true rfl⟩) ⟨blW, va_recv hK hPc (ci := 8) (q0 := 0) rfl rfl, fun U hU hW => ⟨rfl, by rw [hU], by rw [hU]; exact hPc, va_K.moved hW.alike hK, hDc.weaken (fun _ _ _ _ => trivial)⟩⟩ rfl rfl hl.1 rfl (lv_room (Nat.le_of_ble_eq_true rfl)) d_Md_shown_63 ⟨Nat.le_of_ble_eq_true rfl, Nat.le_of_ble_eq_true rfl⟩) hS (fun q _ h => hFc q h) hFc (fun r u t H1 locs ht hvm hw hB hz1 hk1 hS => ?_)
          obtain ⟨hP1, hK1, hD1⟩ := hB
          rw [ht] at hP1
          obtain ⟨_, rfl, rfl, rfl⟩ := hw
          obtain ⟨hP, hD⟩ := va_join (wr := []) (w1 := (wMd cI cJ cZ h0 h1 h2 h3 h4 h5 h6 h7 h8 h9 h10 h11 h12 h13 h14 h15 h16 h17 h18 h19 h20 h21 h22 h23 2 no ca ba nl xa sa da la ra fa ta ua uh uo ma mh ml nf fo fh fs rs ic mn bh bo ya np pa nc cp)) hP hD [0, 1, 2, 3, 4, 5, 6, 7, 8, 9, 10, 11, 12, 13, 14, 15, 16, 17, 18, 19, 20, 21, 22, 23] [] rfl rfl (by decide) (by decide) hk1 hFc hP1 hD1
          generalize H1 = H at hP hS ⊢
          have hP : va_P D vwCl (wMd cI cJ cZ h0 h1 h2 h3 h4 h5 h6 h7 h8 h9 h10 h11 h12 h13 h14 h15 h16 h17 h18 h19 h20 h21 h22 h23 2 no ca ba nl xa sa da la ra fa ta ua uh uo ma mh ml nf fo fh fs rs ic mn bh bo ya np pa nc cp) H := hP
          have hD : va_D A (wMd cI cJ cZ h0 h1 h2 h3 h4 h5 h6 h7 h8 h9 h10 h11 h12 h13 h14 h15 h16 h17 h18 h19 h20 h21 h22 h23 2 no ca ba nl xa sa da la ra fa ta ua uh uo ma mh ml nf fo fh fs rs ic mn bh bo ya np pa nc cp) := hD
          refine W.widen (k := 0) (n := 0) (Nat.le_of_ble_eq_true rfl) (Nat.le_of_ble_eq_true rfl) ?_
          refine nv_if_ne (tgt := 71) hx hb d_Md_shown_66 (by decide) (by decide) (fun c14 => absurd c14 (by decide)) (fun _ => ?_)
          refine nv_iconst (n := 0) hx hb d_Md_shown_69 ?_
          have hP9 := hP.sub (ws' := (wMd cI cJ cZ h0 h1 h2 h3 h4 h5 h6 h7 h8 h9 h10 h11 h12 h13 h14 h15 h16 h17 h18 h19 h20 h21 h22 h23 2 no ca ba nl xa sa da la ra fa ta ua uh uo ma mh ml nf fo fh fs rs ic mn bh bo ya np pa nc cp)) [0, 1, 2, 3, 4, 5, 6, 7, 8, 9, 10, 11, 12, 13, 14, 15, 16, 17, 18, 19, 20, 21, 22, 23] rfl
          have hD9 := hD.sub (ws' := (wMd cI cJ cZ h0 h1 h2 h3 h4 h5 h6 h7 h8 h9 h10 h11 h12 h13 h14 h15 h16 h17 h18 h19 h20 h21 h22 h23 2 no ca ba nl xa sa da la ra fa ta ua uh uo ma mh ml nf fo fh fs rs ic mn bh bo ya np pa nc cp)) [0, 1, 2, 3, 4, 5, 6, 7, 8, 9, 10, 11, 12, 13, 14, 15, 16, 17, 18, 19, 20, 21, 22, 23] (by decide) rfl
          exact W.iret hx hb hr (fun t ht hW => ⟨⟨_, ((2), (fa), (ta), (ra), (ic)), rfl, ⟨_, rfl, v⟩, by rw [ht]; exact hP9, va_K.moved hW.alike hK, hD9⟩, hS.F ht⟩) hS.2.2 d_Md_shown_70
        · replace v := v.2 c13
          refine lv_iload_n hx hb d_Md_shown_51 rfl (lv_at hl 4 rfl) ?_
          refine nv_sipush (z := 26280) hx hb d_Md_shown_52 (by decide) ?_
          refine nv_icmp_gt (tgt := 62) hx hb d_Md_shown_55 (by decide) k12 (by decide) (fun c15 => ?_) (fun c15 => ?_)
          · replace v := v.1 c15
            refine nv_iconst (n := 0) hx hb d_Md_shown_62 ?_
            have hPc := hP.sub (ws' := (wMd cI cJ cZ h0 h1 h2 h3 h4 h5 h6 h7 h8 h9 h10 h11 h12 h13 h14 h15 h16 h17 h18 h19 h20 h21 h22 h23 th no ca ba nl xa sa da la ra fa ta ua uh uo ma mh ml nf fo fh fs rs ic mn bh bo ya np pa nc cp)) [0, 1, 2, 3, 4, 5, 6, 7, 8, 9, 10, 11, 12, 13, 14, 15, 16, 17, 18, 19, 20, 21, 22, 23] rfl
            have hDc := hD.sub (ws' := (wMd cI cJ cZ h0 h1 h2 h3 h4 h5 h6 h7 h8 h9 h10 h11 h12 h13 h14 h15 h16 h17 h18 h19 h20 h21 h22 h23 th no ca ba nl xa sa da la ra fa ta ua uh uo ma mh ml nf fo fh fs rs ic mn bh bo ya np pa nc cp)) [0, 1, 2, 3, 4, 5, 6, 7, 8, 9, 10, 11, 12, 13, 14, 15, 16, 17, 18, 19, 20, 21, 22, 23] (by decide) rfl
            have hFc := va_free (wc := (wMd cI cJ cZ h0 h1 h2 h3 h4 h5 h6 h7 h8 h9 h10 h11 h12 h13 h14 h15 h16 h17 h18 h19 h20 h21 h22 h23 th no ca ba nl xa sa da la ra fa ta ua uh uo ma mh ml nf fo fh fs rs ic mn bh bo ya np pa nc cp)) hD hS hA [0, 1, 2, 3, 4, 5, 6, 7, 8, 9, 10, 11, 12, 13, 14, 15, 16, 17, 18, 19, 20, 21, 22, 23] rfl
            refine va_calli (va_runV (As := [.int (iI 1), .int (iI 0), .int (iI 0)]) (rest := []) ⟨hx, hb, hml, hown, hts⟩ (m_Md_goes l D cI cJ cO cZ h0 h1 h2 h3 h4 h5 h6 h7 h8 h9 h10 h11 h12 h13 h14 h15 h16 h17 h18 h19 h20 h21 h22 h23 H.size th no ca ba nl xa sa da la ra fa ta ua uh uo ma mh ml nf fo fh fs rs ic mn bh bo ya np pa nc cp 1 0 0 (fun z t => z = 0 ∧ t = 2) (s_Md_goes_100 th no ca ba nl xa sa da la ra fa ta ua uh uo ma mh ml nf fo fh fs rs ic mn bh bo ya np pa nc cp)) (nv_cwV (n := 3) hts wd_812 wd_814 sl_17 wd_10 wd_815 (by decide +kernel) ⟨Nat.le_of_ble_eq_true rfl, Nat.le_of_ble_eq_true rfl⟩) ⟨blW, va_recv hK hPc (ci := 8) (q0 := 0) rfl rfl, fun U hU hW => ⟨rfl, by rw [hU], by rw [hU]; exact hPc, va_K.moved hW.alike hK, hDc.weaken (fun _ _ _ _ => trivial)⟩⟩ rfl rfl hl.1 rfl (lv_room (Nat.le_of_ble_eq_true rfl)) d_Md_shown_63 ⟨Nat.le_of_ble_eq_true rfl, Nat.le_of_ble_eq_true rfl⟩) hS (fun q _ h => hFc q h) hFc (fun r u t H1 locs ht hvm hw hB hz1 hk1 hS => ?_)
            obtain ⟨hP1, hK1, hD1⟩ := hB
            rw [ht] at hP1
            obtain ⟨_, rfl, rfl, rfl⟩ := hw
            obtain ⟨hP, hD⟩ := va_join (wr := []) (w1 := (wMd cI cJ cZ h0 h1 h2 h3 h4 h5 h6 h7 h8 h9 h10 h11 h12 h13 h14 h15 h16 h17 h18 h19 h20 h21 h22 h23 2 no ca ba nl xa sa da la ra fa ta ua uh uo ma mh ml nf fo fh fs rs ic mn bh bo ya np pa nc cp)) hP hD [0, 1, 2, 3, 4, 5, 6, 7, 8, 9, 10, 11, 12, 13, 14, 15, 16, 17, 18, 19, 20, 21, 22, 23] [] rfl rfl (by decide) (by decide) hk1 hFc hP1 hD1
            generalize H1 = H at hP hS ⊢
            have hP : va_P D vwCl (wMd cI cJ cZ h0 h1 h2 h3 h4 h5 h6 h7 h8 h9 h10 h11 h12 h13 h14 h15 h16 h17 h18 h19 h20 h21 h22 h23 2 no ca ba nl xa sa da la ra fa ta ua uh uo ma mh ml nf fo fh fs rs ic mn bh bo ya np pa nc cp) H := hP
            have hD : va_D A (wMd cI cJ cZ h0 h1 h2 h3 h4 h5 h6 h7 h8 h9 h10 h11 h12 h13 h14 h15 h16 h17 h18 h19 h20 h21 h22 h23 2 no ca ba nl xa sa da la ra fa ta ua uh uo ma mh ml nf fo fh fs rs ic mn bh bo ya np pa nc cp) := hD
            refine W.widen (k := 0) (n := 0) (Nat.le_of_ble_eq_true rfl) (Nat.le_of_ble_eq_true rfl) ?_
            refine nv_if_ne (tgt := 71) hx hb d_Md_shown_66 (by decide) (by decide) (fun c16 => absurd c16 (by decide)) (fun _ => ?_)
            refine nv_iconst (n := 0) hx hb d_Md_shown_69 ?_
            have hP9 := hP.sub (ws' := (wMd cI cJ cZ h0 h1 h2 h3 h4 h5 h6 h7 h8 h9 h10 h11 h12 h13 h14 h15 h16 h17 h18 h19 h20 h21 h22 h23 2 no ca ba nl xa sa da la ra fa ta ua uh uo ma mh ml nf fo fh fs rs ic mn bh bo ya np pa nc cp)) [0, 1, 2, 3, 4, 5, 6, 7, 8, 9, 10, 11, 12, 13, 14, 15, 16, 17, 18, 19, 20, 21, 22, 23] rfl
            have hD9 := hD.sub (ws' := (wMd cI cJ cZ h0 h1 h2 h3 h4 h5 h6 h7 h8 h9 h10 h11 h12 h13 h14 h15 h16 h17 h18 h19 h20 h21 h22 h23 2 no ca ba nl xa sa da la ra fa ta ua uh uo ma mh ml nf fo fh fs rs ic mn bh bo ya np pa nc cp)) [0, 1, 2, 3, 4, 5, 6, 7, 8, 9, 10, 11, 12, 13, 14, 15, 16, 17, 18, 19, 20, 21, 22, 23] (by decide) rfl
            exact W.iret hx hb hr (fun t ht hW => ⟨⟨_, ((2), (fa), (ta), (ra), (ic)), rfl, ⟨_, rfl, v⟩, by rw [ht]; exact hP9, va_K.moved hW.alike hK, hD9⟩, hS.F ht⟩) hS.2.2 d_Md_shown_70
          · replace v := v.2 c15
            refine nv_iconst (n := 1) hx hb d_Md_shown_58 ?_
            refine lv_goto (tgt := 63) hx hb d_Md_shown_59 (by decide) ?_
            have hPc := hP.sub (ws' := (wMd cI cJ cZ h0 h1 h2 h3 h4 h5 h6 h7 h8 h9 h10 h11 h12 h13 h14 h15 h16 h17 h18 h19 h20 h21 h22 h23 th no ca ba nl xa sa da la ra fa ta ua uh uo ma mh ml nf fo fh fs rs ic mn bh bo ya np pa nc cp)) [0, 1, 2, 3, 4, 5, 6, 7, 8, 9, 10, 11, 12, 13, 14, 15, 16, 17, 18, 19, 20, 21, 22, 23] rfl
            have hDc := hD.sub (ws' := (wMd cI cJ cZ h0 h1 h2 h3 h4 h5 h6 h7 h8 h9 h10 h11 h12 h13 h14 h15 h16 h17 h18 h19 h20 h21 h22 h23 th no ca ba nl xa sa da la ra fa ta ua uh uo ma mh ml nf fo fh fs rs ic mn bh bo ya np pa nc cp)) [0, 1, 2, 3, 4, 5, 6, 7, 8, 9, 10, 11, 12, 13, 14, 15, 16, 17, 18, 19, 20, 21, 22, 23] (by decide) rfl
            have hFc := va_free (wc := (wMd cI cJ cZ h0 h1 h2 h3 h4 h5 h6 h7 h8 h9 h10 h11 h12 h13 h14 h15 h16 h17 h18 h19 h20 h21 h22 h23 th no ca ba nl xa sa da la ra fa ta ua uh uo ma mh ml nf fo fh fs rs ic mn bh bo ya np pa nc cp)) hD hS hA [0, 1, 2, 3, 4, 5, 6, 7, 8, 9, 10, 11, 12, 13, 14, 15, 16, 17, 18, 19, 20, 21, 22, 23] rfl
            refine va_calli (va_runV (As := [.int (iI 1), .int (iI 0), .int (iI 1)]) (rest := []) ⟨hx, hb, hml, hown, hts⟩ (m_Md_goes l D cI cJ cO cZ h0 h1 h2 h3 h4 h5 h6 h7 h8 h9 h10 h11 h12 h13 h14 h15 h16 h17 h18 h19 h20 h21 h22 h23 H.size th no ca ba nl xa sa da la ra fa ta ua uh uo ma mh ml nf fo fh fs rs ic mn bh bo ya np pa nc cp 1 0 1 (fun z t => z = 0 ∧ t = 2) (s_Md_goes_101 th no ca ba nl xa sa da la ra fa ta ua uh uo ma mh ml nf fo fh fs rs ic mn bh bo ya np pa nc cp)) (nv_cwV (n := 3) hts wd_812 wd_814 sl_17 wd_10 wd_815 (by decide +kernel) ⟨Nat.le_of_ble_eq_true rfl, Nat.le_of_ble_eq_true rfl⟩) ⟨blW, va_recv hK hPc (ci := 8) (q0 := 0) rfl rfl, fun U hU hW => ⟨rfl, by rw [hU], by rw [hU]; exact hPc, va_K.moved hW.alike hK, hDc.weaken (fun _ _ _ _ => trivial)⟩⟩ rfl rfl hl.1 rfl (lv_room (Nat.le_of_ble_eq_true rfl)) d_Md_shown_63 ⟨Nat.le_of_ble_eq_true rfl, Nat.le_of_ble_eq_true rfl⟩) hS (fun q _ h => hFc q h) hFc (fun r u t H1 locs ht hvm hw hB hz1 hk1 hS => ?_)
            obtain ⟨hP1, hK1, hD1⟩ := hB
            rw [ht] at hP1
            obtain ⟨_, rfl, rfl, rfl⟩ := hw
            obtain ⟨hP, hD⟩ := va_join (wr := []) (w1 := (wMd cI cJ cZ h0 h1 h2 h3 h4 h5 h6 h7 h8 h9 h10 h11 h12 h13 h14 h15 h16 h17 h18 h19 h20 h21 h22 h23 2 no ca ba nl xa sa da la ra fa ta ua uh uo ma mh ml nf fo fh fs rs ic mn bh bo ya np pa nc cp)) hP hD [0, 1, 2, 3, 4, 5, 6, 7, 8, 9, 10, 11, 12, 13, 14, 15, 16, 17, 18, 19, 20, 21, 22, 23] [] rfl rfl (by decide) (by decide) hk1 hFc hP1 hD1
            generalize H1 = H at hP hS ⊢
            have hP : va_P D vwCl (wMd cI cJ cZ h0 h1 h2 h3 h4 h5 h6 h7 h8 h9 h10 h11 h12 h13 h14 h15 h16 h17 h18 h19 h20 h21 h22 h23 2 no ca ba nl xa sa da la ra fa ta ua uh uo ma mh ml nf fo fh fs rs ic mn bh bo ya np pa nc cp) H := hP
            have hD : va_D A (wMd cI cJ cZ h0 h1 h2 h3 h4 h5 h6 h7 h8 h9 h10 h11 h12 h13 h14 h15 h16 h17 h18 h19 h20 h21 h22 h23 2 no ca ba nl xa sa da la ra fa ta ua uh uo ma mh ml nf fo fh fs rs ic mn bh bo ya np pa nc cp) := hD
            refine W.widen (k := 0) (n := 0) (Nat.le_of_ble_eq_true rfl) (Nat.le_of_ble_eq_true rfl) ?_
            refine nv_if_ne (tgt := 71) hx hb d_Md_shown_66 (by decide) (by decide) (fun c17 => absurd c17 (by decide)) (fun _ => ?_)
            refine nv_iconst (n := 0) hx hb d_Md_shown_69 ?_
            have hP9 := hP.sub (ws' := (wMd cI cJ cZ h0 h1 h2 h3 h4 h5 h6 h7 h8 h9 h10 h11 h12 h13 h14 h15 h16 h17 h18 h19 h20 h21 h22 h23 2 no ca ba nl xa sa da la ra fa ta ua uh uo ma mh ml nf fo fh fs rs ic mn bh bo ya np pa nc cp)) [0, 1, 2, 3, 4, 5, 6, 7, 8, 9, 10, 11, 12, 13, 14, 15, 16, 17, 18, 19, 20, 21, 22, 23] rfl
            have hD9 := hD.sub (ws' := (wMd cI cJ cZ h0 h1 h2 h3 h4 h5 h6 h7 h8 h9 h10 h11 h12 h13 h14 h15 h16 h17 h18 h19 h20 h21 h22 h23 2 no ca ba nl xa sa da la ra fa ta ua uh uo ma mh ml nf fo fh fs rs ic mn bh bo ya np pa nc cp)) [0, 1, 2, 3, 4, 5, 6, 7, 8, 9, 10, 11, 12, 13, 14, 15, 16, 17, 18, 19, 20, 21, 22, 23] (by decide) rfl
            exact W.iret hx hb hr (fun t ht hW => ⟨⟨_, ((2), (fa), (ta), (ra), (ic)), rfl, ⟨_, rfl, v⟩, by rw [ht]; exact hP9, va_K.moved hW.alike hK, hD9⟩, hS.F ht⟩) hS.2.2 d_Md_shown_70
      · replace v := v.2 c11
        refine nv_iconst (n := 1) hx hb d_Md_shown_41 ?_
        refine lv_goto (tgt := 46) hx hb d_Md_shown_42 (by decide) ?_
        refine lv_iload_n hx hb d_Md_shown_46 rfl (lv_at hl 4 rfl) ?_
        refine lv_iload_n hx hb d_Md_shown_47 rfl (lv_at hl 3 rfl) ?_
        obtain ⟨k18, v⟩ := v
        refine nv_icmp_le (tgt := 62) hx hb d_Md_shown_48 (by decide) k18 k5 (fun c19 => ?_) (fun c19 => ?_)
        · replace v := v.1 c19
          refine nv_iconst (n := 0) hx hb d_Md_shown_62 ?_
          have hPc := hP.sub (ws' := (wMd cI cJ cZ h0 h1 h2 h3 h4 h5 h6 h7 h8 h9 h10 h11 h12 h13 h14 h15 h16 h17 h18 h19 h20 h21 h22 h23 th no ca ba nl xa sa da la ra fa ta ua uh uo ma mh ml nf fo fh fs rs ic mn bh bo ya np pa nc cp)) [0, 1, 2, 3, 4, 5, 6, 7, 8, 9, 10, 11, 12, 13, 14, 15, 16, 17, 18, 19, 20, 21, 22, 23] rfl
          have hDc := hD.sub (ws' := (wMd cI cJ cZ h0 h1 h2 h3 h4 h5 h6 h7 h8 h9 h10 h11 h12 h13 h14 h15 h16 h17 h18 h19 h20 h21 h22 h23 th no ca ba nl xa sa da la ra fa ta ua uh uo ma mh ml nf fo fh fs rs ic mn bh bo ya np pa nc cp)) [0, 1, 2, 3, 4, 5, 6, 7, 8, 9, 10, 11, 12, 13, 14, 15, 16, 17, 18, 19, 20, 21, 22, 23] (by decide) rfl
          have hFc := va_free (wc := (wMd cI cJ cZ h0 h1 h2 h3 h4 h5 h6 h7 h8 h9 h10 h11 h12 h13 h14 h15 h16 h17 h18 h19 h20 h21 h22 h23 th no ca ba nl xa sa da la ra fa ta ua uh uo ma mh ml nf fo fh fs rs ic mn bh bo ya np pa nc cp)) hD hS hA [0, 1, 2, 3, 4, 5, 6, 7, 8, 9, 10, 11, 12, 13, 14, 15, 16, 17, 18, 19, 20, 21, 22, 23] rfl
          refine va_calli (va_runV (As := [.int (iI 1), .int (iI 1), .int (iI 0)]) (rest := []) ⟨hx, hb, hml, hown, hts⟩ (m_Md_goes l D cI cJ cO cZ h0 h1 h2 h3 h4 h5 h6 h7 h8 h9 h10 h11 h12 h13 h14 h15 h16 h17 h18 h19 h20 h21 h22 h23 H.size th no ca ba nl xa sa da la ra fa ta ua uh uo ma mh ml nf fo fh fs rs ic mn bh bo ya np pa nc cp 1 1 0 (fun z t => z = 0 ∧ t = 3) (s_Md_goes_110 th no ca ba nl xa sa da la ra fa ta ua uh uo ma mh ml nf fo fh fs rs ic mn bh bo ya np pa nc cp)) (nv_cwV (n := 3) hts wd_812 wd_814 sl_17 wd_10 wd_815 (by decide +kernel) ⟨Nat.le_of_ble_eq_true rfl, Nat.le_of_ble_eq_true rfl⟩) ⟨blW, va_recv hK hPc (ci := 8) (q0 := 0) rfl rfl, fun U hU hW => ⟨rfl, by rw [hU], by rw [hU]; exact hPc, va_K.moved hW.alike hK, hDc.weaken (fun _ _ _ _ => trivial)⟩⟩ rfl rfl hl.1 rfl (lv_room (Nat.le_of_ble_eq_true rfl)) d_Md_shown_63 ⟨Nat.le_of_ble_eq_true rfl, Nat.le_of_ble_eq_true rfl⟩) hS (fun q _ h => hFc q h) hFc (fun r u t H1 locs ht hvm hw hB hz1 hk1 hS => ?_)
          obtain ⟨hP1, hK1, hD1⟩ := hB
          rw [ht] at hP1
          obtain ⟨_, rfl, rfl, rfl⟩ := hw
          obtain ⟨hP, hD⟩ := va_join (wr := []) (w1 := (wMd cI cJ cZ h0 h1 h2 h3 h4 h5 h6 h7 h8 h9 h10 h11 h12 h13 h14 h15 h16 h17 h18 h19 h20 h21 h22 h23 3 no ca ba nl xa sa da la ra fa ta ua uh uo ma mh ml nf fo fh fs rs ic mn bh bo ya np pa nc cp)) hP hD [0, 1, 2, 3, 4, 5, 6, 7, 8, 9, 10, 11, 12, 13, 14, 15, 16, 17, 18, 19, 20, 21, 22, 23] [] rfl rfl (by decide) (by decide) hk1 hFc hP1 hD1
          generalize H1 = H at hP hS ⊢
          have hP : va_P D vwCl (wMd cI cJ cZ h0 h1 h2 h3 h4 h5 h6 h7 h8 h9 h10 h11 h12 h13 h14 h15 h16 h17 h18 h19 h20 h21 h22 h23 3 no ca ba nl xa sa da la ra fa ta ua uh uo ma mh ml nf fo fh fs rs ic mn bh bo ya np pa nc cp) H := hP
          have hD : va_D A (wMd cI cJ cZ h0 h1 h2 h3 h4 h5 h6 h7 h8 h9 h10 h11 h12 h13 h14 h15 h16 h17 h18 h19 h20 h21 h22 h23 3 no ca ba nl xa sa da la ra fa ta ua uh uo ma mh ml nf fo fh fs rs ic mn bh bo ya np pa nc cp) := hD
          refine W.widen (k := 0) (n := 0) (Nat.le_of_ble_eq_true rfl) (Nat.le_of_ble_eq_true rfl) ?_
          refine nv_if_ne (tgt := 71) hx hb d_Md_shown_66 (by decide) (by decide) (fun c20 => absurd c20 (by decide)) (fun _ => ?_)
          refine nv_iconst (n := 0) hx hb d_Md_shown_69 ?_
          have hP9 := hP.sub (ws' := (wMd cI cJ cZ h0 h1 h2 h3 h4 h5 h6 h7 h8 h9 h10 h11 h12 h13 h14 h15 h16 h17 h18 h19 h20 h21 h22 h23 3 no ca ba nl xa sa da la ra fa ta ua uh uo ma mh ml nf fo fh fs rs ic mn bh bo ya np pa nc cp)) [0, 1, 2, 3, 4, 5, 6, 7, 8, 9, 10, 11, 12, 13, 14, 15, 16, 17, 18, 19, 20, 21, 22, 23] rfl
          have hD9 := hD.sub (ws' := (wMd cI cJ cZ h0 h1 h2 h3 h4 h5 h6 h7 h8 h9 h10 h11 h12 h13 h14 h15 h16 h17 h18 h19 h20 h21 h22 h23 3 no ca ba nl xa sa da la ra fa ta ua uh uo ma mh ml nf fo fh fs rs ic mn bh bo ya np pa nc cp)) [0, 1, 2, 3, 4, 5, 6, 7, 8, 9, 10, 11, 12, 13, 14, 15, 16, 17, 18, 19, 20, 21, 22, 23] (by decide) rfl
          exact W.iret hx hb hr (fun t ht hW => ⟨⟨_, ((3), (fa), (ta), (ra), (ic)), rfl, ⟨_, rfl, v⟩, by rw [ht]; exact hP9, va_K.moved hW.alike hK, hD9⟩, hS.F ht⟩) hS.2.2 d_Md_shown_70
        · replace v := v.2 c19
          refine lv_iload_n hx hb d_Md_shown_51 rfl (lv_at hl 4 rfl) ?_
          refine nv_sipush (z := 26280) hx hb d_Md_shown_52 (by decide) ?_
          refine nv_icmp_gt (tgt := 62) hx hb d_Md_shown_55 (by decide) k18 (by decide) (fun c21 => ?_) (fun c21 => ?_)
          · replace v := v.1 c21
            refine nv_iconst (n := 0) hx hb d_Md_shown_62 ?_
            have hPc := hP.sub (ws' := (wMd cI cJ cZ h0 h1 h2 h3 h4 h5 h6 h7 h8 h9 h10 h11 h12 h13 h14 h15 h16 h17 h18 h19 h20 h21 h22 h23 th no ca ba nl xa sa da la ra fa ta ua uh uo ma mh ml nf fo fh fs rs ic mn bh bo ya np pa nc cp)) [0, 1, 2, 3, 4, 5, 6, 7, 8, 9, 10, 11, 12, 13, 14, 15, 16, 17, 18, 19, 20, 21, 22, 23] rfl
            have hDc := hD.sub (ws' := (wMd cI cJ cZ h0 h1 h2 h3 h4 h5 h6 h7 h8 h9 h10 h11 h12 h13 h14 h15 h16 h17 h18 h19 h20 h21 h22 h23 th no ca ba nl xa sa da la ra fa ta ua uh uo ma mh ml nf fo fh fs rs ic mn bh bo ya np pa nc cp)) [0, 1, 2, 3, 4, 5, 6, 7, 8, 9, 10, 11, 12, 13, 14, 15, 16, 17, 18, 19, 20, 21, 22, 23] (by decide) rfl
            have hFc := va_free (wc := (wMd cI cJ cZ h0 h1 h2 h3 h4 h5 h6 h7 h8 h9 h10 h11 h12 h13 h14 h15 h16 h17 h18 h19 h20 h21 h22 h23 th no ca ba nl xa sa da la ra fa ta ua uh uo ma mh ml nf fo fh fs rs ic mn bh bo ya np pa nc cp)) hD hS hA [0, 1, 2, 3, 4, 5, 6, 7, 8, 9, 10, 11, 12, 13, 14, 15, 16, 17, 18, 19, 20, 21, 22, 23] rfl
            refine va_calli (va_runV (As := [.int (iI 1), .int (iI 1), .int (iI 0)]) (rest := []) ⟨hx, hb, hml, hown, hts⟩ (m_Md_goes l D cI cJ cO cZ h0 h1 h2 h3 h4 h5 h6 h7 h8 h9 h10 h11 h12 h13 h14 h15 h16 h17 h18 h19 h20 h21 h22 h23 H.size th no ca ba nl xa sa da la ra fa ta ua uh uo ma mh ml nf fo fh fs rs ic mn bh bo ya np pa nc cp 1 1 0 (fun z t => z = 0 ∧ t = 3) (s_Md_goes_110 th no ca ba nl xa sa da la ra fa ta ua uh uo ma mh ml nf fo fh fs rs ic mn bh bo ya np pa nc cp)) (nv_cwV (n := 3) hts wd_812 wd_814 sl_17 wd_10 wd_815 (by decide +kernel) ⟨Nat.le_of_ble_eq_true rfl, Nat.le_of_ble_eq_true rfl⟩) ⟨blW, va_recv hK hPc (ci := 8) (q0 := 0) rfl rfl, fun U hU hW => ⟨rfl, by rw [hU], by rw [hU]; exact hPc, va_K.moved hW.alike hK, hDc.weaken (fun _ _ _ _ => trivial)⟩⟩ rfl rfl hl.1 rfl (lv_room (Nat.le_of_ble_eq_true rfl)) d_Md_shown_63 ⟨Nat.le_of_ble_eq_true rfl, Nat.le_of_ble_eq_true rfl⟩) hS (fun q _ h => hFc q h) hFc (fun r u t H1 locs ht hvm hw hB hz1 hk1 hS => ?_)
            obtain ⟨hP1, hK1, hD1⟩ := hB
            rw [ht] at hP1
            obtain ⟨_, rfl, rfl, rfl⟩ := hw
            obtain ⟨hP, hD⟩ := va_join (wr := []) (w1 := (wMd cI cJ cZ h0 h1 h2 h3 h4 h5 h6 h7 h8 h9 h10 h11 h12 h13 h14 h15 h16 h17 h18 h19 h20 h21 h22 h23 3 no ca ba nl xa sa da la ra fa ta ua uh uo ma mh ml nf fo fh fs rs ic mn bh bo ya np pa nc cp)) hP hD [0, 1, 2, 3, 4, 5, 6, 7, 8, 9, 10, 11, 12, 13, 14, 15, 16, 17, 18, 19, 20, 21, 22, 23] [] rfl rfl (by decide) (by decide) hk1 hFc hP1 hD1
            generalize H1 = H at hP hS ⊢
            have hP : va_P D vwCl (wMd cI cJ cZ h0 h1 h2 h3 h4 h5 h6 h7 h8 h9 h10 h11 h12 h13 h14 h15 h16 h17 h18 h19 h20 h21 h22 h23 3 no ca ba nl xa sa da la ra fa ta ua uh uo ma mh ml nf fo fh fs rs ic mn bh bo ya np pa nc cp) H := hP
            have hD : va_D A (wMd cI cJ cZ h0 h1 h2 h3 h4 h5 h6 h7 h8 h9 h10 h11 h12 h13 h14 h15 h16 h17 h18 h19 h20 h21 h22 h23 3 no ca ba nl xa sa da la ra fa ta ua uh uo ma mh ml nf fo fh fs rs ic mn bh bo ya np pa nc cp) := hD
            refine W.widen (k := 0) (n := 0) (Nat.le_of_ble_eq_true rfl) (Nat.le_of_ble_eq_true rfl) ?_
            refine nv_if_ne (tgt := 71) hx hb d_Md_shown_66 (by decide) (by decide) (fun c22 => absurd c22 (by decide)) (fun _ => ?_)
            refine nv_iconst (n := 0) hx hb d_Md_shown_69 ?_
            have hP9 := hP.sub (ws' := (wMd cI cJ cZ h0 h1 h2 h3 h4 h5 h6 h7 h8 h9 h10 h11 h12 h13 h14 h15 h16 h17 h18 h19 h20 h21 h22 h23 3 no ca ba nl xa sa da la ra fa ta ua uh uo ma mh ml nf fo fh fs rs ic mn bh bo ya np pa nc cp)) [0, 1, 2, 3, 4, 5, 6, 7, 8, 9, 10, 11, 12, 13, 14, 15, 16, 17, 18, 19, 20, 21, 22, 23] rfl
            have hD9 := hD.sub (ws' := (wMd cI cJ cZ h0 h1 h2 h3 h4 h5 h6 h7 h8 h9 h10 h11 h12 h13 h14 h15 h16 h17 h18 h19 h20 h21 h22 h23 3 no ca ba nl xa sa da la ra fa ta ua uh uo ma mh ml nf fo fh fs rs ic mn bh bo ya np pa nc cp)) [0, 1, 2, 3, 4, 5, 6, 7, 8, 9, 10, 11, 12, 13, 14, 15, 16, 17, 18, 19, 20, 21, 22, 23] (by decide) rfl
            exact W.iret hx hb hr (fun t ht hW => ⟨⟨_, ((3), (fa), (ta), (ra), (ic)), rfl, ⟨_, rfl, v⟩, by rw [ht]; exact hP9, va_K.moved hW.alike hK, hD9⟩, hS.F ht⟩) hS.2.2 d_Md_shown_70
          · replace v := v.2 c21
            refine nv_iconst (n := 1) hx hb d_Md_shown_58 ?_
            refine lv_goto (tgt := 63) hx hb d_Md_shown_59 (by decide) ?_
            have hPc := hP.sub (ws' := (wMd cI cJ cZ h0 h1 h2 h3 h4 h5 h6 h7 h8 h9 h10 h11 h12 h13 h14 h15 h16 h17 h18 h19 h20 h21 h22 h23 th no ca ba nl xa sa da la ra fa ta ua uh uo ma mh ml nf fo fh fs rs ic mn bh bo ya np pa nc cp)) [0, 1, 2, 3, 4, 5, 6, 7, 8, 9, 10, 11, 12, 13, 14, 15, 16, 17, 18, 19, 20, 21, 22, 23] rfl
            have hDc := hD.sub (ws' := (wMd cI cJ cZ h0 h1 h2 h3 h4 h5 h6 h7 h8 h9 h10 h11 h12 h13 h14 h15 h16 h17 h18 h19 h20 h21 h22 h23 th no ca ba nl xa sa da la ra fa ta ua uh uo ma mh ml nf fo fh fs rs ic mn bh bo ya np pa nc cp)) [0, 1, 2, 3, 4, 5, 6, 7, 8, 9, 10, 11, 12, 13, 14, 15, 16, 17, 18, 19, 20, 21, 22, 23] (by decide) rfl
            have hFc := va_free (wc := (wMd cI cJ cZ h0 h1 h2 h3 h4 h5 h6 h7 h8 h9 h10 h11 h12 h13 h14 h15 h16 h17 h18 h19 h20 h21 h22 h23 th no ca ba nl xa sa da la ra fa ta ua uh uo ma mh ml nf fo fh fs rs ic mn bh bo ya np pa nc cp)) hD hS hA [0, 1, 2, 3, 4, 5, 6, 7, 8, 9, 10, 11, 12, 13, 14, 15, 16, 17, 18, 19, 20, 21, 22, 23] rfl
            refine va_calli (va_runV (As := [.int (iI 1), .int (iI 1), .int (iI 1)]) (rest := []) ⟨hx, hb, hml, hown, hts⟩ (m_Md_goes l D cI cJ cO cZ h0 h1 h2 h3 h4 h5 h6 h7 h8 h9 h10 h11 h12 h13 h14 h15 h16 h17 h18 h19 h20 h21 h22 h23 H.size th no ca ba nl xa sa da la ra fa ta ua uh uo ma mh ml nf fo fh fs rs ic mn bh bo ya np pa nc cp 1 1 1 (fun z t => z = 1 ∧ t = 0) (s_Md_goes_111 th no ca ba nl xa sa da la ra fa ta ua uh uo ma mh ml nf fo fh fs rs ic mn bh bo ya np pa nc cp)) (nv_cwV (n := 3) hts wd_812 wd_814 sl_17 wd_10 wd_815 (by decide +kernel) ⟨Nat.le_of_ble_eq_true rfl, Nat.le_of_ble_eq_true rfl⟩) ⟨blW, va_recv hK hPc (ci := 8) (q0 := 0) rfl rfl, fun U hU hW => ⟨rfl, by rw [hU], by rw [hU]; exact hPc, va_K.moved hW.alike hK, hDc.weaken (fun _ _ _ _ => trivial)⟩⟩ rfl rfl hl.1 rfl (lv_room (Nat.le_of_ble_eq_true rfl)) d_Md_shown_63 ⟨Nat.le_of_ble_eq_true rfl, Nat.le_of_ble_eq_true rfl⟩) hS (fun q _ h => hFc q h) hFc (fun r u t H1 locs ht hvm hw hB hz1 hk1 hS => ?_)
            obtain ⟨hP1, hK1, hD1⟩ := hB
            rw [ht] at hP1
            obtain ⟨_, rfl, rfl, rfl⟩ := hw
            obtain ⟨hP, hD⟩ := va_join (wr := []) (w1 := (wMd cI cJ cZ h0 h1 h2 h3 h4 h5 h6 h7 h8 h9 h10 h11 h12 h13 h14 h15 h16 h17 h18 h19 h20 h21 h22 h23 0 no ca ba nl xa sa da la ra fa ta ua uh uo ma mh ml nf fo fh fs rs ic mn bh bo ya np pa nc cp)) hP hD [0, 1, 2, 3, 4, 5, 6, 7, 8, 9, 10, 11, 12, 13, 14, 15, 16, 17, 18, 19, 20, 21, 22, 23] [] rfl rfl (by decide) (by decide) hk1 hFc hP1 hD1
            generalize H1 = H at hP hS ⊢
            have hP : va_P D vwCl (wMd cI cJ cZ h0 h1 h2 h3 h4 h5 h6 h7 h8 h9 h10 h11 h12 h13 h14 h15 h16 h17 h18 h19 h20 h21 h22 h23 0 no ca ba nl xa sa da la ra fa ta ua uh uo ma mh ml nf fo fh fs rs ic mn bh bo ya np pa nc cp) H := hP
            have hD : va_D A (wMd cI cJ cZ h0 h1 h2 h3 h4 h5 h6 h7 h8 h9 h10 h11 h12 h13 h14 h15 h16 h17 h18 h19 h20 h21 h22 h23 0 no ca ba nl xa sa da la ra fa ta ua uh uo ma mh ml nf fo fh fs rs ic mn bh bo ya np pa nc cp) := hD
            refine W.widen (k := 0) (n := 0) (Nat.le_of_ble_eq_true rfl) (Nat.le_of_ble_eq_true rfl) ?_
            refine nv_if_ne (tgt := 71) hx hb d_Md_shown_66 (by decide) (by decide) (fun _ => ?_) (fun c23 => absurd c23 (by decide))
            refine lv_aload_n hx hb d_Md_shown_71 rfl (lv_at hl 1 rfl) ?_
            refine va_get (D := D) (ci := 8) (v := .ref h8) (C := "LightDosesModel") (T := T_Md) (N := 32) hx hb hts in_Md hown hK hP 0 rfl rfl 10 (by decide) (hts _ wd_713) (fun _ h9 => h9) rfl d_Md_shown_72 ?_
            refine nv_bipush (z := 16) hx hb d_Md_shown_75 (by decide) ?_
            refine lv_iload_n hx hb d_Md_shown_77 rfl (lv_at hl 2 rfl) ?_
            refine nv_imul (z := 16 * ob) hx hb d_Md_shown_78 (by first | rfl | omega) ?_
            refine lv_aload_n hx hb d_Md_shown_79 rfl (lv_at hl 1 rfl) ?_
            refine va_get (D := D) (ci := 8) (v := .ref h7) (C := "LightDosesModel") (T := T_Md) (N := 32) hx hb hts in_Md hown hK hP 0 rfl rfl 9 (by decide) (hts _ wd_712) (fun _ h9 => h9) rfl d_Md_shown_80 ?_
            refine lv_iload_n hx hb d_Md_shown_83 rfl (lv_at hl 2 rfl) ?_
            obtain ⟨k24, v⟩ := v
            refine nv_iald (f := ra) hx hb hK 0 (hP 7 _ rfl) rfl (ob).toNat (Int.toNat_of_nonneg k24.1).symm (by omega) (by decide) d_Md_shown_84 ?_
            refine nv_iadd (z := 16 * ob + (ra (ob).toNat)) hx hb d_Md_shown_85 (by first | rfl | omega) ?_
            refine lv_iload_n hx hb d_Md_shown_86 rfl (lv_at hl 3 rfl) ?_
            obtain ⟨k25, v⟩ := v
            refine nv_iast (f := fa) hx hb hK hP hD hS 8 0 rfl rfl (16 * ob + (ra (ob).toNat)).toNat (Int.toNat_of_nonneg k25.1).symm (by omega) (by decide) d_Md_shown_87 (fun H locs hP hD hS => ?_)
            have hP : va_P D vwCl (wMd cI cJ cZ h0 h1 h2 h3 h4 h5 h6 h7 h8 h9 h10 h11 h12 h13 h14 h15 h16 h17 h18 h19 h20 h21 h22 h23 0 no ca ba nl xa sa da la ra (va_up fa (16 * ob + (ra (ob).toNat)).toNat from_) ta ua uh uo ma mh ml nf fo fh fs rs ic mn bh bo ya np pa nc cp) H := hP
            have hD : va_D A (wMd cI cJ cZ h0 h1 h2 h3 h4 h5 h6 h7 h8 h9 h10 h11 h12 h13 h14 h15 h16 h17 h18 h19 h20 h21 h22 h23 0 no ca ba nl xa sa da la ra (va_up fa (16 * ob + (ra (ob).toNat)).toNat from_) ta ua uh uo ma mh ml nf fo fh fs rs ic mn bh bo ya np pa nc cp) := hD
            refine lv_aload_n hx hb d_Md_shown_88 rfl (lv_at hl 1 rfl) ?_
            refine va_get (D := D) (ci := 8) (v := .ref h9) (C := "LightDosesModel") (T := T_Md) (N := 32) hx hb hts in_Md hown hK hP 0 rfl rfl 11 (by decide) (hts _ wd_714) (fun _ h9 => h9) rfl d_Md_shown_89 ?_
            refine nv_bipush (z := 16) hx hb d_Md_shown_92 (by decide) ?_
            refine lv_iload_n hx hb d_Md_shown_94 rfl (lv_at hl 2 rfl) ?_
            refine nv_imul (z := 16 * ob) hx hb d_Md_shown_95 (by first | rfl | omega) ?_
            refine lv_aload_n hx hb d_Md_shown_96 rfl (lv_at hl 1 rfl) ?_
            refine va_get (D := D) (ci := 8) (v := .ref h7) (C := "LightDosesModel") (T := T_Md) (N := 32) hx hb hts in_Md hown hK hP 0 rfl rfl 9 (by decide) (hts _ wd_712) (fun _ h9 => h9) rfl d_Md_shown_97 ?_
            refine lv_iload_n hx hb d_Md_shown_100 rfl (lv_at hl 2 rfl) ?_
            obtain ⟨k26, v⟩ := v
            refine nv_iald (f := ra) hx hb hK 0 (hP 7 _ rfl) rfl (ob).toNat (Int.toNat_of_nonneg k26.1).symm (by omega) (by decide) d_Md_shown_101 ?_
            refine nv_iadd (z := 16 * ob + (ra (ob).toNat)) hx hb d_Md_shown_102 (by first | rfl | omega) ?_
            refine lv_iload_n hx hb d_Md_shown_103 rfl (lv_at hl 4 rfl) ?_
            obtain ⟨k27, v⟩ := v
            refine nv_iast (f := ta) hx hb hK hP hD hS 9 0 rfl rfl (16 * ob + (ra (ob).toNat)).toNat (Int.toNat_of_nonneg k27.1).symm (by omega) (by decide) d_Md_shown_104 (fun H locs hP hD hS => ?_)
            have hP : va_P D vwCl (wMd cI cJ cZ h0 h1 h2 h3 h4 h5 h6 h7 h8 h9 h10 h11 h12 h13 h14 h15 h16 h17 h18 h19 h20 h21 h22 h23 0 no ca ba nl xa sa da la ra (va_up fa (16 * ob + (ra (ob).toNat)).toNat from_) (va_up ta (16 * ob + (ra (ob).toNat)).toNat to_) ua uh uo ma mh ml nf fo fh fs rs ic mn bh bo ya np pa nc cp) H := hP
            have hD : va_D A (wMd cI cJ cZ h0 h1 h2 h3 h4 h5 h6 h7 h8 h9 h10 h11 h12 h13 h14 h15 h16 h17 h18 h19 h20 h21 h22 h23 0 no ca ba nl xa sa da la ra (va_up fa (16 * ob + (ra (ob).toNat)).toNat from_) (va_up ta (16 * ob + (ra (ob).toNat)).toNat to_) ua uh uo ma mh ml nf fo fh fs rs ic mn bh bo ya np pa nc cp) := hD
            refine lv_aload_n hx hb d_Md_shown_105 rfl (lv_at hl 1 rfl) ?_
            refine va_get (D := D) (ci := 8) (v := .ref h7) (C := "LightDosesModel") (T := T_Md) (N := 32) hx hb hts in_Md hown hK hP 0 rfl rfl 9 (by decide) (hts _ wd_712) (fun _ h9 => h9) rfl d_Md_shown_106 ?_
            refine lv_iload_n hx hb d_Md_shown_109 rfl (lv_at hl 2 rfl) ?_
            refine lv_dup2_11 hx hb d_Md_shown_110 rfl rfl ?_
            obtain ⟨k28, v⟩ := v
            refine nv_iald (f := ra) hx hb hK 0 (hP 7 _ rfl) rfl (ob).toNat (Int.toNat_of_nonneg k28.1).symm (by omega) (by decide) d_Md_shown_111 ?_
            refine nv_iconst (n := 1) hx hb d_Md_shown_112 ?_
            refine nv_iadd (z := ra (ob).toNat + 1) hx hb d_Md_shown_113 (by first | rfl | omega) ?_
            obtain ⟨k29, v⟩ := v
            refine nv_iast (f := ra) hx hb hK hP hD hS 7 0 rfl rfl (ob).toNat (Int.toNat_of_nonneg k29.1).symm (by omega) (by decide) d_Md_shown_114 (fun H locs hP hD hS => ?_)
            have hP : va_P D vwCl (wMd cI cJ cZ h0 h1 h2 h3 h4 h5 h6 h7 h8 h9 h10 h11 h12 h13 h14 h15 h16 h17 h18 h19 h20 h21 h22 h23 0 no ca ba nl xa sa da la (va_up ra (ob).toNat (ra (ob).toNat + 1)) (va_up fa (16 * ob + (ra (ob).toNat)).toNat from_) (va_up ta (16 * ob + (ra (ob).toNat)).toNat to_) ua uh uo ma mh ml nf fo fh fs rs ic mn bh bo ya np pa nc cp) H := hP
            have hD : va_D A (wMd cI cJ cZ h0 h1 h2 h3 h4 h5 h6 h7 h8 h9 h10 h11 h12 h13 h14 h15 h16 h17 h18 h19 h20 h21 h22 h23 0 no ca ba nl xa sa da la (va_up ra (ob).toNat (ra (ob).toNat + 1)) (va_up fa (16 * ob + (ra (ob).toNat)).toNat from_) (va_up ta (16 * ob + (ra (ob).toNat)).toNat to_) ua uh uo ma mh ml nf fo fh fs rs ic mn bh bo ya np pa nc cp) := hD
            refine lv_aload_n hx hb d_Md_shown_115 rfl (lv_at hl 1 rfl) ?_
            refine nv_iconst (n := 0) hx hb d_Md_shown_116 ?_
            refine va_put (D := D) (ci := 8) (v := .int (iI 0)) (ty := .boolean) (C := "LightDosesModel") (T := T_Md) (N := 32) hx hb hts in_Md t_Md tok_Md n_Md hown hK hP hD hS 0 rfl rfl 23 (by decide) (hts _ wd_726) (fun _ h9 => h9) rfl (by decide +kernel) (by decide) (by decide) (Nat.le_of_ble_eq_true rfl) d_Md_shown_117 (fun H locs hP hD hS => ?_)
            have hP : va_P D vwCl (wMd cI cJ cZ h0 h1 h2 h3 h4 h5 h6 h7 h8 h9 h10 h11 h12 h13 h14 h15 h16 h17 h18 h19 h20 h21 h22 h23 0 no ca ba nl xa sa da la (va_up ra (ob).toNat (ra (ob).toNat + 1)) (va_up fa (16 * ob + (ra (ob).toNat)).toNat from_) (va_up ta (16 * ob + (ra (ob).toNat)).toNat to_) ua uh uo ma mh ml nf fo fh fs rs 0 mn bh bo ya np pa nc cp) H := hP
            have hD : va_D A (wMd cI cJ cZ h0 h1 h2 h3 h4 h5 h6 h7 h8 h9 h10 h11 h12 h13 h14 h15 h16 h17 h18 h19 h20 h21 h22 h23 0 no ca ba nl xa sa da la (va_up ra (ob).toNat (ra (ob).toNat + 1)) (va_up fa (16 * ob + (ra (ob).toNat)).toNat from_) (va_up ta (16 * ob + (ra (ob).toNat)).toNat to_) ua uh uo ma mh ml nf fo fh fs rs 0 mn bh bo ya np pa nc cp) := hD
            refine lv_aload_n hx hb d_Md_shown_120 rfl (lv_at hl 1 rfl) ?_
            refine va_get (D := D) (ci := 8) (v := .ref h7) (C := "LightDosesModel") (T := T_Md) (N := 32) hx hb hts in_Md hown hK hP 0 rfl rfl 9 (by decide) (hts _ wd_712) (fun _ h9 => h9) rfl d_Md_shown_121 ?_
            refine lv_iload_n hx hb d_Md_shown_124 rfl (lv_at hl 2 rfl) ?_
            obtain ⟨k30, v⟩ := v
            refine nv_iald (f := va_up ra (ob).toNat (ra (ob).toNat + 1)) hx hb hK 0 (hP 7 _ rfl) rfl (ob).toNat (Int.toNat_of_nonneg k30.1).symm (by omega) (by decide) d_Md_shown_125 ?_
            have hP9 := hP.sub (ws' := (wMd cI cJ cZ h0 h1 h2 h3 h4 h5 h6 h7 h8 h9 h10 h11 h12 h13 h14 h15 h16 h17 h18 h19 h20 h21 h22 h23 0 no ca ba nl xa sa da la (va_up ra (ob).toNat (ra (ob).toNat + 1)) (va_up fa (16 * ob + (ra (ob).toNat)).toNat from_) (va_up ta (16 * ob + (ra (ob).toNat)).toNat to_) ua uh uo ma mh ml nf fo fh fs rs 0 mn bh bo ya np pa nc cp)) [0, 1, 2, 3, 4, 5, 6, 7, 8, 9, 10, 11, 12, 13, 14, 15, 16, 17, 18, 19, 20, 21, 22, 23] rfl
            have hD9 := hD.sub (ws' := (wMd cI cJ cZ h0 h1 h2 h3 h4 h5 h6 h7 h8 h9 h10 h11 h12 h13 h14 h15 h16 h17 h18 h19 h20 h21 h22 h23 0 no ca ba nl xa sa da la (va_up ra (ob).toNat (ra (ob).toNat + 1)) (va_up fa (16 * ob + (ra (ob).toNat)).toNat from_) (va_up ta (16 * ob + (ra (ob).toNat)).toNat to_) ua uh uo ma mh ml nf fo fh fs rs 0 mn bh bo ya np pa nc cp)) [0, 1, 2, 3, 4, 5, 6, 7, 8, 9, 10, 11, 12, 13, 14, 15, 16, 17, 18, 19, 20, 21, 22, 23] (by decide) rfl
            exact W.iret hx hb hr (fun t ht hW => ⟨⟨_, ((0), (va_up fa (16 * ob + (ra (ob).toNat)).toNat from_), (va_up ta (16 * ob + (ra (ob).toNat)).toNat to_), (va_up ra (ob).toNat (ra (ob).toNat + 1)), (0)), rfl, ⟨_, rfl, v⟩, by rw [ht]; exact hP9, va_K.moved hW.alike hK, hD9⟩, hS.F ht⟩) hS.2.2 d_Md_shown_126
    · replace v := v.2 c6
      refine nv_if_eq (tgt := 19) hx hb d_Md_shown_12 (by decide) (by decide) (fun _ => ?_) (fun c31 => absurd c31 (by decide))
      refine nv_iconst (n := 0) hx hb d_Md_shown_19 ?_
      refine lv_istore (lv' := [(4, .int (iI 0)), (0, .ref h0), (1, .int (iI ob)), (2, .int (iI from_)), (3, .int (iI to_))]) hx hb d_Md_shown_20 hl (by decide) rfl (fun ls hl => ?_)
      refine lv_aload_n hx hb d_Md_shown_22 rfl (lv_at hl 1 rfl) ?_
      refine lv_iload hx hb d_Md_shown_23 (lv_at hl 0 rfl) ?_
      refine lv_iload hx hb d_Md_shown_25 (lv_at hl 0 rfl) ?_
      refine nv_if_eq (tgt := 45) hx hb d_Md_shown_27 (by decide) (by decide) (fun _ => ?_) (fun c32 => absurd c32 (by decide))
      refine nv_iconst (n := 0) hx hb d_Md_shown_45 ?_
      refine lv_iload_n hx hb d_Md_shown_46 rfl (lv_at hl 4 rfl) ?_
      refine lv_iload_n hx hb d_Md_shown_47 rfl (lv_at hl 3 rfl) ?_
      obtain ⟨k33, v⟩ := v
      refine nv_icmp_le (tgt := 62) hx hb d_Md_shown_48 (by decide) k33 k5 (fun c34 => ?_) (fun c34 => ?_)
      · replace v := v.1 c34
        refine nv_iconst (n := 0) hx hb d_Md_shown_62 ?_
        have hPc := hP.sub (ws' := (wMd cI cJ cZ h0 h1 h2 h3 h4 h5 h6 h7 h8 h9 h10 h11 h12 h13 h14 h15 h16 h17 h18 h19 h20 h21 h22 h23 th no ca ba nl xa sa da la ra fa ta ua uh uo ma mh ml nf fo fh fs rs ic mn bh bo ya np pa nc cp)) [0, 1, 2, 3, 4, 5, 6, 7, 8, 9, 10, 11, 12, 13, 14, 15, 16, 17, 18, 19, 20, 21, 22, 23] rfl
        have hDc := hD.sub (ws' := (wMd cI cJ cZ h0 h1 h2 h3 h4 h5 h6 h7 h8 h9 h10 h11 h12 h13 h14 h15 h16 h17 h18 h19 h20 h21 h22 h23 th no ca ba nl xa sa da la ra fa ta ua uh uo ma mh ml nf fo fh fs rs ic mn bh bo ya np pa nc cp)) [0, 1, 2, 3, 4, 5, 6, 7, 8, 9, 10, 11, 12, 13, 14, 15, 16, 17, 18, 19, 20, 21, 22, 23] (by decide) rfl
        have hFc := va_free (wc := (wMd cI cJ cZ h0 h1 h2 h3 h4 h5 h6 h7 h8 h9 h10 h11 h12 h13 h14 h15 h16 h17 h18 h19 h20 h21 h22 h23 th no ca ba nl xa sa da la ra fa ta ua uh uo ma mh ml nf fo fh fs rs ic mn bh bo ya np pa nc cp)) hD hS hA [0, 1, 2, 3, 4, 5, 6, 7, 8, 9, 10, 11, 12, 13, 14, 15, 16, 17, 18, 19, 20, 21, 22, 23] rfl
        refine va_calli (va_runV (As := [.int (iI 0), .int (iI 0), .int (iI 0)]) (rest := []) ⟨hx, hb, hml, hown, hts⟩ (m_Md_goes l D cI cJ cO cZ h0 h1 h2 h3 h4 h5 h6 h7 h8 h9 h10 h11 h12 h13 h14 h15 h16 h17 h18 h19 h20 h21 h22 h23 H.size th no ca ba nl xa sa da la ra fa ta ua uh uo ma mh ml nf fo fh fs rs ic mn bh bo ya np pa nc cp 0 0 0 (fun z t => z = 0 ∧ t = 1) (s_Md_goes_000 th no ca ba nl xa sa da la ra fa ta ua uh uo ma mh ml nf fo fh fs rs ic mn bh bo ya np pa nc cp)) (nv_cwV (n := 3) hts wd_812 wd_814 sl_17 wd_10 wd_815 (by decide +kernel) ⟨Nat.le_of_ble_eq_true rfl, Nat.le_of_ble_eq_true rfl⟩) ⟨blW, va_recv hK hPc (ci := 8) (q0 := 0) rfl rfl, fun U hU hW => ⟨rfl, by rw [hU], by rw [hU]; exact hPc, va_K.moved hW.alike hK, hDc.weaken (fun _ _ _ _ => trivial)⟩⟩ rfl rfl hl.1 rfl (lv_room (Nat.le_of_ble_eq_true rfl)) d_Md_shown_63 ⟨Nat.le_of_ble_eq_true rfl, Nat.le_of_ble_eq_true rfl⟩) hS (fun q _ h => hFc q h) hFc (fun r u t H1 locs ht hvm hw hB hz1 hk1 hS => ?_)
        obtain ⟨hP1, hK1, hD1⟩ := hB
        rw [ht] at hP1
        obtain ⟨_, rfl, rfl, rfl⟩ := hw
        obtain ⟨hP, hD⟩ := va_join (wr := []) (w1 := (wMd cI cJ cZ h0 h1 h2 h3 h4 h5 h6 h7 h8 h9 h10 h11 h12 h13 h14 h15 h16 h17 h18 h19 h20 h21 h22 h23 1 no ca ba nl xa sa da la ra fa ta ua uh uo ma mh ml nf fo fh fs rs ic mn bh bo ya np pa nc cp)) hP hD [0, 1, 2, 3, 4, 5, 6, 7, 8, 9, 10, 11, 12, 13, 14, 15, 16, 17, 18, 19, 20, 21, 22, 23] [] rfl rfl (by decide) (by decide) hk1 hFc hP1 hD1
        generalize H1 = H at hP hS ⊢
        have hP : va_P D vwCl (wMd cI cJ cZ h0 h1 h2 h3 h4 h5 h6 h7 h8 h9 h10 h11 h12 h13 h14 h15 h16 h17 h18 h19 h20 h21 h22 h23 1 no ca ba nl xa sa da la ra fa ta ua uh uo ma mh ml nf fo fh fs rs ic mn bh bo ya np pa nc cp) H := hP
        have hD : va_D A (wMd cI cJ cZ h0 h1 h2 h3 h4 h5 h6 h7 h8 h9 h10 h11 h12 h13 h14 h15 h16 h17 h18 h19 h20 h21 h22 h23 1 no ca ba nl xa sa da la ra fa ta ua uh uo ma mh ml nf fo fh fs rs ic mn bh bo ya np pa nc cp) := hD
        refine W.widen (k := 0) (n := 0) (Nat.le_of_ble_eq_true rfl) (Nat.le_of_ble_eq_true rfl) ?_
        refine nv_if_ne (tgt := 71) hx hb d_Md_shown_66 (by decide) (by decide) (fun c35 => absurd c35 (by decide)) (fun _ => ?_)
        refine nv_iconst (n := 0) hx hb d_Md_shown_69 ?_
        have hP9 := hP.sub (ws' := (wMd cI cJ cZ h0 h1 h2 h3 h4 h5 h6 h7 h8 h9 h10 h11 h12 h13 h14 h15 h16 h17 h18 h19 h20 h21 h22 h23 1 no ca ba nl xa sa da la ra fa ta ua uh uo ma mh ml nf fo fh fs rs ic mn bh bo ya np pa nc cp)) [0, 1, 2, 3, 4, 5, 6, 7, 8, 9, 10, 11, 12, 13, 14, 15, 16, 17, 18, 19, 20, 21, 22, 23] rfl
        have hD9 := hD.sub (ws' := (wMd cI cJ cZ h0 h1 h2 h3 h4 h5 h6 h7 h8 h9 h10 h11 h12 h13 h14 h15 h16 h17 h18 h19 h20 h21 h22 h23 1 no ca ba nl xa sa da la ra fa ta ua uh uo ma mh ml nf fo fh fs rs ic mn bh bo ya np pa nc cp)) [0, 1, 2, 3, 4, 5, 6, 7, 8, 9, 10, 11, 12, 13, 14, 15, 16, 17, 18, 19, 20, 21, 22, 23] (by decide) rfl
        exact W.iret hx hb hr (fun t ht hW => ⟨⟨_, ((1), (fa), (ta), (ra), (ic)), rfl, ⟨_, rfl, v⟩, by rw [ht]; exact hP9, va_K.moved hW.alike hK, hD9⟩, hS.F ht⟩) hS.2.2 d_Md_shown_70
      · replace v := v.2 c34
        refine lv_iload_n hx hb d_Md_shown_51 rfl (lv_at hl 4 rfl) ?_
        refine nv_sipush (z := 26280) hx hb d_Md_shown_52 (by decide) ?_
        refine nv_icmp_gt (tgt := 62) hx hb d_Md_shown_55 (by decide) k33 (by decide) (fun c36 => ?_) (fun c36 => ?_)
        · replace v := v.1 c36
          refine nv_iconst (n := 0) hx hb d_Md_shown_62 ?_
          have hPc := hP.sub (ws' := (wMd cI cJ cZ h0 h1 h2 h3 h4 h5 h6 h7 h8 h9 h10 h11 h12 h13 h14 h15 h16 h17 h18 h19 h20 h21 h22 h23 th no ca ba nl xa sa da la ra fa ta ua uh uo ma mh ml nf fo fh fs rs ic mn bh bo ya np pa nc cp)) [0, 1, 2, 3, 4, 5, 6, 7, 8, 9, 10, 11, 12, 13, 14, 15, 16, 17, 18, 19, 20, 21, 22, 23] rfl
          have hDc := hD.sub (ws' := (wMd cI cJ cZ h0 h1 h2 h3 h4 h5 h6 h7 h8 h9 h10 h11 h12 h13 h14 h15 h16 h17 h18 h19 h20 h21 h22 h23 th no ca ba nl xa sa da la ra fa ta ua uh uo ma mh ml nf fo fh fs rs ic mn bh bo ya np pa nc cp)) [0, 1, 2, 3, 4, 5, 6, 7, 8, 9, 10, 11, 12, 13, 14, 15, 16, 17, 18, 19, 20, 21, 22, 23] (by decide) rfl
          have hFc := va_free (wc := (wMd cI cJ cZ h0 h1 h2 h3 h4 h5 h6 h7 h8 h9 h10 h11 h12 h13 h14 h15 h16 h17 h18 h19 h20 h21 h22 h23 th no ca ba nl xa sa da la ra fa ta ua uh uo ma mh ml nf fo fh fs rs ic mn bh bo ya np pa nc cp)) hD hS hA [0, 1, 2, 3, 4, 5, 6, 7, 8, 9, 10, 11, 12, 13, 14, 15, 16, 17, 18, 19, 20, 21, 22, 23] rfl
          refine va_calli (va_runV (As := [.int (iI 0), .int (iI 0), .int (iI 0)]) (rest := []) ⟨hx, hb, hml, hown, hts⟩ (m_Md_goes l D cI cJ cO cZ h0 h1 h2 h3 h4 h5 h6 h7 h8 h9 h10 h11 h12 h13 h14 h15 h16 h17 h18 h19 h20 h21 h22 h23 H.size th no ca ba nl xa sa da la ra fa ta ua uh uo ma mh ml nf fo fh fs rs ic mn bh bo ya np pa nc cp 0 0 0 (fun z t => z = 0 ∧ t = 1) (s_Md_goes_000 th no ca ba nl xa sa da la ra fa ta ua uh uo ma mh ml nf fo fh fs rs ic mn bh bo ya np pa nc cp)) (nv_cwV (n := 3) hts wd_812 wd_814 sl_17 wd_10 wd_815 (by decide +kernel) ⟨Nat.le_of_ble_eq_true rfl, Nat.le_of_ble_eq_true rfl⟩) ⟨blW, va_recv hK hPc (ci := 8) (q0 := 0) rfl rfl, fun U hU hW => ⟨rfl, by rw [hU], by rw [hU]; exact hPc, va_K.moved hW.alike hK, hDc.weaken (fun _ _ _ _ => trivial)⟩⟩ rfl rfl hl.1 rfl (lv_room (Nat.le_of_ble_eq_true rfl)) d_Md_shown_63 ⟨Nat.le_of_ble_eq_true rfl, Nat.le_of_ble_eq_true rfl⟩) hS (fun q _ h => hFc q h) hFc (fun r u t H1 locs ht hvm hw hB hz1 hk1 hS => ?_)
          obtain ⟨hP1, hK1, hD1⟩ := hB
          rw [ht] at hP1
          obtain ⟨_, rfl, rfl, rfl⟩ := hw
          obtain ⟨hP, hD⟩ := va_join (wr := []) (w1 := (wMd cI cJ cZ h0 h1 h2 h3 h4 h5 h6 h7 h8 h9 h10 h11 h12 h13 h14 h15 h16 h17 h18 h19 h20 h21 h22 h23 1 no ca ba nl xa sa da la ra fa ta ua uh uo ma mh ml nf fo fh fs rs ic mn bh bo ya np pa nc cp)) hP hD [0, 1, 2, 3, 4, 5, 6, 7, 8, 9, 10, 11, 12, 13, 14, 15, 16, 17, 18, 19, 20, 21, 22, 23] [] rfl rfl (by decide) (by decide) hk1 hFc hP1 hD1
          generalize H1 = H at hP hS ⊢
          have hP : va_P D vwCl (wMd cI cJ cZ h0 h1 h2 h3 h4 h5 h6 h7 h8 h9 h10 h11 h12 h13 h14 h15 h16 h17 h18 h19 h20 h21 h22 h23 1 no ca ba nl xa sa da la ra fa ta ua uh uo ma mh ml nf fo fh fs rs ic mn bh bo ya np pa nc cp) H := hP
          have hD : va_D A (wMd cI cJ cZ h0 h1 h2 h3 h4 h5 h6 h7 h8 h9 h10 h11 h12 h13 h14 h15 h16 h17 h18 h19 h20 h21 h22 h23 1 no ca ba nl xa sa da la ra fa ta ua uh uo ma mh ml nf fo fh fs rs ic mn bh bo ya np pa nc cp) := hD
          refine W.widen (k := 0) (n := 0) (Nat.le_of_ble_eq_true rfl) (Nat.le_of_ble_eq_true rfl) ?_
          refine nv_if_ne (tgt := 71) hx hb d_Md_shown_66 (by decide) (by decide) (fun c37 => absurd c37 (by decide)) (fun _ => ?_)
          refine nv_iconst (n := 0) hx hb d_Md_shown_69 ?_
          have hP9 := hP.sub (ws' := (wMd cI cJ cZ h0 h1 h2 h3 h4 h5 h6 h7 h8 h9 h10 h11 h12 h13 h14 h15 h16 h17 h18 h19 h20 h21 h22 h23 1 no ca ba nl xa sa da la ra fa ta ua uh uo ma mh ml nf fo fh fs rs ic mn bh bo ya np pa nc cp)) [0, 1, 2, 3, 4, 5, 6, 7, 8, 9, 10, 11, 12, 13, 14, 15, 16, 17, 18, 19, 20, 21, 22, 23] rfl
          have hD9 := hD.sub (ws' := (wMd cI cJ cZ h0 h1 h2 h3 h4 h5 h6 h7 h8 h9 h10 h11 h12 h13 h14 h15 h16 h17 h18 h19 h20 h21 h22 h23 1 no ca ba nl xa sa da la ra fa ta ua uh uo ma mh ml nf fo fh fs rs ic mn bh bo ya np pa nc cp)) [0, 1, 2, 3, 4, 5, 6, 7, 8, 9, 10, 11, 12, 13, 14, 15, 16, 17, 18, 19, 20, 21, 22, 23] (by decide) rfl
          exact W.iret hx hb hr (fun t ht hW => ⟨⟨_, ((1), (fa), (ta), (ra), (ic)), rfl, ⟨_, rfl, v⟩, by rw [ht]; exact hP9, va_K.moved hW.alike hK, hD9⟩, hS.F ht⟩) hS.2.2 d_Md_shown_70
        · replace v := v.2 c36
          refine nv_iconst (n := 1) hx hb d_Md_shown_58 ?_
          refine lv_goto (tgt := 63) hx hb d_Md_shown_59 (by decide) ?_
          have hPc := hP.sub (ws' := (wMd cI cJ cZ h0 h1 h2 h3 h4 h5 h6 h7 h8 h9 h10 h11 h12 h13 h14 h15 h16 h17 h18 h19 h20 h21 h22 h23 th no ca ba nl xa sa da la ra fa ta ua uh uo ma mh ml nf fo fh fs rs ic mn bh bo ya np pa nc cp)) [0, 1, 2, 3, 4, 5, 6, 7, 8, 9, 10, 11, 12, 13, 14, 15, 16, 17, 18, 19, 20, 21, 22, 23] rfl
          have hDc := hD.sub (ws' := (wMd cI cJ cZ h0 h1 h2 h3 h4 h5 h6 h7 h8 h9 h10 h11 h12 h13 h14 h15 h16 h17 h18 h19 h20 h21 h22 h23 th no ca ba nl xa sa da la ra fa ta ua uh uo ma mh ml nf fo fh fs rs ic mn bh bo ya np pa nc cp)) [0, 1, 2, 3, 4, 5, 6, 7, 8, 9, 10, 11, 12, 13, 14, 15, 16, 17, 18, 19, 20, 21, 22, 23] (by decide) rfl
          have hFc := va_free (wc := (wMd cI cJ cZ h0 h1 h2 h3 h4 h5 h6 h7 h8 h9 h10 h11 h12 h13 h14 h15 h16 h17 h18 h19 h20 h21 h22 h23 th no ca ba nl xa sa da la ra fa ta ua uh uo ma mh ml nf fo fh fs rs ic mn bh bo ya np pa nc cp)) hD hS hA [0, 1, 2, 3, 4, 5, 6, 7, 8, 9, 10, 11, 12, 13, 14, 15, 16, 17, 18, 19, 20, 21, 22, 23] rfl
          refine va_calli (va_runV (As := [.int (iI 0), .int (iI 0), .int (iI 1)]) (rest := []) ⟨hx, hb, hml, hown, hts⟩ (m_Md_goes l D cI cJ cO cZ h0 h1 h2 h3 h4 h5 h6 h7 h8 h9 h10 h11 h12 h13 h14 h15 h16 h17 h18 h19 h20 h21 h22 h23 H.size th no ca ba nl xa sa da la ra fa ta ua uh uo ma mh ml nf fo fh fs rs ic mn bh bo ya np pa nc cp 0 0 1 (fun z t => z = 0 ∧ t = 1) (s_Md_goes_001 th no ca ba nl xa sa da la ra fa ta ua uh uo ma mh ml nf fo fh fs rs ic mn bh bo ya np pa nc cp)) (nv_cwV (n := 3) hts wd_812 wd_814 sl_17 wd_10 wd_815 (by decide +kernel) ⟨Nat.le_of_ble_eq_true rfl, Nat.le_of_ble_eq_true rfl⟩) ⟨blW, va_recv hK hPc (ci := 8) (q0 := 0) rfl rfl, fun U hU hW => ⟨rfl, by rw [hU], by rw [hU]; exact hPc, va_K.moved hW.alike hK, hDc.weaken (fun _ _ _ _ => trivial)⟩⟩ rfl rfl hl.1 rfl (lv_room (Nat.le_of_ble_eq_true rfl)) d_Md_shown_63 ⟨Nat.le_of_ble_eq_true rfl, Nat.le_of_ble_eq_true rfl⟩) hS (fun q _ h => hFc q h) hFc (fun r u t H1 locs ht hvm hw hB hz1 hk1 hS => ?_)
          obtain ⟨hP1, hK1, hD1⟩ := hB
          rw [ht] at hP1
          obtain ⟨_, rfl, rfl, rfl⟩ := hw
          obtain ⟨hP, hD⟩ := va_join (wr := []) (w1 := (wMd cI cJ cZ h0 h1 h2 h3 h4 h5 h6 h7 h8 h9 h10 h11 h12 h13 h14 h15 h16 h17 h18 h19 h20 h21 h22 h23 1 no ca ba nl xa sa da la ra fa ta ua uh uo ma mh ml nf fo fh fs rs ic mn bh bo ya np pa nc cp)) hP hD [0, 1, 2, 3, 4, 5, 6, 7, 8, 9, 10, 11, 12, 13, 14, 15, 16, 17, 18, 19, 20, 21, 22, 23] [] rfl rfl (by decide) (by decide) hk1 hFc hP1 hD1
          generalize H1 = H at hP hS ⊢
          have hP : va_P D vwCl (wMd cI cJ cZ h0 h1 h2 h3 h4 h5 h6 h7 h8 h9 h10 h11 h12 h13 h14 h15 h16 h17 h18 h19 h20 h21 h22 h23 1 no ca ba nl xa sa da la ra fa ta ua uh uo ma mh ml nf fo fh fs rs ic mn bh bo ya np pa nc cp) H := hP
          have hD : va_D A (wMd cI cJ cZ h0 h1 h2 h3 h4 h5 h6 h7 h8 h9 h10 h11 h12 h13 h14 h15 h16 h17 h18 h19 h20 h21 h22 h23 1 no ca ba nl xa sa da la ra fa ta ua uh uo ma mh ml nf fo fh fs rs ic mn bh bo ya np pa nc cp) := hD
          refine W.widen (k := 0) (n := 0) (Nat.le_of_ble_eq_true rfl) (Nat.le_of_ble_eq_true rfl) ?_
          refine nv_if_ne (tgt := 71) hx hb d_Md_shown_66 (by decide) (by decide) (fun c38 => absurd c38 (by decide)) (fun _ => ?_)
          refine nv_iconst (n := 0) hx hb d_Md_shown_69 ?_
          have hP9 := hP.sub (ws' := (wMd cI cJ cZ h0 h1 h2 h3 h4 h5 h6 h7 h8 h9 h10 h11 h12 h13 h14 h15 h16 h17 h18 h19 h20 h21 h22 h23 1 no ca ba nl xa sa da la ra fa ta ua uh uo ma mh ml nf fo fh fs rs ic mn bh bo ya np pa nc cp)) [0, 1, 2, 3, 4, 5, 6, 7, 8, 9, 10, 11, 12, 13, 14, 15, 16, 17, 18, 19, 20, 21, 22, 23] rfl
          have hD9 := hD.sub (ws' := (wMd cI cJ cZ h0 h1 h2 h3 h4 h5 h6 h7 h8 h9 h10 h11 h12 h13 h14 h15 h16 h17 h18 h19 h20 h21 h22 h23 1 no ca ba nl xa sa da la ra fa ta ua uh uo ma mh ml nf fo fh fs rs ic mn bh bo ya np pa nc cp)) [0, 1, 2, 3, 4, 5, 6, 7, 8, 9, 10, 11, 12, 13, 14, 15, 16, 17, 18, 19, 20, 21, 22, 23] (by decide) rfl
          exact W.iret hx hb hr (fun t ht hW => ⟨⟨_, ((1), (fa), (ta), (ra), (ic)), rfl, ⟨_, rfl, v⟩, by rw [ht]; exact hP9, va_K.moved hW.alike hK, hD9⟩, hS.F ht⟩) hS.2.2 d_Md_shown_70
  · replace v := v.2 c3
    refine nv_if_eq (tgt := 19) hx hb d_Md_shown_5 (by decide) (by decide) (fun _ => ?_) (fun c39 => absurd c39 (by decide))
    refine nv_iconst (n := 0) hx hb d_Md_shown_19 ?_
    refine lv_istore (lv' := [(4, .int (iI 0)), (0, .ref h0), (1, .int (iI ob)), (2, .int (iI from_)), (3, .int (iI to_))]) hx hb d_Md_shown_20 hl (by decide) rfl (fun ls hl => ?_)
    refine lv_aload_n hx hb d_Md_shown_22 rfl (lv_at hl 1 rfl) ?_
    refine lv_iload hx hb d_Md_shown_23 (lv_at hl 0 rfl) ?_
    refine lv_iload hx hb d_Md_shown_25 (lv_at hl 0 rfl) ?_
    refine nv_if_eq (tgt := 45) hx hb d_Md_shown_27 (by decide) (by decide) (fun _ => ?_) (fun c40 => absurd c40 (by decide))
    refine nv_iconst (n := 0) hx hb d_Md_shown_45 ?_
    refine lv_iload_n hx hb d_Md_shown_46 rfl (lv_at hl 4 rfl) ?_
    refine lv_iload_n hx hb d_Md_shown_47 rfl (lv_at hl 3 rfl) ?_
    obtain ⟨k41, v⟩ := v
    obtain ⟨k42, v⟩ := v
    refine nv_icmp_le (tgt := 62) hx hb d_Md_shown_48 (by decide) k41 k42 (fun c43 => ?_) (fun c43 => ?_)
    · replace v := v.1 c43
      refine nv_iconst (n := 0) hx hb d_Md_shown_62 ?_
      have hPc := hP.sub (ws' := (wMd cI cJ cZ h0 h1 h2 h3 h4 h5 h6 h7 h8 h9 h10 h11 h12 h13 h14 h15 h16 h17 h18 h19 h20 h21 h22 h23 th no ca ba nl xa sa da la ra fa ta ua uh uo ma mh ml nf fo fh fs rs ic mn bh bo ya np pa nc cp)) [0, 1, 2, 3, 4, 5, 6, 7, 8, 9, 10, 11, 12, 13, 14, 15, 16, 17, 18, 19, 20, 21, 22, 23] rfl
      have hDc := hD.sub (ws' := (wMd cI cJ cZ h0 h1 h2 h3 h4 h5 h6 h7 h8 h9 h10 h11 h12 h13 h14 h15 h16 h17 h18 h19 h20 h21 h22 h23 th no ca ba nl xa sa da la ra fa ta ua uh uo ma mh ml nf fo fh fs rs ic mn bh bo ya np pa nc cp)) [0, 1, 2, 3, 4, 5, 6, 7, 8, 9, 10, 11, 12, 13, 14, 15, 16, 17, 18, 19, 20, 21, 22, 23] (by decide) rfl
      have hFc := va_free (wc := (wMd cI cJ cZ h0 h1 h2 h3 h4 h5 h6 h7 h8 h9 h10 h11 h12 h13 h14 h15 h16 h17 h18 h19 h20 h21 h22 h23 th no ca ba nl xa sa da la ra fa ta ua uh uo ma mh ml nf fo fh fs rs ic mn bh bo ya np pa nc cp)) hD hS hA [0, 1, 2, 3, 4, 5, 6, 7, 8, 9, 10, 11, 12, 13, 14, 15, 16, 17, 18, 19, 20, 21, 22, 23] rfl
      refine va_calli (va_runV (As := [.int (iI 0), .int (iI 0), .int (iI 0)]) (rest := []) ⟨hx, hb, hml, hown, hts⟩ (m_Md_goes l D cI cJ cO cZ h0 h1 h2 h3 h4 h5 h6 h7 h8 h9 h10 h11 h12 h13 h14 h15 h16 h17 h18 h19 h20 h21 h22 h23 H.size th no ca ba nl xa sa da la ra fa ta ua uh uo ma mh ml nf fo fh fs rs ic mn bh bo ya np pa nc cp 0 0 0 (fun z t => z = 0 ∧ t = 1) (s_Md_goes_000 th no ca ba nl xa sa da la ra fa ta ua uh uo ma mh ml nf fo fh fs rs ic mn bh bo ya np pa nc cp)) (nv_cwV (n := 3) hts wd_812 wd_814 sl_17 wd_10 wd_815 (by decide +kernel) ⟨Nat.le_of_ble_eq_true rfl, Nat.le_of_ble_eq_true rfl⟩) ⟨blW, va_recv hK hPc (ci := 8) (q0 := 0) rfl rfl, fun U hU hW => ⟨rfl, by rw [hU], by rw [hU]; exact hPc, va_K.moved hW.alike hK, hDc.weaken (fun _ _ _ _ => trivial)⟩⟩ rfl rfl hl.1 rfl (lv_room (Nat.le_of_ble_eq_true rfl)) d_Md_shown_63 ⟨Nat.le_of_ble_eq_true rfl, Nat.le_of_ble_eq_true rfl⟩) hS (fun q _ h => hFc q h) hFc (fun r u t H1 locs ht hvm hw hB hz1 hk1 hS => ?_)
      obtain ⟨hP1, hK1, hD1⟩ := hB
      rw [ht] at hP1
      obtain ⟨_, rfl, rfl, rfl⟩ := hw
      obtain ⟨hP, hD⟩ := va_join (wr := []) (w1 := (wMd cI cJ cZ h0 h1 h2 h3 h4 h5 h6 h7 h8 h9 h10 h11 h12 h13 h14 h15 h16 h17 h18 h19 h20 h21 h22 h23 1 no ca ba nl xa sa da la ra fa ta ua uh uo ma mh ml nf fo fh fs rs ic mn bh bo ya np pa nc cp)) hP hD [0, 1, 2, 3, 4, 5, 6, 7, 8, 9, 10, 11, 12, 13, 14, 15, 16, 17, 18, 19, 20, 21, 22, 23] [] rfl rfl (by decide) (by decide) hk1 hFc hP1 hD1
      generalize H1 = H at hP hS ⊢
      have hP : va_P D vwCl (wMd cI cJ cZ h0 h1 h2 h3 h4 h5 h6 h7 h8 h9 h10 h11 h12 h13 h14 h15 h16 h17 h18 h19 h20 h21 h22 h23 1 no ca ba nl xa sa da la ra fa ta ua uh uo ma mh ml nf fo fh fs rs ic mn bh bo ya np pa nc cp) H := hP
      have hD : va_D A (wMd cI cJ cZ h0 h1 h2 h3 h4 h5 h6 h7 h8 h9 h10 h11 h12 h13 h14 h15 h16 h17 h18 h19 h20 h21 h22 h23 1 no ca ba nl xa sa da la ra fa ta ua uh uo ma mh ml nf fo fh fs rs ic mn bh bo ya np pa nc cp) := hD
      refine W.widen (k := 0) (n := 0) (Nat.le_of_ble_eq_true rfl) (Nat.le_of_ble_eq_true rfl) ?_
      refine nv_if_ne (tgt := 71) hx hb d_Md_shown_66 (by decide) (by decide) (fun c44 => absurd c44 (by decide)) (fun _ => ?_)
      refine nv_iconst (n := 0) hx hb d_Md_shown_69 ?_
      have hP9 := hP.sub (ws' := (wMd cI cJ cZ h0 h1 h2 h3 h4 h5 h6 h7 h8 h9 h10 h11 h12 h13 h14 h15 h16 h17 h18 h19 h20 h21 h22 h23 1 no ca ba nl xa sa da la ra fa ta ua uh uo ma mh ml nf fo fh fs rs ic mn bh bo ya np pa nc cp)) [0, 1, 2, 3, 4, 5, 6, 7, 8, 9, 10, 11, 12, 13, 14, 15, 16, 17, 18, 19, 20, 21, 22, 23] rfl
      have hD9 := hD.sub (ws' := (wMd cI cJ cZ h0 h1 h2 h3 h4 h5 h6 h7 h8 h9 h10 h11 h12 h13 h14 h15 h16 h17 h18 h19 h20 h21 h22 h23 1 no ca ba nl xa sa da la ra fa ta ua uh uo ma mh ml nf fo fh fs rs ic mn bh bo ya np pa nc cp)) [0, 1, 2, 3, 4, 5, 6, 7, 8, 9, 10, 11, 12, 13, 14, 15, 16, 17, 18, 19, 20, 21, 22, 23] (by decide) rfl
      exact W.iret hx hb hr (fun t ht hW => ⟨⟨_, ((1), (fa), (ta), (ra), (ic)), rfl, ⟨_, rfl, v⟩, by rw [ht]; exact hP9, va_K.moved hW.alike hK, hD9⟩, hS.F ht⟩) hS.2.2 d_Md_shown_70
    · replace v := v.2 c43
      refine lv_iload_n hx hb d_Md_shown_51 rfl (lv_at hl 4 rfl) ?_
      refine nv_sipush (z := 26280) hx hb d_Md_shown_52 (by decide) ?_
      refine nv_icmp_gt (tgt := 62) hx hb d_Md_shown_55 (by decide) k41 (by decide) (fun c45 => ?_) (fun c45 => ?_)
      · replace v := v.1 c45
        refine nv_iconst (n := 0) hx hb d_Md_shown_62 ?_
        have hPc := hP.sub (ws' := (wMd cI cJ cZ h0 h1 h2 h3 h4 h5 h6 h7 h8 h9 h10 h11 h12 h13 h14 h15 h16 h17 h18 h19 h20 h21 h22 h23 th no ca ba nl xa sa da la ra fa ta ua uh uo ma mh ml nf fo fh fs rs ic mn bh bo ya np pa nc cp)) [0, 1, 2, 3, 4, 5, 6, 7, 8, 9, 10, 11, 12, 13, 14, 15, 16, 17, 18, 19, 20, 21, 22, 23] rfl
        have hDc := hD.sub (ws' := (wMd cI cJ cZ h0 h1 h2 h3 h4 h5 h6 h7 h8 h9 h10 h11 h12 h13 h14 h15 h16 h17 h18 h19 h20 h21 h22 h23 th no ca ba nl xa sa da la ra fa ta ua uh uo ma mh ml nf fo fh fs rs ic mn bh bo ya np pa nc cp)) [0, 1, 2, 3, 4, 5, 6, 7, 8, 9, 10, 11, 12, 13, 14, 15, 16, 17, 18, 19, 20, 21, 22, 23] (by decide) rfl
        have hFc := va_free (wc := (wMd cI cJ cZ h0 h1 h2 h3 h4 h5 h6 h7 h8 h9 h10 h11 h12 h13 h14 h15 h16 h17 h18 h19 h20 h21 h22 h23 th no ca ba nl xa sa da la ra fa ta ua uh uo ma mh ml nf fo fh fs rs ic mn bh bo ya np pa nc cp)) hD hS hA [0, 1, 2, 3, 4, 5, 6, 7, 8, 9, 10, 11, 12, 13, 14, 15, 16, 17, 18, 19, 20, 21, 22, 23] rfl
        refine va_calli (va_runV (As := [.int (iI 0), .int (iI 0), .int (iI 0)]) (rest := []) ⟨hx, hb, hml, hown, hts⟩ (m_Md_goes l D cI cJ cO cZ h0 h1 h2 h3 h4 h5 h6 h7 h8 h9 h10 h11 h12 h13 h14 h15 h16 h17 h18 h19 h20 h21 h22 h23 H.size th no ca ba nl xa sa da la ra fa ta ua uh uo ma mh ml nf fo fh fs rs ic mn bh bo ya np pa nc cp 0 0 0 (fun z t => z = 0 ∧ t = 1) (s_Md_goes_000 th no ca ba nl xa sa da la ra fa ta ua uh uo ma mh ml nf fo fh fs rs ic mn bh bo ya np pa nc cp)) (nv_cwV (n := 3) hts wd_812 wd_814 sl_17 wd_10 wd_815 (by decide +kernel) ⟨Nat.le_of_ble_eq_true rfl, Nat.le_of_ble_eq_true rfl⟩) ⟨blW, va_recv hK hPc (ci := 8) (q0 := 0) rfl rfl, fun U hU hW => ⟨rfl, by rw [hU], by rw [hU]; exact hPc, va_K.moved hW.alike hK, hDc.weaken (fun _ _ _ _ => trivial)⟩⟩ rfl rfl hl.1 rfl (lv_room (Nat.le_of_ble_eq_true rfl)) d_Md_shown_63 ⟨Nat.le_of_ble_eq_true rfl, Nat.le_of_ble_eq_true rfl⟩) hS (fun q _ h => hFc q h) hFc (fun r u t H1 locs ht hvm hw hB hz1 hk1 hS => ?_)
        obtain ⟨hP1, hK1, hD1⟩ := hB
        rw [ht] at hP1
        obtain ⟨_, rfl, rfl, rfl⟩ := hw
        obtain ⟨hP, hD⟩ := va_join (wr := []) (w1 := (wMd cI cJ cZ h0 h1 h2 h3 h4 h5 h6 h7 h8 h9 h10 h11 h12 h13 h14 h15 h16 h17 h18 h19 h20 h21 h22 h23 1 no ca ba nl xa sa da la ra fa ta ua uh uo ma mh ml nf fo fh fs rs ic mn bh bo ya np pa nc cp)) hP hD [0, 1, 2, 3, 4, 5, 6, 7, 8, 9, 10, 11, 12, 13, 14, 15, 16, 17, 18, 19, 20, 21, 22, 23] [] rfl rfl (by decide) (by decide) hk1 hFc hP1 hD1
        generalize H1 = H at hP hS ⊢
        have hP : va_P D vwCl (wMd cI cJ cZ h0 h1 h2 h3 h4 h5 h6 h7 h8 h9 h10 h11 h12 h13 h14 h15 h16 h17 h18 h19 h20 h21 h22 h23 1 no ca ba nl xa sa da la ra fa ta ua uh uo ma mh ml nf fo fh fs rs ic mn bh bo ya np pa nc cp) H := hP
        have hD : va_D A (wMd cI cJ cZ h0 h1 h2 h3 h4 h5 h6 h7 h8 h9 h10 h11 h12 h13 h14 h15 h16 h17 h18 h19 h20 h21 h22 h23 1 no ca ba nl xa sa da la ra fa ta ua uh uo ma mh ml nf fo fh fs rs ic mn bh bo ya np pa nc cp) := hD
        refine W.widen (k := 0) (n := 0) (Nat.le_of_ble_eq_true rfl) (Nat.le_of_ble_eq_true rfl) ?_
        refine nv_if_ne (tgt := 71) hx hb d_Md_shown_66 (by decide) (by decide) (fun c46 => absurd c46 (by decide)) (fun _ => ?_)
        refine nv_iconst (n := 0) hx hb d_Md_shown_69 ?_
        have hP9 := hP.sub (ws' := (wMd cI cJ cZ h0 h1 h2 h3 h4 h5 h6 h7 h8 h9 h10 h11 h12 h13 h14 h15 h16 h17 h18 h19 h20 h21 h22 h23 1 no ca ba nl xa sa da la ra fa ta ua uh uo ma mh ml nf fo fh fs rs ic mn bh bo ya np pa nc cp)) [0, 1, 2, 3, 4, 5, 6, 7, 8, 9, 10, 11, 12, 13, 14, 15, 16, 17, 18, 19, 20, 21, 22, 23] rfl
        have hD9 := hD.sub (ws' := (wMd cI cJ cZ h0 h1 h2 h3 h4 h5 h6 h7 h8 h9 h10 h11 h12 h13 h14 h15 h16 h17 h18 h19 h20 h21 h22 h23 1 no ca ba nl xa sa da la ra fa ta ua uh uo ma mh ml nf fo fh fs rs ic mn bh bo ya np pa nc cp)) [0, 1, 2, 3, 4, 5, 6, 7, 8, 9, 10, 11, 12, 13, 14, 15, 16, 17, 18, 19, 20, 21, 22, 23] (by decide) rfl
        exact W.iret hx hb hr (fun t ht hW => ⟨⟨_, ((1), (fa), (ta), (ra), (ic)), rfl, ⟨_, rfl, v⟩, by rw [ht]; exact hP9, va_K.moved hW.alike hK, hD9⟩, hS.F ht⟩) hS.2.2 d_Md_shown_70
      · replace v := v.2 c45
        refine nv_iconst (n := 1) hx hb d_Md_shown_58 ?_
        refine lv_goto (tgt := 63) hx hb d_Md_shown_59 (by decide) ?_
        have hPc := hP.sub (ws' := (wMd cI cJ cZ h0 h1 h2 h3 h4 h5 h6 h7 h8 h9 h10 h11 h12 h13 h14 h15 h16 h17 h18 h19 h20 h21 h22 h23 th no ca ba nl xa sa da la ra fa ta ua uh uo ma mh ml nf fo fh fs rs ic mn bh bo ya np pa nc cp)) [0, 1, 2, 3, 4, 5, 6, 7, 8, 9, 10, 11, 12, 13, 14, 15, 16, 17, 18, 19, 20, 21, 22, 23] rfl
        have hDc := hD.sub (ws' := (wMd cI cJ cZ h0 h1 h2 h3 h4 h5 h6 h7 h8 h9 h10 h11 h12 h13 h14 h15 h16 h17 h18 h19 h20 h21 h22 h23 th no ca ba nl xa sa da la ra fa ta ua uh uo ma mh ml nf fo fh fs rs ic mn bh bo ya np pa nc cp)) [0, 1, 2, 3, 4, 5, 6, 7, 8, 9, 10, 11, 12, 13, 14, 15, 16, 17, 18, 19, 20, 21, 22, 23] (by decide) rfl
        have hFc := va_free (wc := (wMd cI cJ cZ h0 h1 h2 h3 h4 h5 h6 h7 h8 h9 h10 h11 h12 h13 h14 h15 h16 h17 h18 h19 h20 h21 h22 h23 th no ca ba nl xa sa da la ra fa ta ua uh uo ma mh ml nf fo fh fs rs ic mn bh bo ya np pa nc cp)) hD hS hA [0, 1, 2, 3, 4, 5, 6, 7, 8, 9, 10, 11, 12, 13, 14, 15, 16, 17, 18, 19, 20, 21, 22, 23] rfl
        refine va_calli (va_runV (As := [.int (iI 0), .int (iI 0), .int (iI 1)]) (rest := []) ⟨hx, hb, hml, hown, hts⟩ (m_Md_goes l D cI cJ cO cZ h0 h1 h2 h3 h4 h5 h6 h7 h8 h9 h10 h11 h12 h13 h14 h15 h16 h17 h18 h19 h20 h21 h22 h23 H.size th no ca ba nl xa sa da la ra fa ta ua uh uo ma mh ml nf fo fh fs rs ic mn bh bo ya np pa nc cp 0 0 1 (fun z t => z = 0 ∧ t = 1) (s_Md_goes_001 th no ca ba nl xa sa da la ra fa ta ua uh uo ma mh ml nf fo fh fs rs ic mn bh bo ya np pa nc cp)) (nv_cwV (n := 3) hts wd_812 wd_814 sl_17 wd_10 wd_815 (by decide +kernel) ⟨Nat.le_of_ble_eq_true rfl, Nat.le_of_ble_eq_true rfl⟩) ⟨blW, va_recv hK hPc (ci := 8) (q0 := 0) rfl rfl, fun U hU hW => ⟨rfl, by rw [hU], by rw [hU]; exact hPc, va_K.moved hW.alike hK, hDc.weaken (fun _ _ _ _ => trivial)⟩⟩ rfl rfl hl.1 rfl (lv_room (Nat.le_of_ble_eq_true rfl)) d_Md_shown_63 ⟨Nat.le_of_ble_eq_true rfl, Nat.le_of_ble_eq_true rfl⟩) hS (fun q _ h => hFc q h) hFc (fun r u t H1 locs ht hvm hw hB hz1 hk1 hS => ?_)
        obtain ⟨hP1, hK1, hD1⟩ := hB
        rw [ht] at hP1
        obtain ⟨_, rfl, rfl, rfl⟩ := hw
        obtain ⟨hP, hD⟩ := va_join (wr := []) (w1 := (wMd cI cJ cZ h0 h1 h2 h3 h4 h5 h6 h7 h8 h9 h10 h11 h12 h13 h14 h15 h16 h17 h18 h19 h20 h21 h22 h23 1 no ca ba nl xa sa da la ra fa ta ua uh uo ma mh ml nf fo fh fs rs ic mn bh bo ya np pa nc cp)) hP hD [0, 1, 2, 3, 4, 5, 6, 7, 8, 9, 10, 11, 12, 13, 14, 15, 16, 17, 18, 19, 20, 21, 22, 23] [] rfl rfl (by decide) (by decide) hk1 hFc hP1 hD1
        generalize H1 = H at hP hS ⊢
        have hP : va_P D vwCl (wMd cI cJ cZ h0 h1 h2 h3 h4 h5 h6 h7 h8 h9 h10 h11 h12 h13 h14 h15 h16 h17 h18 h19 h20 h21 h22 h23 1 no ca ba nl xa sa da la ra fa ta ua uh uo ma mh ml nf fo fh fs rs ic mn bh bo ya np pa nc cp) H := hP
        have hD : va_D A (wMd cI cJ cZ h0 h1 h2 h3 h4 h5 h6 h7 h8 h9 h10 h11 h12 h13 h14 h15 h16 h17 h18 h19 h20 h21 h22 h23 1 no ca ba nl xa sa da la ra fa ta ua uh uo ma mh ml nf fo fh fs rs ic mn bh bo ya np pa nc cp) := hD
        refine W.widen (k := 0) (n := 0) (Nat.le_of_ble_eq_true rfl) (Nat.le_of_ble_eq_true rfl) ?_
        refine nv_if_ne (tgt := 71) hx hb d_Md_shown_66 (by decide) (by decide) (fun c47 => absurd c47 (by decide)) (fun _ => ?_)
        refine nv_iconst (n := 0) hx hb d_Md_shown_69 ?_
        have hP9 := hP.sub (ws' := (wMd cI cJ cZ h0 h1 h2 h3 h4 h5 h6 h7 h8 h9 h10 h11 h12 h13 h14 h15 h16 h17 h18 h19 h20 h21 h22 h23 1 no ca ba nl xa sa da la ra fa ta ua uh uo ma mh ml nf fo fh fs rs ic mn bh bo ya np pa nc cp)) [0, 1, 2, 3, 4, 5, 6, 7, 8, 9, 10, 11, 12, 13, 14, 15, 16, 17, 18, 19, 20, 21, 22, 23] rfl
        have hD9 := hD.sub (ws' := (wMd cI cJ cZ h0 h1 h2 h3 h4 h5 h6 h7 h8 h9 h10 h11 h12 h13 h14 h15 h16 h17 h18 h19 h20 h21 h22 h23 1 no ca ba nl xa sa da la ra fa ta ua uh uo ma mh ml nf fo fh fs rs ic mn bh bo ya np pa nc cp)) [0, 1, 2, 3, 4, 5, 6, 7, 8, 9, 10, 11, 12, 13, 14, 15, 16, 17, 18, 19, 20, 21, 22, 23] (by decide) rfl
        exact W.iret hx hb hr (fun t ht hW => ⟨⟨_, ((1), (fa), (ta), (ra), (ic)), rfl, ⟨_, rfl, v⟩, by rw [ht]; exact hP9, va_K.moved hW.alike hK, hD9⟩, hS.F ht⟩) hS.2.2 d_Md_shown_70

theorem d_Md_flash_0 : decode prog_10_method_18_code 0 = .ok (.aload_n 0, 1) := by decide +kernel
theorem d_Md_flash_1 : decode prog_10_method_18_code 1 = .ok (.aload_n 0, 1) := by decide +kernel
theorem d_Md_flash_2 : decode prog_10_method_18_code 2 = .ok (.iload_n 1, 1) := by decide +kernel
theorem d_Md_flash_3 : decode prog_10_method_18_code 3 = .ok (.invokevirtual 116, 3) := by decide +kernel
theorem d_Md_flash_6 : decode prog_10_method_18_code 6 = .ok (.ifCond .eq 14, 3) := by decide +kernel
theorem d_Md_flash_9 : decode prog_10_method_18_code 9 = .ok (.iload_n 2, 1) := by decide +kernel
theorem d_Md_flash_10 : decode prog_10_method_18_code 10 = .ok (.invokestatic 119, 3) := by decide +kernel
theorem d_Md_flash_13 : decode prog_10_method_18_code 13 = .ok (.ifCond .eq 7, 3) := by decide +kernel
theorem d_Md_flash_16 : decode prog_10_method_18_code 16 = .ok (.iconst 1, 1) := by decide +kernel
theorem d_Md_flash_17 : decode prog_10_method_18_code 17 = .ok (.goto 4, 3) := by decide +kernel
theorem d_Md_flash_20 : decode prog_10_method_18_code 20 = .ok (.iconst 0, 1) := by decide +kernel
theorem d_Md_flash_21 : decode prog_10_method_18_code 21 = .ok (.aload_n 0, 1) := by decide +kernel
theorem d_Md_flash_22 : decode prog_10_method_18_code 22 = .ok (.getfield 122, 3) := by decide +kernel
theorem d_Md_flash_25 : decode prog_10_method_18_code 25 = .ok (.bipush 40, 2) := by decide +kernel
theorem d_Md_flash_27 : decode prog_10_method_18_code 27 = .ok (.if_icmp .ge 7, 3) := by decide +kernel
theorem d_Md_flash_30 : decode prog_10_method_18_code 30 = .ok (.iconst 1, 1) := by decide +kernel
theorem d_Md_flash_31 : decode prog_10_method_18_code 31 = .ok (.goto 4, 3) := by decide +kernel
theorem d_Md_flash_34 : decode prog_10_method_18_code 34 = .ok (.iconst 0, 1) := by decide +kernel
theorem d_Md_flash_35 : decode prog_10_method_18_code 35 = .ok (.iload_n 3, 1) := by decide +kernel
theorem d_Md_flash_36 : decode prog_10_method_18_code 36 = .ok (.iconst 0, 1) := by decide +kernel
theorem d_Md_flash_37 : decode prog_10_method_18_code 37 = .ok (.ldc 104, 2) := by decide +kernel
theorem d_Md_flash_39 : decode prog_10_method_18_code 39 = .ok (.invokestatic 92, 3) := by decide +kernel
theorem d_Md_flash_42 : decode prog_10_method_18_code 42 = .ok (.invokevirtual 96, 3) := by decide +kernel
theorem d_Md_flash_45 : decode prog_10_method_18_code 45 = .ok (.ifCond .ne 5, 3) := by decide +kernel
theorem d_Md_flash_48 : decode prog_10_method_18_code 48 = .ok (.iconst 0, 1) := by decide +kernel
theorem d_Md_flash_49 : decode prog_10_method_18_code 49 = .ok (.ireturn, 1) := by decide +kernel
theorem d_Md_flash_50 : decode prog_10_method_18_code 50 = .ok (.aload_n 0, 1) := by decide +kernel
theorem d_Md_flash_51 : decode prog_10_method_18_code 51 = .ok (.getfield 57, 3) := by decide +kernel
theorem d_Md_flash_54 : decode prog_10_method_18_code 54 = .ok (.aload_n 0, 1) := by decide +kernel
theorem d_Md_flash_55 : decode prog_10_method_18_code 55 = .ok (.getfield 122, 3) := by decide +kernel
theorem d_Md_flash_58 : decode prog_10_method_18_code 58 = .ok (.iload_n 1, 1) := by decide +kernel
theorem d_Md_flash_59 : decode prog_10_method_18_code 59 = .ok (.iastore, 1) := by decide +kernel
theorem d_Md_flash_60 : decode prog_10_method_18_code 60 = .ok (.aload_n 0, 1) := by decide +kernel
theorem d_Md_flash_61 : decode prog_10_method_18_code 61 = .ok (.getfield 60, 3) := by decide +kernel
theorem d_Md_flash_64 : decode prog_10_method_18_code 64 = .ok (.aload_n 0, 1) := by decide +kernel
theorem d_Md_flash_65 : decode prog_10_method_18_code 65 = .ok (.getfield 122, 3) := by decide +kernel
theorem d_Md_flash_68 : decode prog_10_method_18_code 68 = .ok (.iload_n 2, 1) := by decide +kernel
theorem d_Md_flash_69 : decode prog_10_method_18_code 69 = .ok (.iastore, 1) := by decide +kernel
theorem d_Md_flash_70 : decode prog_10_method_18_code 70 = .ok (.aload_n 0, 1) := by decide +kernel
theorem d_Md_flash_71 : decode prog_10_method_18_code 71 = .ok (.getfield 63, 3) := by decide +kernel
theorem d_Md_flash_74 : decode prog_10_method_18_code 74 = .ok (.aload_n 0, 1) := by decide +kernel
theorem d_Md_flash_75 : decode prog_10_method_18_code 75 = .ok (.getfield 122, 3) := by decide +kernel
theorem d_Md_flash_78 : decode prog_10_method_18_code 78 = .ok (.iload_n 3, 1) := by decide +kernel
theorem d_Md_flash_79 : decode prog_10_method_18_code 79 = .ok (.iastore, 1) := by decide +kernel
theorem d_Md_flash_80 : decode prog_10_method_18_code 80 = .ok (.aload_n 0, 1) := by decide +kernel
theorem d_Md_flash_81 : decode prog_10_method_18_code 81 = .ok (.dup, 1) := by decide +kernel
theorem d_Md_flash_82 : decode prog_10_method_18_code 82 = .ok (.getfield 122, 3) := by decide +kernel
theorem d_Md_flash_85 : decode prog_10_method_18_code 85 = .ok (.iconst 1, 1) := by decide +kernel
theorem d_Md_flash_86 : decode prog_10_method_18_code 86 = .ok (.iadd, 1) := by decide +kernel
theorem d_Md_flash_87 : decode prog_10_method_18_code 87 = .ok (.putfield 122, 3) := by decide +kernel
theorem d_Md_flash_90 : decode prog_10_method_18_code 90 = .ok (.aload_n 0, 1) := by decide +kernel
theorem d_Md_flash_91 : decode prog_10_method_18_code 91 = .ok (.iconst 0, 1) := by decide +kernel
theorem d_Md_flash_92 : decode prog_10_method_18_code 92 = .ok (.putfield 100, 3) := by decide +kernel
theorem d_Md_flash_95 : decode prog_10_method_18_code 95 = .ok (.aload_n 0, 1) := by decide +kernel
theorem d_Md_flash_96 : decode prog_10_method_18_code 96 = .ok (.getfield 122, 3) := by decide +kernel
theorem d_Md_flash_99 : decode prog_10_method_18_code 99 = .ok (.ireturn, 1) := by decide +kernel
def vc_Md_flash (th : Int) (no : Int) (ca : Nat → Int) (ba : Nat → Int) (nl : Int) (xa : Nat → Int) (sa : Nat → Int) (da : Nat → Int) (la : Nat → Int) (ra : Nat → Int) (fa : Nat → Int) (ta : Nat → Int) (ua : Nat → Int) (uh : Nat → Int) (uo : Nat → Int) (ma : Nat → Int) (mh : Nat → Int) (ml : Nat → Int) (nf : Int) (fo : Nat → Int) (fh : Nat → Int) (fs : Nat → Int) (rs : Int) (ic : Int) (mn : Int) (bh : Nat → Int) (bo : Nat → Int) (ya : Nat → Int) (np : Int) (pa : Nat → Int) (nc : Int) (cp : Nat → Int) (ob : Int) (hour : Int) (sec : Int) (post : Int → Int → (Nat → Int) → (Nat → Int) → (Nat → Int) → Int → Int → Prop) : Prop := (r32 ob) ∧ ((r32 no) ∧ (((0 ≤ ob ∧ ob < no) → (r32 hour) ∧ (((0 ≤ hour ∧ hour < 26280) → (r32 nf) ∧ ((40 ≤ nf → (r32 sec) ∧ (((0 ≤ sec ∧ sec ≤ 1000000000) → post 0 2 fo fh fs nf ic) ∧ (¬ (0 ≤ sec ∧ sec ≤ 1000000000) → post 0 2 fo fh fs nf ic))) ∧ (nf < 40 → (r32 sec) ∧ (((0 ≤ sec ∧ sec ≤ 1000000000) → (0 ≤ nf ∧ nf < 40) ∧ ((0 ≤ nf ∧ nf < 40) ∧ ((0 ≤ nf ∧ nf < 40) ∧ (post (nf + 1) 0 (va_up fo (nf).toNat ob) (va_up fh (nf).toNat hour) (va_up fs (nf).toNat sec) (nf + 1) 0)))) ∧ (¬ (0 ≤ sec ∧ sec ≤ 1000000000) → post 0 3 fo fh fs nf ic))))) ∧ (¬ (0 ≤ hour ∧ hour < 26280) → (r32 nf) ∧ ((40 ≤ nf → (r32 sec) ∧ (((0 ≤ sec ∧ sec ≤ 1000000000) → post 0 1 fo fh fs nf ic) ∧ (¬ (0 ≤ sec ∧ sec ≤ 1000000000) → post 0 1 fo fh fs nf ic))) ∧ (nf < 40 → (r32 sec) ∧ (((0 ≤ sec ∧ sec ≤ 1000000000) → post 0 1 fo fh fs nf ic) ∧ (¬ (0 ≤ sec ∧ sec ≤ 1000000000) → post 0 1 fo fh fs nf ic))))))) ∧ (¬ (0 ≤ ob ∧ ob < no) → (r32 nf) ∧ ((40 ≤ nf → (r32 sec) ∧ (((0 ≤ sec ∧ sec ≤ 1000000000) → post 0 1 fo fh fs nf ic) ∧ (¬ (0 ≤ sec ∧ sec ≤ 1000000000) → post 0 1 fo fh fs nf ic))) ∧ (nf < 40 → (r32 sec) ∧ (((0 ≤ sec ∧ sec ≤ 1000000000) → post 0 1 fo fh fs nf ic) ∧ (¬ (0 ≤ sec ∧ sec ≤ 1000000000) → post 0 1 fo fh fs nf ic)))))))
set_option maxHeartbeats 4000000 in
set_option maxRecDepth 100000 in
theorem m_Md_flash (l : Launch) (D : va_G) (cI cJ cO cZ : ClassId) (h0 h1 h2 h3 h4 h5 h6 h7 h8 h9 h10 h11 h12 h13 h14 h15 h16 h17 h18 h19 h20 h21 h22 h23 : Nat) (sz : Nat) (th : Int) (no : Int) (ca : Nat → Int) (ba : Nat → Int) (nl : Int) (xa : Nat → Int) (sa : Nat → Int) (da : Nat → Int) (la : Nat → Int) (ra : Nat → Int) (fa : Nat → Int) (ta : Nat → Int) (ua : Nat → Int) (uh : Nat → Int) (uo : Nat → Int) (ma : Nat → Int) (mh : Nat → Int) (ml : Nat → Int) (nf : Int) (fo : Nat → Int) (fh : Nat → Int) (fs : Nat → Int) (rs : Int) (ic : Int) (mn : Int) (bh : Nat → Int) (bo : Nat → Int) (ya : Nat → Int) (np : Int) (pa : Nat → Int) (nc : Int) (cp : Nat → Int) (ob : Int) (hour : Int) (sec : Int) (post : Int → Int → (Nat → Int) → (Nat → Int) → (Nat → Int) → Int → Int → Prop) (v : vc_Md_flash th no ca ba nl xa sa da la ra fa ta ua uh uo ma mh ml nf fo fh fs rs ic mn bh bo ya np pa nc cp ob hour sec post) : Met l ⟨"LightDosesModel", "flash", "(III)I"⟩ (.code ⟨"LightDosesModel", "flash", "(III)I"⟩ prog_10_method_18_code 4 (some .int) :: TG) { frames := 1, cells := 0, slots := 0, locals := 23 } (va_Pc [.ref h0, .int (iI ob), .int (iI hour), .int (iI sec)] (fun U => U.heap.size = sz ∧ va_P D vwCl (wMd cI cJ cZ h0 h1 h2 h3 h4 h5 h6 h7 h8 h9 h10 h11 h12 h13 h14 h15 h16 h17 h18 h19 h20 h21 h22 h23 th no ca ba nl xa sa da la ra fa ta ua uh uo ma mh ml nf fo fh fs rs ic mn bh bo ya np pa nc cp) U.heap ∧ va_K D vwCl (tyx cI cJ cO cZ) U ∧ va_D (fun _ => True) (wMd cI cJ cZ h0 h1 h2 h3 h4 h5 h6 h7 h8 h9 h10 h11 h12 h13 h14 h15 h16 h17 h18 h19 h20 h21 h22 h23 th no ca ba nl xa sa da la ra fa ta ua uh uo ma mh ml nf fo fh fs rs ic mn bh bo ya np pa nc cp))) (va_Qi (fun (r : Int32) (u : Int × (Nat → Int) × (Nat → Int) × (Nat → Int) × Int × Int) => ∃ z : Int, r = iI z ∧ post z u.1 u.2.1 u.2.2.1 u.2.2.2.1 u.2.2.2.2.1 u.2.2.2.2.2) (fun u t => va_P D vwCl (wMd cI cJ cZ h0 h1 h2 h3 h4 h5 h6 h7 h8 h9 h10 h11 h12 h13 h14 h15 h16 h17 h18 h19 h20 h21 h22 h23 u.1 no ca ba nl xa sa da la ra fa ta ua uh uo ma mh ml u.2.2.2.2.1 u.2.1 u.2.2.1 u.2.2.2.1 rs u.2.2.2.2.2 mn bh bo ya np pa nc cp) t.heap ∧ va_K D vwCl (tyx cI cJ cO cZ) t ∧ va_D (va_A (wMd cI cJ cZ h0 h1 h2 h3 h4 h5 h6 h7 h8 h9 h10 h11 h12 h13 h14 h15 h16 h17 h18 h19 h20 h21 h22 h23 th no ca ba nl xa sa da la ra fa ta ua uh uo ma mh ml nf fo fh fs rs ic mn bh bo ya np pa nc cp) sz) (wMd cI cJ cZ h0 h1 h2 h3 h4 h5 h6 h7 h8 h9 h10 h11 h12 h13 h14 h15 h16 h17 h18 h19 h20 h21 h22 h23 u.1 no ca ba nl xa sa da la ra fa ta ua uh uo ma mh ml u.2.2.2.2.1 u.2.1 u.2.2.1 u.2.2.2.1 rs u.2.2.2.2.2 mn bh bo ya np pa nc cp)) (va_A (wMd cI cJ cZ h0 h1 h2 h3 h4 h5 h6 h7 h8 h9 h10 h11 h12 h13 h14 h15 h16 h17 h18 h19 h20 h21 h22 h23 th no ca ba nl xa sa da la ra fa ta ua uh uo ma mh ml nf fo fh fs rs ic mn bh bo ya np pa nc cp) sz)) 0 0 (va_A (wMd cI cJ cZ h0 h1 h2 h3 h4 h5 h6 h7 h8 h9 h10 h11 h12 h13 h14 h15 h16 h17 h18 h19 h20 h21 h22 h23 th no ca ba nl xa sa da la ra fa ta ua uh uo ma mh ml nf fo fh fs rs ic mn bh bo ya np pa nc cp) sz) := by
  refine Met.ofW (cc := prog_10_method_18_code) (maxL := 4) (ret := (some .int)) (by decide) rfl ?_
  intro p e s m args below meth c s₁ B hml hv
  obtain ⟨rfl, hsz, hP, hK, hD0⟩ := hv
  have hx := B.exec
  have hb := B.bytes
  have hr := B.returns
  have hts0 := atoms_spec (ws := (.code ⟨"LightDosesModel", "flash", "(III)I"⟩ prog_10_method_18_code 4 (some .int) :: TG)) B.pre
  have hts : ∀ w ∈ TG, w.before _ s = true := fun w h => hts0 w (List.mem_cons_of_mem _ h)
  have hown : s.vm.findClass "LightDosesModel" = some m.cls := findClass_of_methodNamed B.named
  have hlocks := B.notSynchronized
  subst hsz
  have hD := hD0.self (sz := s.heap.size)
  generalize hAe : va_A (wMd cI cJ cZ h0 h1 h2 h3 h4 h5 h6 h7 h8 h9 h10 h11 h12 h13 h14 h15 h16 h17 h18 h19 h20 h21 h22 h23 th no ca ba nl xa sa da la ra fa ta ua uh uo ma mh ml nf fo fh fs rs ic mn bh bo ya np pa nc cp) s.heap.size = A at hD ⊢
  have hA : ∀ q : Nat, s.heap.size ≤ q → A q := fun q h => by rw [← hAe]; exact Or.inr h
  have hS : va_S A s.heap s.heap [] := va_S.rf
  have hP : va_P D vwCl (wMd cI cJ cZ h0 h1 h2 h3 h4 h5 h6 h7 h8 h9 h10 h11 h12 h13 h14 h15 h16 h17 h18 h19 h20 h21 h22 h23 th no ca ba nl xa sa da la ra fa ta ua uh uo ma mh ml nf fo fh fs rs ic mn bh bo ya np pa nc cp) s.heap := hP
  have hl := lv_entry ([Value.ref h0, Value.int (iI ob), Value.int (iI hour), Value.int (iI sec)]) (n := 4) (Nat.le_of_ble_eq_true rfl)
  rw [lg_entry_eq]
  generalize (lg_sl ([Value.ref h0, Value.int (iI ob), Value.int (iI hour), Value.int (iI sec)]) ++ List.replicate (4 - (lg_sl ([Value.ref h0, Value.int (iI ob), Value.int (iI hour), Value.int (iI sec)])).length) Slot.unset).toArray = ls at hl ⊢
  have hl : lv_has ls 4 [(0, .ref h0), (1, .int (iI ob)), (2, .int (iI hour)), (3, .int (iI sec))] := hl
  unfold vc_Md_flash at v
  obtain ⟨H, hH⟩ : ∃ H, H = s.heap := ⟨_, rfl⟩
  obtain ⟨locs, hlc⟩ : ∃ L : List Loc, L = [] := ⟨_, rfl⟩
  rw [← hlc] at hS ⊢
  have hP : va_P D vwCl (wMd cI cJ cZ h0 h1 h2 h3 h4 h5 h6 h7 h8 h9 h10 h11 h12 h13 h14 h15 h16 h17 h18 h19 h20 h21 h22 h23 th no ca ba nl xa sa da la ra fa ta ua uh uo ma mh ml nf fo fh fs rs ic mn bh bo ya np pa nc cp) H := by rw [hH]; exact hP
  have hS : va_S A s.heap H locs := by rw [hH]; exact hS
  have hW0 : ∀ {X : Heap → Prop}, X H → X s.heap := fun h => by rw [← hH]; exact h
  refine hW0 (X := fun Z => W p l e _ s m _ below meth c Z locs 0 0 _ _) ?_
  refine lv_aload_n hx hb d_Md_flash_0 rfl (lv_at hl 0 rfl) ?_
  refine lv_aload_n hx hb d_Md_flash_1 rfl (lv_at hl 0 rfl) ?_
  refine lv_iload_n hx hb d_Md_flash_2 rfl (lv_at hl 1 rfl) ?_
  obtain ⟨k1, v⟩ := v
  obtain ⟨k2, v⟩ := v
  refine vp_callSi (nv_runV (wc := (wMd cI cJ cZ h0 h1 h2 h3 h4 h5 h6 h7 h8 h9 h10 h11 h12 h13 h14 h15 h16 h17 h18 h19 h20 h21 h22 h23 th no ca ba nl xa sa da la ra fa ta ua uh uo ma mh ml nf fo fh fs rs ic mn bh bo ya np pa nc cp)) (As := [.int (iI ob)]) (rest := [.ref h0]) ⟨hx, hb, hml, hown, hts⟩ (m_Md_isObject l D cI cJ cO cZ h0 h1 h2 h3 h4 h5 h6 h7 h8 h9 h10 h11 h12 h13 h14 h15 h16 h17 h18 h19 h20 h21 h22 h23 th no ca ba nl xa sa da la ra fa ta ua uh uo ma mh ml nf fo fh fs rs ic mn bh bo ya np pa nc cp ob (fun z => (z = 1 ∧ (0 ≤ ob ∧ ob < no)) ∨ (z = 0 ∧ ¬ (0 ≤ ob ∧ ob < no))) (s_Md_isObject th no ca ba nl xa sa da la ra fa ta ua uh uo ma mh ml nf fo fh fs rs ic mn bh bo ya np pa nc cp ob k1 k2)) (nv_cwV (n := 1) hts wd_840 wd_842 sl_20 wd_10 wd_843 (by decide +kernel) ⟨Nat.le_of_ble_eq_true rfl, Nat.le_of_ble_eq_true rfl⟩) hK (hP.sub [0, 1, 2, 3, 4, 5, 6, 7, 8, 9, 10, 11, 12, 13, 14, 15, 16, 17, 18, 19, 20, 21, 22, 23] rfl) (va_recv hK hP (ci := 8) (q0 := 0) rfl rfl) rfl hl.1 rfl (Nat.le_of_ble_eq_true rfl) d_Md_flash_3 (Nat.le_of_ble_eq_true rfl) (Nat.le_of_ble_eq_true rfl)) (fun r hr => ?_)
  rcases hr with ⟨_, rfl, ⟨rfl, c3⟩ | ⟨rfl, c3⟩⟩
  · replace v := v.1 c3
    refine nv_if_eq (tgt := 20) hx hb d_Md_flash_6 (by decide) (by decide) (fun c4 => absurd c4 (by decide)) (fun _ => ?_)
    refine lv_iload_n hx hb d_Md_flash_9 rfl (lv_at hl 2 rfl) ?_
    obtain ⟨k5, v⟩ := v
    refine vp_callSi (nv_runS (wc := []) (As := [.int (iI hour)]) (rest := [.ref h0]) ⟨hx, hb, hml, hown, hts⟩ (m_Md_isHour l D cI cJ cO cZ hour (fun z => (z = 1 ∧ (0 ≤ hour ∧ hour < 26280)) ∨ (z = 0 ∧ ¬ (0 ≤ hour ∧ hour < 26280))) (s_Md_isHour hour k5)) (nv_cwS (n := 1) hts wd_852 wd_853 wd_10 wd_854 (by decide +kernel) ⟨Nat.le_of_ble_eq_true rfl, Nat.le_of_ble_eq_true rfl⟩) hK (hP.sub [] rfl) rfl hl.1 rfl (Nat.le_of_ble_eq_true rfl) d_Md_flash_10 (Nat.le_of_ble_eq_true rfl) (Nat.le_of_ble_eq_true rfl)) (fun r hr => ?_)
    rcases hr with ⟨_, rfl, ⟨rfl, c6⟩ | ⟨rfl, c6⟩⟩
    · replace v := v.1 c6
      refine nv_if_eq (tgt := 20) hx hb d_Md_flash_13 (by decide) (by decide) (fun c7 => absurd c7 (by decide)) (fun _ => ?_)
      refine nv_iconst (n := 1) hx hb d_Md_flash_16 ?_
      refine lv_goto (tgt := 21) hx hb d_Md_flash_17 (by decide) ?_
      refine lv_aload_n hx hb d_Md_flash_21 rfl (lv_at hl 0 rfl) ?_
      refine va_get (D := D) (ci := 8) (v := .int (iI nf)) (C := "LightDosesModel") (T := T_Md) (N := 32) hx hb hts in_Md hown hK hP 0 rfl rfl 18 (by decide) (hts _ wd_721) (fun _ h9 => h9) rfl d_Md_flash_22 ?_
      refine nv_bipush (z := 40) hx hb d_Md_flash_25 (by decide) ?_
      obtain ⟨k8, v⟩ := v
      refine nv_icmp_ge (tgt := 34) hx hb d_Md_flash_27 (by decide) k8 (by decide) (fun c9 => ?_) (fun c9 => ?_)
      · replace v := v.1 c9
        refine nv_iconst (n := 0) hx hb d_Md_flash_34 ?_
        refine lv_iload_n hx hb d_Md_flash_35 rfl (lv_at hl 3 rfl) ?_
        refine nv_iconst (n := 0) hx hb d_Md_flash_36 ?_
        refine nv_ldc (z := 1000000000) hx hb hown (hts _ wd_820) (by decide) d_Md_flash_37 ?_
        obtain ⟨k10, v⟩ := v
        refine vp_callSi (nv_runS (wc := []) (As := [.int (iI sec), .int (iI 0), .int (iI 1000000000)]) (rest := [.int (iI 0), .int (iI 1), .ref h0]) ⟨hx, hb, hml, hown, hts⟩ (m_Md_within l D cI cJ cO cZ sec 0 1000000000 (fun z => (z = 1 ∧ (0 ≤ sec ∧ sec ≤ 1000000000)) ∨ (z = 0 ∧ ¬ (0 ≤ sec ∧ sec ≤ 1000000000))) (s_Md_within sec 0 1000000000 k10 (by decide) (by decide))) (nv_cwS (n := 3) hts wd_809 wd_810 wd_10 wd_811 (by decide +kernel) ⟨Nat.le_of_ble_eq_true rfl, Nat.le_of_ble_eq_true rfl⟩) hK (hP.sub [] rfl) rfl hl.1 rfl (Nat.le_of_ble_eq_true rfl) d_Md_flash_39 (Nat.le_of_ble_eq_true rfl) (Nat.le_of_ble_eq_true rfl)) (fun r hr => ?_)
        rcases hr with ⟨_, rfl, ⟨rfl, c11⟩ | ⟨rfl, c11⟩⟩
        · replace v := v.1 c11
          have hPc := hP.sub (ws' := (wMd cI cJ cZ h0 h1 h2 h3 h4 h5 h6 h7 h8 h9 h10 h11 h12 h13 h14 h15 h16 h17 h18 h19 h20 h21 h22 h23 th no ca ba nl xa sa da la ra fa ta ua uh uo ma mh ml nf fo fh fs rs ic mn bh bo ya np pa nc cp)) [0, 1, 2, 3, 4, 5, 6, 7, 8, 9, 10, 11, 12, 13, 14, 15, 16, 17, 18, 19, 20, 21, 22, 23] rfl
          have hDc := hD.sub (ws' := (wMd cI cJ cZ h0 h1 h2 h3 h4 h5 h6 h7 h8 h9 h10 h11 h12 h13 h14 h15 h16 h17 h18 h19 h20 h21 h22 h23 th no ca ba nl xa sa da la ra fa ta ua uh uo ma mh ml nf fo fh fs rs ic mn bh bo ya np pa nc cp)) [0, 1, 2, 3, 4, 5, 6, 7, 8, 9, 10, 11, 12, 13, 14, 15, 16, 17, 18, 19, 20, 21, 22, 23] (by decide) rfl
          have hFc := va_free (wc := (wMd cI cJ cZ h0 h1 h2 h3 h4 h5 h6 h7 h8 h9 h10 h11 h12 h13 h14 h15 h16 h17 h18 h19 h20 h21 h22 h23 th no ca ba nl xa sa da la ra fa ta ua uh uo ma mh ml nf fo fh fs rs ic mn bh bo ya np pa nc cp)) hD hS hA [0, 1, 2, 3, 4, 5, 6, 7, 8, 9, 10, 11, 12, 13, 14, 15, 16, 17, 18, 19, 20, 21, 22, 23] rfl
          refine va_calli (va_runV (As := [.int (iI 1), .int (iI 0), .int (iI 1)]) (rest := []) ⟨hx, hb, hml, hown, hts⟩ (m_Md_goes l D cI cJ cO cZ h0 h1 h2 h3 h4 h5 h6 h7 h8 h9 h10 h11 h12 h13 h14 h15 h16 h17 h18 h19 h20 h21 h22 h23 H.size th no ca ba nl xa sa da la ra fa ta ua uh uo ma mh ml nf fo fh fs rs ic mn bh bo ya np pa nc cp 1 0 1 (fun z t => z = 0 ∧ t = 2) (s_Md_goes_101 th no ca ba nl xa sa da la ra fa ta ua uh uo ma mh ml nf fo fh fs rs ic mn bh bo ya np pa nc cp)) (nv_cwV (n := 3) hts wd_812 wd_814 sl_17 wd_10 wd_815 (by decide +kernel) ⟨Nat.le_of_ble_eq_true rfl, Nat.le_of_ble_eq_true rfl⟩) ⟨blW, va_recv hK hPc (ci := 8) (q0 := 0) rfl rfl, fun U hU hW => ⟨rfl, by rw [hU], by rw [hU]; exact hPc, va_K.moved hW.alike hK, hDc.weaken (fun _ _ _ _ => trivial)⟩⟩ rfl rfl hl.1 rfl (lv_room (Nat.le_of_ble_eq_true rfl)) d_Md_flash_42 ⟨Nat.le_of_ble_eq_true rfl, Nat.le_of_ble_eq_true rfl⟩) hS (fun q _ h => hFc q h) hFc (fun r u t H1 locs ht hvm hw hB hz1 hk1 hS => ?_)
          obtain ⟨hP1, hK1, hD1⟩ := hB
          rw [ht] at hP1
          obtain ⟨_, rfl, rfl, rfl⟩ := hw
          obtain ⟨hP, hD⟩ := va_join (wr := []) (w1 := (wMd cI cJ cZ h0 h1 h2 h3 h4 h5 h6 h7 h8 h9 h10 h11 h12 h13 h14 h15 h16 h17 h18 h19 h20 h21 h22 h23 2 no ca ba nl xa sa da la ra fa ta ua uh uo ma mh ml nf fo fh fs rs ic mn bh bo ya np pa nc cp)) hP hD [0, 1, 2, 3, 4, 5, 6, 7, 8, 9, 10, 11, 12, 13, 14, 15, 16, 17, 18, 19, 20, 21, 22, 23] [] rfl rfl (by decide) (by decide) hk1 hFc hP1 hD1
          generalize H1 = H at hP hS ⊢
          have hP : va_P D vwCl (wMd cI cJ cZ h0 h1 h2 h3 h4 h5 h6 h7 h8 h9 h10 h11 h12 h13 h14 h15 h16 h17 h18 h19 h20 h21 h22 h23 2 no ca ba nl xa sa da la ra fa ta ua uh uo ma mh ml nf fo fh fs rs ic mn bh bo ya np pa nc cp) H := hP
          have hD : va_D A (wMd cI cJ cZ h0 h1 h2 h3 h4 h5 h6 h7 h8 h9 h10 h11 h12 h13 h14 h15 h16 h17 h18 h19 h20 h21 h22 h23 2 no ca ba nl xa sa da la ra fa ta ua uh uo ma mh ml nf fo fh fs rs ic mn bh bo ya np pa nc cp) := hD
          refine W.widen (k := 0) (n := 0) (Nat.le_of_ble_eq_true rfl) (Nat.le_of_ble_eq_true rfl) ?_
          refine nv_if_ne (tgt := 50) hx hb d_Md_flash_45 (by decide) (by decide) (fun c12 => absurd c12 (by decide)) (fun _ => ?_)
          refine nv_iconst (n := 0) hx hb d_Md_flash_48 ?_
          have hP9 := hP.sub (ws' := (wMd cI cJ cZ h0 h1 h2 h3 h4 h5 h6 h7 h8 h9 h10 h11 h12 h13 h14 h15 h16 h17 h18 h19 h20 h21 h22 h23 2 no ca ba nl xa sa da la ra fa ta ua uh uo ma mh ml nf fo fh fs rs ic mn bh bo ya np pa nc cp)) [0, 1, 2, 3, 4, 5, 6, 7, 8, 9, 10, 11, 12, 13, 14, 15, 16, 17, 18, 19, 20, 21, 22, 23] rfl
          have hD9 := hD.sub (ws' := (wMd cI cJ cZ h0 h1 h2 h3 h4 h5 h6 h7 h8 h9 h10 h11 h12 h13 h14 h15 h16 h17 h18 h19 h20 h21 h22 h23 2 no ca ba nl xa sa da la ra fa ta ua uh uo ma mh ml nf fo fh fs rs ic mn bh bo ya np pa nc cp)) [0, 1, 2, 3, 4, 5, 6, 7, 8, 9, 10, 11, 12, 13, 14, 15, 16, 17, 18, 19, 20, 21, 22, 23] (by decide) rfl
          exact W.iret hx hb hr (fun t ht hW => ⟨⟨_, ((2), (fo), (fh), (fs), (nf), (ic)), rfl, ⟨_, rfl, v⟩, by rw [ht]; exact hP9, va_K.moved hW.alike hK, hD9⟩, hS.F ht⟩) hS.2.2 d_Md_flash_49
        · replace v := v.2 c11
          have hPc := hP.sub (ws' := (wMd cI cJ cZ h0 h1 h2 h3 h4 h5 h6 h7 h8 h9 h10 h11 h12 h13 h14 h15 h16 h17 h18 h19 h20 h21 h22 h23 th no ca ba nl xa sa da la ra fa ta ua uh uo ma mh ml nf fo fh fs rs ic mn bh bo ya np pa nc cp)) [0, 1, 2, 3, 4, 5, 6, 7, 8, 9, 10, 11, 12, 13, 14, 15, 16, 17, 18, 19, 20, 21, 22, 23] rfl
          have hDc := hD.sub (ws' := (wMd cI cJ cZ h0 h1 h2 h3 h4 h5 h6 h7 h8 h9 h10 h11 h12 h13 h14 h15 h16 h17 h18 h19 h20 h21 h22 h23 th no ca ba nl xa sa da la ra fa ta ua uh uo ma mh ml nf fo fh fs rs ic mn bh bo ya np pa nc cp)) [0, 1, 2, 3, 4, 5, 6, 7, 8, 9, 10, 11, 12, 13, 14, 15, 16, 17, 18, 19, 20, 21, 22, 23] (by decide) rfl
          have hFc := va_free (wc := (wMd cI cJ cZ h0 h1 h2 h3 h4 h5 h6 h7 h8 h9 h10 h11 h12 h13 h14 h15 h16 h17 h18 h19 h20 h21 h22 h23 th no ca ba nl xa sa da la ra fa ta ua uh uo ma mh ml nf fo fh fs rs ic mn bh bo ya np pa nc cp)) hD hS hA [0, 1, 2, 3, 4, 5, 6, 7, 8, 9, 10, 11, 12, 13, 14, 15, 16, 17, 18, 19, 20, 21, 22, 23] rfl
          refine va_calli (va_runV (As := [.int (iI 1), .int (iI 0), .int (iI 0)]) (rest := []) ⟨hx, hb, hml, hown, hts⟩ (m_Md_goes l D cI cJ cO cZ h0 h1 h2 h3 h4 h5 h6 h7 h8 h9 h10 h11 h12 h13 h14 h15 h16 h17 h18 h19 h20 h21 h22 h23 H.size th no ca ba nl xa sa da la ra fa ta ua uh uo ma mh ml nf fo fh fs rs ic mn bh bo ya np pa nc cp 1 0 0 (fun z t => z = 0 ∧ t = 2) (s_Md_goes_100 th no ca ba nl xa sa da la ra fa ta ua uh uo ma mh ml nf fo fh fs rs ic mn bh bo ya np pa nc cp)) (nv_cwV (n := 3) hts wd_812 wd_814 sl_17 wd_10 wd_815 (by decide +kernel) ⟨Nat.le_of_ble_eq_true rfl, Nat.le_of_ble_eq_true rfl⟩) ⟨blW, va_recv hK hPc (ci := 8) (q0 := 0) rfl rfl, fun U hU hW => ⟨rfl, by rw [hU], by rw [hU]; exact hPc, va_K.moved hW.alike hK, hDc.weaken (fun _ _ _ _ => trivial)⟩⟩ rfl rfl hl.1 rfl (lv_room (Nat.le_of_ble_eq_true rfl)) d_Md_flash_42 ⟨Nat.le_of_ble_eq_true rfl, Nat.le_of_ble_eq_true rfl⟩) hS (fun q _ h => hFc q h) hFc (fun r u t H1 locs ht hvm hw hB hz1 hk1 hS => ?_)
          obtain ⟨hP1, hK1, hD1⟩ := hB
          rw [ht] at hP1
          obtain ⟨_, rfl, rfl, rfl⟩ := hw
          obtain ⟨hP, hD⟩ := va_join (wr := []) (w1 := (wMd cI cJ cZ h0 h1 h2 h3 h4 h5 h6 h7 h8 h9 h10 h11 h12 h13 h14 h15 h16 h17 h18 h19 h20 h21 h22 h23 2 no ca ba nl xa sa da la ra fa ta ua uh uo ma mh ml nf fo fh fs rs ic mn bh bo ya np pa nc cp)) hP hD [0, 1, 2, 3, 4, 5, 6, 7, 8, 9, 10, 11, 12, 13, 14, 15, 16, 17, 18, 19, 20, 21, 22, 23] [] rfl rfl (by decide) (by decide) hk1 hFc hP1 hD1
          generalize H1 = H at hP hS ⊢
          have hP : va_P D vwCl (wMd cI cJ cZ h0 h1 h2 h3 h4 h5 h6 h7 h8 h9 h10 h11 h12 h13 h14 h15 h16 h17 h18 h19 h20 h21 h22 h23 2 no ca ba nl xa sa da la ra fa ta ua uh uo ma mh ml nf fo fh fs rs ic mn bh bo ya np pa nc cp) H := hP
          have hD : va_D A (wMd cI cJ cZ h0 h1 h2 h3 h4 h5 h6 h7 h8 h9 h10 h11 h12 h13 h14 h15 h16 h17 h18 h19 h20 h21 h22 h23 2 no ca ba nl xa sa da la ra fa ta ua uh uo ma mh ml nf fo fh fs rs ic mn bh bo ya np pa nc cp) := hD
          refine W.widen (k := 0) (n := 0) (Nat.le_of_ble_eq_true rfl) (Nat.le_of_ble_eq_true rfl) ?_
          refine nv_if_ne (tgt := 50) hx hb d_Md_flash_45 (by decide) (by decide) (fun c13 => absurd c13 (by decide)) (fun _ => ?_)
          refine nv_iconst (n := 0) hx hb d_Md_flash_48 ?_
          have hP9 := hP.sub (ws' := (wMd cI cJ cZ h0 h1 h2 h3 h4 h5 h6 h7 h8 h9 h10 h11 h12 h13 h14 h15 h16 h17 h18 h19 h20 h21 h22 h23 2 no ca ba nl xa sa da la ra fa ta ua uh uo ma mh ml nf fo fh fs rs ic mn bh bo ya np pa nc cp)) [0, 1, 2, 3, 4, 5, 6, 7, 8, 9, 10, 11, 12, 13, 14, 15, 16, 17, 18, 19, 20, 21, 22, 23] rfl
          have hD9 := hD.sub (ws' := (wMd cI cJ cZ h0 h1 h2 h3 h4 h5 h6 h7 h8 h9 h10 h11 h12 h13 h14 h15 h16 h17 h18 h19 h20 h21 h22 h23 2 no ca ba nl xa sa da la ra fa ta ua uh uo ma mh ml nf fo fh fs rs ic mn bh bo ya np pa nc cp)) [0, 1, 2, 3, 4, 5, 6, 7, 8, 9, 10, 11, 12, 13, 14, 15, 16, 17, 18, 19, 20, 21, 22, 23] (by decide) rfl
          exact W.iret hx hb hr (fun t ht hW => ⟨⟨_, ((2), (fo), (fh), (fs), (nf), (ic)), rfl, ⟨_, rfl, v⟩, by rw [ht]; exact hP9, va_K.moved hW.alike hK, hD9⟩, hS.F ht⟩) hS.2.2 d_Md_flash_49
      · replace v := v.2 c9
        refine nv_iconst (n := 1) hx hb d_Md_flash_30 ?_
        refine lv_goto (tgt := 35) hx hb d_Md_flash_31 (by decide) ?_
        refine lv_iload_n hx hb d_Md_flash_35 rfl (lv_at hl 3 rfl) ?_
        refine nv_iconst (n := 0) hx hb d_Md_flash_36 ?_
        refine nv_ldc (z := 1000000000) hx hb hown (hts _ wd_820) (by decide) d_Md_flash_37 ?_
        obtain ⟨k14, v⟩ := v
        refine vp_callSi (nv_runS (wc := []) (As := [.int (iI sec), .int (iI 0), .int (iI 1000000000)]) (rest := [.int (iI 1), .int (iI 1), .ref h0]) ⟨hx, hb, hml, hown, hts⟩ (m_Md_within l D cI cJ cO cZ sec 0 1000000000 (fun z => (z = 1 ∧ (0 ≤ sec ∧ sec ≤ 1000000000)) ∨ (z = 0 ∧ ¬ (0 ≤ sec ∧ sec ≤ 1000000000))) (s_Md_within sec 0 1000000000 k14 (by decide) (by decide))) (nv_cwS (n := 3) hts wd_809 wd_810 wd_10 wd_811 (by decide +kernel) ⟨Nat.le_of_ble_eq_true rfl, Nat.le_of_ble_eq_true rfl⟩) hK (hP.sub [] rfl) rfl hl.1 rfl (Nat.le_of_ble_eq_true rfl) d_Md_flash_39 (Nat.le_of_ble_eq_true rfl) (Nat.le_of_ble_eq_true rfl)) (fun r hr => ?_)
        rcases hr with ⟨_, rfl, ⟨rfl, c15⟩ | ⟨rfl, c15⟩⟩
        · replace v := v.1 c15
          have hPc := hP.sub (ws' := (wMd cI cJ cZ h0 h1 h2 h3 h4 h5 h6 h7 h8 h9 h10 h11 h12 h13 h14 h15 h16 h17 h18 h19 h20 h21 h22 h23 th no ca ba nl xa sa da la ra fa ta ua uh uo ma mh ml nf fo fh fs rs ic mn bh bo ya np pa nc cp)) [0, 1, 2, 3, 4, 5, 6, 7, 8, 9, 10, 11, 12, 13, 14, 15, 16, 17, 18, 19, 20, 21, 22, 23] rfl
          have hDc := hD.sub (ws' := (wMd cI cJ cZ h0 h1 h2 h3 h4 h5 h6 h7 h8 h9 h10 h11 h12 h13 h14 h15 h16 h17 h18 h19 h20 h21 h22 h23 th no ca ba nl xa sa da la ra fa ta ua uh uo ma mh ml nf fo fh fs rs ic mn bh bo ya np pa nc cp)) [0, 1, 2, 3, 4, 5, 6, 7, 8, 9, 10, 11, 12, 13, 14, 15, 16, 17, 18, 19, 20, 21, 22, 23] (by decide) rfl
          have hFc := va_free (wc := (wMd cI cJ cZ h0 h1 h2 h3 h4 h5 h6 h7 h8 h9 h10 h11 h12 h13 h14 h15 h16 h17 h18 h19 h20 h21 h22 h23 th no ca ba nl xa sa da la ra fa ta ua uh uo ma mh ml nf fo fh fs rs ic mn bh bo ya np pa nc cp)) hD hS hA [0, 1, 2, 3, 4, 5, 6, 7, 8, 9, 10, 11, 12, 13, 14, 15, 16, 17, 18, 19, 20, 21, 22, 23] rfl
          refine va_calli (va_runV (As := [.int (iI 1), .int (iI 1), .int (iI 1)]) (rest := []) ⟨hx, hb, hml, hown, hts⟩ (m_Md_goes l D cI cJ cO cZ h0 h1 h2 h3 h4 h5 h6 h7 h8 h9 h10 h11 h12 h13 h14 h15 h16 h17 h18 h19 h20 h21 h22 h23 H.size th no ca ba nl xa sa da la ra fa ta ua uh uo ma mh ml nf fo fh fs rs ic mn bh bo ya np pa nc cp 1 1 1 (fun z t => z = 1 ∧ t = 0) (s_Md_goes_111 th no ca ba nl xa sa da la ra fa ta ua uh uo ma mh ml nf fo fh fs rs ic mn bh bo ya np pa nc cp)) (nv_cwV (n := 3) hts wd_812 wd_814 sl_17 wd_10 wd_815 (by decide +kernel) ⟨Nat.le_of_ble_eq_true rfl, Nat.le_of_ble_eq_true rfl⟩) ⟨blW, va_recv hK hPc (ci := 8) (q0 := 0) rfl rfl, fun U hU hW => ⟨rfl, by rw [hU], by rw [hU]; exact hPc, va_K.moved hW.alike hK, hDc.weaken (fun _ _ _ _ => trivial)⟩⟩ rfl rfl hl.1 rfl (lv_room (Nat.le_of_ble_eq_true rfl)) d_Md_flash_42 ⟨Nat.le_of_ble_eq_true rfl, Nat.le_of_ble_eq_true rfl⟩) hS (fun q _ h => hFc q h) hFc (fun r u t H1 locs ht hvm hw hB hz1 hk1 hS => ?_)
          obtain ⟨hP1, hK1, hD1⟩ := hB
          rw [ht] at hP1
          obtain ⟨_, rfl, rfl, rfl⟩ := hw
          obtain ⟨hP, hD⟩ := va_join (wr := []) (w1 := (wMd cI cJ cZ h0 h1 h2 h3 h4 h5 h6 h7 h8 h9 h10 h11 h12 h13 h14 h15 h16 h17 h18 h19 h20 h21 h22 h23 0 no ca ba nl xa sa da la ra fa ta ua uh uo ma mh ml nf fo fh fs rs ic mn bh bo ya np pa nc cp)) hP hD [0, 1, 2, 3, 4, 5, 6, 7, 8, 9, 10, 11, 12, 13, 14, 15, 16, 17, 18, 19, 20, 21, 22, 23] [] rfl rfl (by decide) (by decide) hk1 hFc hP1 hD1
          generalize H1 = H at hP hS ⊢
          have hP : va_P D vwCl (wMd cI cJ cZ h0 h1 h2 h3 h4 h5 h6 h7 h8 h9 h10 h11 h12 h13 h14 h15 h16 h17 h18 h19 h20 h21 h22 h23 0 no ca ba nl xa sa da la ra fa ta ua uh uo ma mh ml nf fo fh fs rs ic mn bh bo ya np pa nc cp) H := hP
          have hD : va_D A (wMd cI cJ cZ h0 h1 h2 h3 h4 h5 h6 h7 h8 h9 h10 h11 h12 h13 h14 h15 h16 h17 h18 h19 h20 h21 h22 h23 0 no ca ba nl xa sa da la ra fa ta ua uh uo ma mh ml nf fo fh fs rs ic mn bh bo ya np pa nc cp) := hD
          refine W.widen (k := 0) (n := 0) (Nat.le_of_ble_eq_true rfl) (Nat.le_of_ble_eq_true rfl) ?_
          refine nv_if_ne (tgt := 50) hx hb d_Md_flash_45 (by decide) (by decide) (fun _ => ?_) (fun c16 => absurd c16 (by decide))
          refine lv_aload_n hx hb d_Md_flash_50 rfl (lv_at hl 0 rfl) ?_
          refine va_get (D := D) (ci := 8) (v := .ref h16) (C := "LightDosesModel") (T := T_Md) (N := 32) hx hb hts in_Md hown hK hP 0 rfl rfl 19 (by decide) (hts _ wd_722) (fun _ h9 => h9) rfl d_Md_flash_51 ?_
          refine lv_aload_n hx hb d_Md_flash_54 rfl (lv_at hl 0 rfl) ?_
          refine va_get (D := D) (ci := 8) (v := .int (iI nf)) (C := "LightDosesModel") (T := T_Md) (N := 32) hx hb hts in_Md hown hK hP 0 rfl rfl 18 (by decide) (hts _ wd_721) (fun _ h9 => h9) rfl d_Md_flash_55 ?_
          refine lv_iload_n hx hb d_Md_flash_58 rfl (lv_at hl 1 rfl) ?_
          obtain ⟨k17, v⟩ := v
          refine nv_iast (f := fo) hx hb hK hP hD hS 16 0 rfl rfl (nf).toNat (Int.toNat_of_nonneg k17.1).symm (by omega) (by decide) d_Md_flash_59 (fun H locs hP hD hS => ?_)
          have hP : va_P D vwCl (wMd cI cJ cZ h0 h1 h2 h3 h4 h5 h6 h7 h8 h9 h10 h11 h12 h13 h14 h15 h16 h17 h18 h19 h20 h21 h22 h23 0 no ca ba nl xa sa da la ra fa ta ua uh uo ma mh ml nf (va_up fo (nf).toNat ob) fh fs rs ic mn bh bo ya np pa nc cp) H := hP
          have hD : va_D A (wMd cI cJ cZ h0 h1 h2 h3 h4 h5 h6 h7 h8 h9 h10 h11 h12 h13 h14 h15 h16 h17 h18 h19 h20 h21 h22 h23 0 no ca ba nl xa sa da la ra fa ta ua uh uo ma mh ml nf (va_up fo (nf).toNat ob) fh fs rs ic mn bh bo ya np pa nc cp) := hD
          refine lv_aload_n hx hb d_Md_flash_60 rfl (lv_at hl 0 rfl) ?_
          refine va_get (D := D) (ci := 8) (v := .ref h17) (C := "LightDosesModel") (T := T_Md) (N := 32) hx hb hts in_Md hown hK hP 0 rfl rfl 20 (by decide) (hts _ wd_723) (fun _ h9 => h9) rfl d_Md_flash_61 ?_
          refine lv_aload_n hx hb d_Md_flash_64 rfl (lv_at hl 0 rfl) ?_
          refine va_get (D := D) (ci := 8) (v := .int (iI nf)) (C := "LightDosesModel") (T := T_Md) (N := 32) hx hb hts in_Md hown hK hP 0 rfl rfl 18 (by decide) (hts _ wd_721) (fun _ h9 => h9) rfl d_Md_flash_65 ?_
          refine lv_iload_n hx hb d_Md_flash_68 rfl (lv_at hl 2 rfl) ?_
          obtain ⟨k18, v⟩ := v
          refine nv_iast (f := fh) hx hb hK hP hD hS 17 0 rfl rfl (nf).toNat (Int.toNat_of_nonneg k18.1).symm (by omega) (by decide) d_Md_flash_69 (fun H locs hP hD hS => ?_)
          have hP : va_P D vwCl (wMd cI cJ cZ h0 h1 h2 h3 h4 h5 h6 h7 h8 h9 h10 h11 h12 h13 h14 h15 h16 h17 h18 h19 h20 h21 h22 h23 0 no ca ba nl xa sa da la ra fa ta ua uh uo ma mh ml nf (va_up fo (nf).toNat ob) (va_up fh (nf).toNat hour) fs rs ic mn bh bo ya np pa nc cp) H := hP
          have hD : va_D A (wMd cI cJ cZ h0 h1 h2 h3 h4 h5 h6 h7 h8 h9 h10 h11 h12 h13 h14 h15 h16 h17 h18 h19 h20 h21 h22 h23 0 no ca ba nl xa sa da la ra fa ta ua uh uo ma mh ml nf (va_up fo (nf).toNat ob) (va_up fh (nf).toNat hour) fs rs ic mn bh bo ya np pa nc cp) := hD
          refine lv_aload_n hx hb d_Md_flash_70 rfl (lv_at hl 0 rfl) ?_
          refine va_get (D := D) (ci := 8) (v := .ref h18) (C := "LightDosesModel") (T := T_Md) (N := 32) hx hb hts in_Md hown hK hP 0 rfl rfl 21 (by decide) (hts _ wd_724) (fun _ h9 => h9) rfl d_Md_flash_71 ?_
          refine lv_aload_n hx hb d_Md_flash_74 rfl (lv_at hl 0 rfl) ?_
          refine va_get (D := D) (ci := 8) (v := .int (iI nf)) (C := "LightDosesModel") (T := T_Md) (N := 32) hx hb hts in_Md hown hK hP 0 rfl rfl 18 (by decide) (hts _ wd_721) (fun _ h9 => h9) rfl d_Md_flash_75 ?_
          refine lv_iload_n hx hb d_Md_flash_78 rfl (lv_at hl 3 rfl) ?_
          obtain ⟨k19, v⟩ := v
          refine nv_iast (f := fs) hx hb hK hP hD hS 18 0 rfl rfl (nf).toNat (Int.toNat_of_nonneg k19.1).symm (by omega) (by decide) d_Md_flash_79 (fun H locs hP hD hS => ?_)
          have hP : va_P D vwCl (wMd cI cJ cZ h0 h1 h2 h3 h4 h5 h6 h7 h8 h9 h10 h11 h12 h13 h14 h15 h16 h17 h18 h19 h20 h21 h22 h23 0 no ca ba nl xa sa da la ra fa ta ua uh uo ma mh ml nf (va_up fo (nf).toNat ob) (va_up fh (nf).toNat hour) (va_up fs (nf).toNat sec) rs ic mn bh bo ya np pa nc cp) H := hP
          have hD : va_D A (wMd cI cJ cZ h0 h1 h2 h3 h4 h5 h6 h7 h8 h9 h10 h11 h12 h13 h14 h15 h16 h17 h18 h19 h20 h21 h22 h23 0 no ca ba nl xa sa da la ra fa ta ua uh uo ma mh ml nf (va_up fo (nf).toNat ob) (va_up fh (nf).toNat hour) (va_up fs (nf).toNat sec) rs ic mn bh bo ya np pa nc cp) := hD
          refine lv_aload_n hx hb d_Md_flash_80 rfl (lv_at hl 0 rfl) ?_
          refine lv_dup hx hb d_Md_flash_81 rfl ?_
          refine va_get (D := D) (ci := 8) (v := .int (iI nf)) (C := "LightDosesModel") (T := T_Md) (N := 32) hx hb hts in_Md hown hK hP 0 rfl rfl 18 (by decide) (hts _ wd_721) (fun _ h9 => h9) rfl d_Md_flash_82 ?_
          refine nv_iconst (n := 1) hx hb d_Md_flash_85 ?_
          refine nv_iadd (z := nf + 1) hx hb d_Md_flash_86 (by first | rfl | omega) ?_
          refine va_put (D := D) (ci := 8) (v := .int (iI (nf + 1))) (ty := .int) (C := "LightDosesModel") (T := T_Md) (N := 32) hx hb hts in_Md t_Md tok_Md n_Md hown hK hP hD hS 0 rfl rfl 18 (by decide) (hts _ wd_721) (fun _ h9 => h9) rfl (by decide +kernel) rfl rfl (Nat.le_of_ble_eq_true rfl) d_Md_flash_87 (fun H locs hP hD hS => ?_)
          have hP : va_P D vwCl (wMd cI cJ cZ h0 h1 h2 h3 h4 h5 h6 h7 h8 h9 h10 h11 h12 h13 h14 h15 h16 h17 h18 h19 h20 h21 h22 h23 0 no ca ba nl xa sa da la ra fa ta ua uh uo ma mh ml (nf + 1) (va_up fo (nf).toNat ob) (va_up fh (nf).toNat hour) (va_up fs (nf).toNat sec) rs ic mn bh bo ya np pa nc cp) H := hP
          have hD : va_D A (wMd cI cJ cZ h0 h1 h2 h3 h4 h5 h6 h7 h8 h9 h10 h11 h12 h13 h14 h15 h16 h17 h18 h19 h20 h21 h22 h23 0 no ca ba nl xa sa da la ra fa ta ua uh uo ma mh ml (nf + 1) (va_up fo (nf).toNat ob) (va_up fh (nf).toNat hour) (va_up fs (nf).toNat sec) rs ic mn bh bo ya np pa nc cp) := hD
          refine lv_aload_n hx hb d_Md_flash_90 rfl (lv_at hl 0 rfl) ?_
          refine nv_iconst (n := 0) hx hb d_Md_flash_91 ?_
          refine va_put (D := D) (ci := 8) (v := .int (iI 0)) (ty := .boolean) (C := "LightDosesModel") (T := T_Md) (N := 32) hx hb hts in_Md t_Md tok_Md n_Md hown hK hP hD hS 0 rfl rfl 23 (by decide) (hts _ wd_726) (fun _ h9 => h9) rfl (by decide +kernel) (by decide) (by decide) (Nat.le_of_ble_eq_true rfl) d_Md_flash_92 (fun H locs hP hD hS => ?_)
          have hP : va_P D vwCl (wMd cI cJ cZ h0 h1 h2 h3 h4 h5 h6 h7 h8 h9 h10 h11 h12 h13 h14 h15 h16 h17 h18 h19 h20 h21 h22 h23 0 no ca ba nl xa sa da la ra fa ta ua uh uo ma mh ml (nf + 1) (va_up fo (nf).toNat ob) (va_up fh (nf).toNat hour) (va_up fs (nf).toNat sec) rs 0 mn bh bo ya np pa nc cp) H := hP
          have hD : va_D A (wMd cI cJ cZ h0 h1 h2 h3 h4 h5 h6 h7 h8 h9 h10 h11 h12 h13 h14 h15 h16 h17 h18 h19 h20 h21 h22 h23 0 no ca ba nl xa sa da la ra fa ta ua uh uo ma mh ml (nf + 1) (va_up fo (nf).toNat ob) (va_up fh (nf).toNat hour) (va_up fs (nf).toNat sec) rs 0 mn bh bo ya np pa nc cp) := hD
          refine lv_aload_n hx hb d_Md_flash_95 rfl (lv_at hl 0 rfl) ?_
          refine va_get (D := D) (ci := 8) (v := .int (iI (nf + 1))) (C := "LightDosesModel") (T := T_Md) (N := 32) hx hb hts in_Md hown hK hP 0 rfl rfl 18 (by decide) (hts _ wd_721) (fun _ h9 => h9) rfl d_Md_flash_96 ?_
          have hP9 := hP.sub (ws' := (wMd cI cJ cZ h0 h1 h2 h3 h4 h5 h6 h7 h8 h9 h10 h11 h12 h13 h14 h15 h16 h17 h18 h19 h20 h21 h22 h23 0 no ca ba nl xa sa da la ra fa ta ua uh uo ma mh ml (nf + 1) (va_up fo (nf).toNat ob) (va_up fh (nf).toNat hour) (va_up fs (nf).toNat sec) rs 0 mn bh bo ya np pa nc cp)) [0, 1, 2, 3, 4, 5, 6, 7, 8, 9, 10, 11, 12, 13, 14, 15, 16, 17, 18, 19, 20, 21, 22, 23] rfl
          have hD9 := hD.sub (ws' := (wMd cI cJ cZ h0 h1 h2 h3 h4 h5 h6 h7 h8 h9 h10 h11 h12 h13 h14 h15 h16 h17 h18 h19 h20 h21 h22 h23 0 no ca ba nl xa sa da la ra fa ta ua uh uo ma mh ml (nf + 1) (va_up fo (nf).toNat ob) (va_up fh (nf).toNat hour) (va_up fs (nf).toNat sec) rs 0 mn bh bo ya np pa nc cp)) [0, 1, 2, 3, 4, 5, 6, 7, 8, 9, 10, 11, 12, 13, 14, 15, 16, 17, 18, 19, 20, 21, 22, 23] (by decide) rfl
          exact W.iret hx hb hr (fun t ht hW => ⟨⟨_, ((0), (va_up fo (nf).toNat ob), (va_up fh (nf).toNat hour), (va_up fs (nf).toNat sec), (nf + 1), (0)), rfl, ⟨_, rfl, v⟩, by rw [ht]; exact hP9, va_K.moved hW.alike hK, hD9⟩, hS.F ht⟩) hS.2.2 d_Md_flash_99
        · replace v := v.2 c15
          have hPc := hP.sub (ws' := (wMd cI cJ cZ h0 h1 h2 h3 h4 h5 h6 h7 h8 h9 h10 h11 h12 h13 h14 h15 h16 h17 h18 h19 h20 h21 h22 h23 th no ca ba nl xa sa da la ra fa ta ua uh uo ma mh ml nf fo fh fs rs ic mn bh bo ya np pa nc cp)) [0, 1, 2, 3, 4, 5, 6, 7, 8, 9, 10, 11, 12, 13, 14, 15, 16, 17, 18, 19, 20, 21, 22, 23] rfl
          have hDc := hD.sub (ws' := (wMd cI cJ cZ h0 h1 h2 h3 h4 h5 h6 h7 h8 h9 h10 h11 h12 h13 h14 h15 h16 h17 h18 h19 h20 h21 h22 h23 th no ca ba nl xa sa da la ra fa ta ua uh uo ma mh ml nf fo fh fs rs ic mn bh bo ya np pa nc cp)) [0, 1, 2, 3, 4, 5, 6, 7, 8, 9, 10, 11, 12, 13, 14, 15, 16, 17, 18, 19, 20, 21, 22, 23] (by decide) rfl
          have hFc := va_free (wc := (wMd cI cJ cZ h0 h1 h2 h3 h4 h5 h6 h7 h8 h9 h10 h11 h12 h13 h14 h15 h16 h17 h18 h19 h20 h21 h22 h23 th no ca ba nl xa sa da la ra fa ta ua uh uo ma mh ml nf fo fh fs rs ic mn bh bo ya np pa nc cp)) hD hS hA [0, 1, 2, 3, 4, 5, 6, 7, 8, 9, 10, 11, 12, 13, 14, 15, 16, 17, 18, 19, 20, 21, 22, 23] rfl
          refine va_calli (va_runV (As := [.int (iI 1), .int (iI 1), .int (iI 0)]) (rest := []) ⟨hx, hb, hml, hown, hts⟩ (m_Md_goes l D cI cJ cO cZ h0 h1 h2 h3 h4 h5 h6 h7 h8 h9 h10 h11 h12 h13 h14 h15 h16 h17 h18 h19 h20 h21 h22 h23 H.size th no ca ba nl xa sa da la ra fa ta ua uh uo ma mh ml nf fo fh fs rs ic mn bh bo ya np pa nc cp 1 1 0 (fun z t => z = 0 ∧ t = 3) (s_Md_goes_110 th no ca ba nl xa sa da la ra fa ta ua uh uo ma mh ml nf fo fh fs rs ic mn bh bo ya np pa nc cp)) (nv_cwV (n := 3) hts wd_812 wd_814 sl_17 wd_10 wd_815 (by decide +kernel) ⟨Nat.le_of_ble_eq_true rfl, Nat.le_of_ble_eq_true rfl⟩) ⟨blW, va_recv hK hPc (ci := 8) (q0 := 0) rfl rfl, fun U hU hW => ⟨rfl, by rw [hU], by rw [hU]; exact hPc, va_K.moved hW.alike hK, hDc.weaken (fun _ _ _ _ => trivial)⟩⟩ rfl rfl hl.1 rfl (lv_room (Nat.le_of_ble_eq_true rfl)) d_Md_flash_42 ⟨Nat.le_of_ble_eq_true rfl, Nat.le_of_ble_eq_true rfl⟩) hS (fun q _ h => hFc q h) hFc (fun r u t H1 locs ht hvm hw hB hz1 hk1 hS => ?_)
          obtain ⟨hP1, hK1, hD1⟩ := hB
          rw [ht] at hP1
          obtain ⟨_, rfl, rfl, rfl⟩ := hw
          obtain ⟨hP, hD⟩ := va_join (wr := []) (w1 := (wMd cI cJ cZ h0 h1 h2 h3 h4 h5 h6 h7 h8 h9 h10 h11 h12 h13 h14 h15 h16 h17 h18 h19 h20 h21 h22 h23 3 no ca ba nl xa sa da la ra fa ta ua uh uo ma mh ml nf fo fh fs rs ic mn bh bo ya np pa nc cp)) hP hD [0, 1, 2, 3, 4, 5, 6, 7, 8, 9, 10, 11, 12, 13, 14, 15, 16, 17, 18, 19, 20, 21, 22, 23] [] rfl rfl (by decide) (by decide) hk1 hFc hP1 hD1
          generalize H1 = H at hP hS ⊢
          have hP : va_P D vwCl (wMd cI cJ cZ h0 h1 h2 h3 h4 h5 h6 h7 h8 h9 h10 h11 h12 h13 h14 h15 h16 h17 h18 h19 h20 h21 h22 h23 3 no ca ba nl xa sa da la ra fa ta ua uh uo ma mh ml nf fo fh fs rs ic mn bh bo ya np pa nc cp) H := hP
          have hD : va_D A (wMd cI cJ cZ h0 h1 h2 h3 h4 h5 h6 h7 h8 h9 h10 h11 h12 h13 h14 h15 h16 h17 h18 h19 h20 h21 h22 h23 3 no ca ba nl xa sa da la ra fa ta ua uh uo ma mh ml nf fo fh fs rs ic mn bh bo ya np pa nc cp) := hD
          refine W.widen (k := 0) (n := 0) (Nat.le_of_ble_eq_true rfl) (Nat.le_of_ble_eq_true rfl) ?_
          refine nv_if_ne (tgt := 50) hx hb d_Md_flash_45 (by decide) (by decide) (fun c20 => absurd c20 (by decide)) (fun _ => ?_)
          refine nv_iconst (n := 0) hx hb d_Md_flash_48 ?_
          have hP9 := hP.sub (ws' := (wMd cI cJ cZ h0 h1 h2 h3 h4 h5 h6 h7 h8 h9 h10 h11 h12 h13 h14 h15 h16 h17 h18 h19 h20 h21 h22 h23 3 no ca ba nl xa sa da la ra fa ta ua uh uo ma mh ml nf fo fh fs rs ic mn bh bo ya np pa nc cp)) [0, 1, 2, 3, 4, 5, 6, 7, 8, 9, 10, 11, 12, 13, 14, 15, 16, 17, 18, 19, 20, 21, 22, 23] rfl
          have hD9 := hD.sub (ws' := (wMd cI cJ cZ h0 h1 h2 h3 h4 h5 h6 h7 h8 h9 h10 h11 h12 h13 h14 h15 h16 h17 h18 h19 h20 h21 h22 h23 3 no ca ba nl xa sa da la ra fa ta ua uh uo ma mh ml nf fo fh fs rs ic mn bh bo ya np pa nc cp)) [0, 1, 2, 3, 4, 5, 6, 7, 8, 9, 10, 11, 12, 13, 14, 15, 16, 17, 18, 19, 20, 21, 22, 23] (by decide) rfl
          exact W.iret hx hb hr (fun t ht hW => ⟨⟨_, ((3), (fo), (fh), (fs), (nf), (ic)), rfl, ⟨_, rfl, v⟩, by rw [ht]; exact hP9, va_K.moved hW.alike hK, hD9⟩, hS.F ht⟩) hS.2.2 d_Md_flash_49
    · replace v := v.2 c6
      refine nv_if_eq (tgt := 20) hx hb d_Md_flash_13 (by decide) (by decide) (fun _ => ?_) (fun c21 => absurd c21 (by decide))
      refine nv_iconst (n := 0) hx hb d_Md_flash_20 ?_
      refine lv_aload_n hx hb d_Md_flash_21 rfl (lv_at hl 0 rfl) ?_
      refine va_get (D := D) (ci := 8) (v := .int (iI nf)) (C := "LightDosesModel") (T := T_Md) (N := 32) hx hb hts in_Md hown hK hP 0 rfl rfl 18 (by decide) (hts _ wd_721) (fun _ h9 => h9) rfl d_Md_flash_22 ?_
      refine nv_bipush (z := 40) hx hb d_Md_flash_25 (by decide) ?_
      obtain ⟨k22, v⟩ := v
      refine nv_icmp_ge (tgt := 34) hx hb d_Md_flash_27 (by decide) k22 (by decide) (fun c23 => ?_) (fun c23 => ?_)
      · replace v := v.1 c23
        refine nv_iconst (n := 0) hx hb d_Md_flash_34 ?_
        refine lv_iload_n hx hb d_Md_flash_35 rfl (lv_at hl 3 rfl) ?_
        refine nv_iconst (n := 0) hx hb d_Md_flash_36 ?_
        refine nv_ldc (z := 1000000000) hx hb hown (hts _ wd_820) (by decide) d_Md_flash_37 ?_
        obtain ⟨k24, v⟩ := v
        refine vp_callSi (nv_runS (wc := []) (As := [.int (iI sec), .int (iI 0), .int (iI 1000000000)]) (rest := [.int (iI 0), .int (iI 0), .ref h0]) ⟨hx, hb, hml, hown, hts⟩ (m_Md_within l D cI cJ cO cZ sec 0 1000000000 (fun z => (z = 1 ∧ (0 ≤ sec ∧ sec ≤ 1000000000)) ∨ (z = 0 ∧ ¬ (0 ≤ sec ∧ sec ≤ 1000000000))) (s_Md_within sec 0 1000000000 k24 (by decide) (by decide))) (nv_cwS (n := 3) hts wd_809 wd_810 wd_10 wd_811 (by decide +kernel) ⟨Nat.le_of_ble_eq_true rfl, Nat.le_of_ble_eq_true rfl⟩) hK (hP.sub [] rfl) rfl hl.1 rfl (Nat.le_of_ble_eq_true rfl) d_Md_flash_39 (Nat.le_of_ble_eq_true rfl) (Nat.le_of_ble_eq_true rfl)) (fun r hr => ?_)
        rcases hr with ⟨_, rfl, ⟨rfl, c25⟩ | ⟨rfl, c25⟩⟩
        · replace v := v.1 c25
          have hPc := hP.sub (ws' := (wMd cI cJ cZ h0 h1 h2 h3 h4 h5 h6 h7 h8 h9 h10 h11 h12 h13 h14 h15 h16 h17 h18 h19 h20 h21 h22 h23 th no ca ba nl xa sa da la ra fa ta ua uh uo ma mh ml nf fo fh fs rs ic mn bh bo ya np pa nc cp)) [0, 1, 2, 3, 4, 5, 6, 7, 8, 9, 10, 11, 12, 13, 14, 15, 16, 17, 18, 19, 20, 21, 22, 23] rfl
          have hDc := hD.sub (ws' := (wMd cI cJ cZ h0 h1 h2 h3 h4 h5 h6 h7 h8 h9 h10 h11 h12 h13 h14 h15 h16 h17 h18 h19 h20 h21 h22 h23 th no ca ba nl xa sa da la ra fa ta ua uh uo ma mh ml nf fo fh fs rs ic mn bh bo ya np pa nc cp)) [0, 1, 2, 3, 4, 5, 6, 7, 8, 9, 10, 11, 12, 13, 14, 15, 16, 17, 18, 19, 20, 21, 22, 23] (by decide) rfl
          have hFc := va_free (wc := (wMd cI cJ cZ h0 h1 h2 h3 h4 h5 h6 h7 h8 h9 h10 h11 h12 h13 h14 h15 h16 h17 h18 h19 h20 h21 h22 h23 th no ca ba nl xa sa da la ra fa ta ua uh uo ma mh ml nf fo fh fs rs ic mn bh bo ya np pa nc cp)) hD hS hA [0, 1, 2, 3, 4, 5, 6, 7, 8, 9, 10, 11, 12, 13, 14, 15, 16, 17, 18, 19, 20, 21, 22, 23] rfl
          refine va_calli (va_runV (As := [.int (iI 0), .int (iI 0), .int (iI 1)]) (rest := []) ⟨hx, hb, hml, hown, hts⟩ (m_Md_goes l D cI cJ cO cZ h0 h1 h2 h3 h4 h5 h6 h7 h8 h9 h10 h11 h12 h13 h14 h15 h16 h17 h18 h19 h20 h21 h22 h23 H.size th no ca ba nl xa sa da la ra fa ta ua uh uo ma mh ml nf fo fh fs rs ic mn bh bo ya np pa nc cp 0 0 1 (fun z t => z = 0 ∧ t = 1) (s_Md_goes_001 th no ca ba nl xa sa da la ra fa ta ua uh uo ma mh ml nf fo fh fs rs ic mn bh bo ya np pa nc cp)) (nv_cwV (n := 3) hts wd_812 wd_814 sl_17 wd_10 wd_815 (by decide +kernel) ⟨Nat.le_of_ble_eq_true rfl, Nat.le_of_ble_eq_true rfl⟩) ⟨blW, va_recv hK hPc (ci := 8) (q0 := 0) rfl rfl, fun U hU hW => ⟨rfl, by rw [hU], by rw [hU]; exact hPc, va_K.moved hW.alike hK, hDc.weaken (fun _ _ _ _ => trivial)⟩⟩ rfl rfl hl.1 rfl (lv_room (Nat.le_of_ble_eq_true rfl)) d_Md_flash_42 ⟨Nat.le_of_ble_eq_true rfl, Nat.le_of_ble_eq_true rfl⟩) hS (fun q _ h => hFc q h) hFc (fun r u t H1 locs ht hvm hw hB hz1 hk1 hS => ?_)
          obtain ⟨hP1, hK1, hD1⟩ := hB
          rw [ht] at hP1
          obtain ⟨_, rfl, rfl, rfl⟩ := hw
          obtain ⟨hP, hD⟩ := va_join (wr := []) (w1 := (wMd cI cJ cZ h0 h1 h2 h3 h4 h5 h6 h7 h8 h9 h10 h11 h12 h13 h14 h15 h16 h17 h18 h19 h20 h21 h22 h23 1 no ca ba nl xa sa da la ra fa ta ua uh uo ma mh ml nf fo fh fs rs ic mn bh bo ya np pa nc cp)) hP hD [0, 1, 2, 3, 4, 5, 6, 7, 8, 9, 10, 11, 12, 13, 14, 15, 16, 17, 18, 19, 20, 21, 22, 23] [] rfl rfl (by decide) (by decide) hk1 hFc hP1 hD1
          generalize H1 = H at hP hS ⊢
          have hP : va_P D vwCl (wMd cI cJ cZ h0 h1 h2 h3 h4 h5 h6 h7 h8 h9 h10 h11 h12 h13 h14 h15 h16 h17 h18 h19 h20 h21 h22 h23 1 no ca ba nl xa sa da la ra fa ta ua uh uo ma mh ml nf fo fh fs rs ic mn bh bo ya np pa nc cp) H := hP
          have hD : va_D A (wMd cI cJ cZ h0 h1 h2 h3 h4 h5 h6 h7 h8 h9 h10 h11 h12 h13 h14 h15 h16 h17 h18 h19 h20 h21 h22 h23 1 no ca ba nl xa sa da la ra fa ta ua uh uo ma mh ml nf fo fh fs rs ic mn bh bo ya np pa nc cp) := hD
          refine W.widen (k := 0) (n := 0) (Nat.le_of_ble_eq_true rfl) (Nat.le_of_ble_eq_true rfl) ?_
          refine nv_if_ne (tgt := 50) hx hb d_Md_flash_45 (by decide) (by decide) (fun c26 => absurd c26 (by decide)) (fun _ => ?_)
          refine nv_iconst (n := 0) hx hb d_Md_flash_48 ?_
          have hP9 := hP.sub (ws' := (wMd cI cJ cZ h0 h1 h2 h3 h4 h5 h6 h7 h8 h9 h10 h11 h12 h13 h14 h15 h16 h17 h18 h19 h20 h21 h22 h23 1 no ca ba nl xa sa da la ra fa ta ua uh uo ma mh ml nf fo fh fs rs ic mn bh bo ya np pa nc cp)) [0, 1, 2, 3, 4, 5, 6, 7, 8, 9, 10, 11, 12, 13, 14, 15, 16, 17, 18, 19, 20, 21, 22, 23] rfl
          have hD9 := hD.sub (ws' := (wMd cI cJ cZ h0 h1 h2 h3 h4 h5 h6 h7 h8 h9 h10 h11 h12 h13 h14 h15 h16 h17 h18 h19 h20 h21 h22 h23 1 no ca ba nl xa sa da la ra fa ta ua uh uo ma mh ml nf fo fh fs rs ic mn bh bo ya np pa nc cp)) [0, 1, 2, 3, 4, 5, 6, 7, 8, 9, 10, 11, 12, 13, 14, 15, 16, 17, 18, 19, 20, 21, 22, 23] (by decide) rfl
          exact W.iret hx hb hr (fun t ht hW => ⟨⟨_, ((1), (fo), (fh), (fs), (nf), (ic)), rfl, ⟨_, rfl, v⟩, by rw [ht]; exact hP9, va_K.moved hW.alike hK, hD9⟩, hS.F ht⟩) hS.2.2 d_Md_flash_49
        · replace v := v.2 c25
          have hPc := hP.sub (ws' := (wMd cI cJ cZ h0 h1 h2 h3 h4 h5 h6 h7 h8 h9 h10 h11 h12 h13 h14 h15 h16 h17 h18 h19 h20 h21 h22 h23 th no ca ba nl xa sa da la ra fa ta ua uh uo ma mh ml nf fo fh fs rs ic mn bh bo ya np pa nc cp)) [0, 1, 2, 3, 4, 5, 6, 7, 8, 9, 10, 11, 12, 13, 14, 15, 16, 17, 18, 19, 20, 21, 22, 23] rfl
          have hDc := hD.sub (ws' := (wMd cI cJ cZ h0 h1 h2 h3 h4 h5 h6 h7 h8 h9 h10 h11 h12 h13 h14 h15 h16 h17 h18 h19 h20 h21 h22 h23 th no ca ba nl xa sa da la ra fa ta ua uh uo ma mh ml nf fo fh fs rs ic mn bh bo ya np pa nc cp)) [0, 1, 2, 3, 4, 5, 6, 7, 8, 9, 10, 11, 12, 13, 14, 15, 16, 17, 18, 19, 20, 21, 22, 23] (by decide) rfl
          have hFc := va_free (wc := (wMd cI cJ cZ h0 h1 h2 h3 h4 h5 h6 h7 h8 h9 h10 h11 h12 h13 h14 h15 h16 h17 h18 h19 h20 h21 h22 h23 th no ca ba nl xa sa da la ra fa ta ua uh uo ma mh ml nf fo fh fs rs ic mn bh bo ya np pa nc cp)) hD hS hA [0, 1, 2, 3, 4, 5, 6, 7, 8, 9, 10, 11, 12, 13, 14, 15, 16, 17, 18, 19, 20, 21, 22, 23] rfl
          refine va_calli (va_runV (As := [.int (iI 0), .int (iI 0), .int (iI 0)]) (rest := []) ⟨hx, hb, hml, hown, hts⟩ (m_Md_goes l D cI cJ cO cZ h0 h1 h2 h3 h4 h5 h6 h7 h8 h9 h10 h11 h12 h13 h14 h15 h16 h17 h18 h19 h20 h21 h22 h23 H.size th no ca ba nl xa sa da la ra fa ta ua uh uo ma mh ml nf fo fh fs rs ic mn bh bo ya np pa nc cp 0 0 0 (fun z t => z = 0 ∧ t = 1) (s_Md_goes_000 th no ca ba nl xa sa da la ra fa ta ua uh uo ma mh ml nf fo fh fs rs ic mn bh bo ya np pa nc cp)) (nv_cwV (n := 3) hts wd_812 wd_814 sl_17 wd_10 wd_815 (by decide +kernel) ⟨Nat.le_of_ble_eq_true rfl, Nat.le_of_ble_eq_true rfl⟩) ⟨blW, va_recv hK hPc (ci := 8) (q0 := 0) rfl rfl, fun U hU hW => ⟨rfl, by rw [hU], by rw [hU]; exact hPc, va_K.moved hW.alike hK, hDc.weaken (fun _ _ _ _ => trivial)⟩⟩ rfl rfl hl.1 rfl (lv_room (Nat.le_of_ble_eq_true rfl)) d_Md_flash_42 ⟨Nat.le_of_ble_eq_true rfl, Nat.le_of_ble_eq_true rfl⟩) hS (fun q _ h => hFc q h) hFc (fun r u t H1 locs ht hvm hw hB hz1 hk1 hS => ?_)
          obtain ⟨hP1, hK1, hD1⟩ := hB
          rw [ht] at hP1
          obtain ⟨_, rfl, rfl, rfl⟩ := hw
          obtain ⟨hP, hD⟩ := va_join (wr := []) (w1 := (wMd cI cJ cZ h0 h1 h2 h3 h4 h5 h6 h7 h8 h9 h10 h11 h12 h13 h14 h15 h16 h17 h18 h19 h20 h21 h22 h23 1 no ca ba nl xa sa da la ra fa ta ua uh uo ma mh ml nf fo fh fs rs ic mn bh bo ya np pa nc cp)) hP hD [0, 1, 2, 3, 4, 5, 6, 7, 8, 9, 10, 11, 12, 13, 14, 15, 16, 17, 18, 19, 20, 21, 22, 23] [] rfl rfl (by decide) (by decide) hk1 hFc hP1 hD1
          generalize H1 = H at hP hS ⊢
          have hP : va_P D vwCl (wMd cI cJ cZ h0 h1 h2 h3 h4 h5 h6 h7 h8 h9 h10 h11 h12 h13 h14 h15 h16 h17 h18 h19 h20 h21 h22 h23 1 no ca ba nl xa sa da la ra fa ta ua uh uo ma mh ml nf fo fh fs rs ic mn bh bo ya np pa nc cp) H := hP
          have hD : va_D A (wMd cI cJ cZ h0 h1 h2 h3 h4 h5 h6 h7 h8 h9 h10 h11 h12 h13 h14 h15 h16 h17 h18 h19 h20 h21 h22 h23 1 no ca ba nl xa sa da la ra fa ta ua uh uo ma mh ml nf fo fh fs rs ic mn bh bo ya np pa nc cp) := hD
          refine W.widen (k := 0) (n := 0) (Nat.le_of_ble_eq_true rfl) (Nat.le_of_ble_eq_true rfl) ?_
          refine nv_if_ne (tgt := 50) hx hb d_Md_flash_45 (by decide) (by decide) (fun c27 => absurd c27 (by decide)) (fun _ => ?_)
          refine nv_iconst (n := 0) hx hb d_Md_flash_48 ?_
          have hP9 := hP.sub (ws' := (wMd cI cJ cZ h0 h1 h2 h3 h4 h5 h6 h7 h8 h9 h10 h11 h12 h13 h14 h15 h16 h17 h18 h19 h20 h21 h22 h23 1 no ca ba nl xa sa da la ra fa ta ua uh uo ma mh ml nf fo fh fs rs ic mn bh bo ya np pa nc cp)) [0, 1, 2, 3, 4, 5, 6, 7, 8, 9, 10, 11, 12, 13, 14, 15, 16, 17, 18, 19, 20, 21, 22, 23] rfl
          have hD9 := hD.sub (ws' := (wMd cI cJ cZ h0 h1 h2 h3 h4 h5 h6 h7 h8 h9 h10 h11 h12 h13 h14 h15 h16 h17 h18 h19 h20 h21 h22 h23 1 no ca ba nl xa sa da la ra fa ta ua uh uo ma mh ml nf fo fh fs rs ic mn bh bo ya np pa nc cp)) [0, 1, 2, 3, 4, 5, 6, 7, 8, 9, 10, 11, 12, 13, 14, 15, 16, 17, 18, 19, 20, 21, 22, 23] (by decide) rfl
          exact W.iret hx hb hr (fun t ht hW => ⟨⟨_, ((1), (fo), (fh), (fs), (nf), (ic)), rfl, ⟨_, rfl, v⟩, by rw [ht]; exact hP9, va_K.moved hW.alike hK, hD9⟩, hS.F ht⟩) hS.2.2 d_Md_flash_49
      · replace v := v.2 c23
        refine nv_iconst (n := 1) hx hb d_Md_flash_30 ?_
        refine lv_goto (tgt := 35) hx hb d_Md_flash_31 (by decide) ?_
        refine lv_iload_n hx hb d_Md_flash_35 rfl (lv_at hl 3 rfl) ?_
        refine nv_iconst (n := 0) hx hb d_Md_flash_36 ?_
        refine nv_ldc (z := 1000000000) hx hb hown (hts _ wd_820) (by decide) d_Md_flash_37 ?_
        obtain ⟨k28, v⟩ := v
        refine vp_callSi (nv_runS (wc := []) (As := [.int (iI sec), .int (iI 0), .int (iI 1000000000)]) (rest := [.int (iI 1), .int (iI 0), .ref h0]) ⟨hx, hb, hml, hown, hts⟩ (m_Md_within l D cI cJ cO cZ sec 0 1000000000 (fun z => (z = 1 ∧ (0 ≤ sec ∧ sec ≤ 1000000000)) ∨ (z = 0 ∧ ¬ (0 ≤ sec ∧ sec ≤ 1000000000))) (s_Md_within sec 0 1000000000 k28 (by decide) (by decide))) (nv_cwS (n := 3) hts wd_809 wd_810 wd_10 wd_811 (by decide +kernel) ⟨Nat.le_of_ble_eq_true rfl, Nat.le_of_ble_eq_true rfl⟩) hK (hP.sub [] rfl) rfl hl.1 rfl (Nat.le_of_ble_eq_true rfl) d_Md_flash_39 (Nat.le_of_ble_eq_true rfl) (Nat.le_of_ble_eq_true rfl)) (fun r hr => ?_)
        rcases hr with ⟨_, rfl, ⟨rfl, c29⟩ | ⟨rfl, c29⟩⟩
        · replace v := v.1 c29
          have hPc := hP.sub (ws' := (wMd cI cJ cZ h0 h1 h2 h3 h4 h5 h6 h7 h8 h9 h10 h11 h12 h13 h14 h15 h16 h17 h18 h19 h20 h21 h22 h23 th no ca ba nl xa sa da la ra fa ta ua uh uo ma mh ml nf fo fh fs rs ic mn bh bo ya np pa nc cp)) [0, 1, 2, 3, 4, 5, 6, 7, 8, 9, 10, 11, 12, 13, 14, 15, 16, 17, 18, 19, 20, 21, 22, 23] rfl
          have hDc := hD.sub (ws' := (wMd cI cJ cZ h0 h1 h2 h3 h4 h5 h6 h7 h8 h9 h10 h11 h12 h13 h14 h15 h16 h17 h18 h19 h20 h21 h22 h23 th no ca ba nl xa sa da la ra fa ta ua uh uo ma mh ml nf fo fh fs rs ic mn bh bo ya np pa nc cp)) [0, 1, 2, 3, 4, 5, 6, 7, 8, 9, 10, 11, 12, 13, 14, 15, 16, 17, 18, 19, 20, 21, 22, 23] (by decide) rfl
          have hFc := va_free (wc := (wMd cI cJ cZ h0 h1 h2 h3 h4 h5 h6 h7 h8 h9 h10 h11 h12 h13 h14 h15 h16 h17 h18 h19 h20 h21 h22 h23 th no ca ba nl xa sa da la ra fa ta ua uh uo ma mh ml nf fo fh fs rs ic mn bh bo ya np pa nc cp)) hD hS hA [0, 1, 2, 3, 4, 5, 6, 7, 8, 9, 10, 11, 12, 13, 14, 15, 16, 17, 18, 19, 20, 21, 22, 23] rfl
          refine va_calli (va_runV (As := [.int (iI 0), .int (iI 1), .int (iI 1)]) (rest := []) ⟨hx, hb, hml, hown, hts⟩ (m_Md_goes l D cI cJ cO cZ h0 h1 h2 h3 h4 h5 h6 h7 h8 h9 h10 h11 h12 h13 h14 h15 h16 h17 h18 h19 h20 h21 h22 h23 H.size th no ca ba nl xa sa da la ra fa ta ua uh uo ma mh ml nf fo fh fs rs ic mn bh bo ya np pa nc cp 0 1 1 (fun z t => z = 0 ∧ t = 1) (s_Md_goes_011 th no ca ba nl xa sa da la ra fa ta ua uh uo ma mh ml nf fo fh fs rs ic mn bh bo ya np pa nc cp)) (nv_cwV (n := 3) hts wd_812 wd_814 sl_17 wd_10 wd_815 (by decide +kernel) ⟨Nat.le_of_ble_eq_true rfl, Nat.le_of_ble_eq_true rfl⟩) ⟨blW, va_recv hK hPc (ci := 8) (q0 := 0) rfl rfl, fun U hU hW => ⟨rfl, by rw [hU], by rw [hU]; exact hPc, va_K.moved hW.alike hK, hDc.weaken (fun _ _ _ _ => trivial)⟩⟩ rfl rfl hl.1 rfl (lv_room (Nat.le_of_ble_eq_true rfl)) d_Md_flash_42 ⟨Nat.le_of_ble_eq_true rfl, Nat.le_of_ble_eq_true rfl⟩) hS (fun q _ h => hFc q h) hFc (fun r u t H1 locs ht hvm hw hB hz1 hk1 hS => ?_)
          obtain ⟨hP1, hK1, hD1⟩ := hB
          rw [ht] at hP1
          obtain ⟨_, rfl, rfl, rfl⟩ := hw
          obtain ⟨hP, hD⟩ := va_join (wr := []) (w1 := (wMd cI cJ cZ h0 h1 h2 h3 h4 h5 h6 h7 h8 h9 h10 h11 h12 h13 h14 h15 h16 h17 h18 h19 h20 h21 h22 h23 1 no ca ba nl xa sa da la ra fa ta ua uh uo ma mh ml nf fo fh fs rs ic mn bh bo ya np pa nc cp)) hP hD [0, 1, 2, 3, 4, 5, 6, 7, 8, 9, 10, 11, 12, 13, 14, 15, 16, 17, 18, 19, 20, 21, 22, 23] [] rfl rfl (by decide) (by decide) hk1 hFc hP1 hD1
          generalize H1 = H at hP hS ⊢
          have hP : va_P D vwCl (wMd cI cJ cZ h0 h1 h2 h3 h4 h5 h6 h7 h8 h9 h10 h11 h12 h13 h14 h15 h16 h17 h18 h19 h20 h21 h22 h23 1 no ca ba nl xa sa da la ra fa ta ua uh uo ma mh ml nf fo fh fs rs ic mn bh bo ya np pa nc cp) H := hP
          have hD : va_D A (wMd cI cJ cZ h0 h1 h2 h3 h4 h5 h6 h7 h8 h9 h10 h11 h12 h13 h14 h15 h16 h17 h18 h19 h20 h21 h22 h23 1 no ca ba nl xa sa da la ra fa ta ua uh uo ma mh ml nf fo fh fs rs ic mn bh bo ya np pa nc cp) := hD
          refine W.widen (k := 0) (n := 0) (Nat.le_of_ble_eq_true rfl) (Nat.le_of_ble_eq_true rfl) ?_
          refine nv_if_ne (tgt := 50) hx hb d_Md_flash_45 (by decide) (by decide) (fun c30 => absurd c30 (by decide)) (fun _ => ?_)
          refine nv_iconst (n := 0) hx hb d_Md_flash_48 ?_
          have hP9 := hP.sub (ws' := (wMd cI cJ cZ h0 h1 h2 h3 h4 h5 h6 h7 h8 h9 h10 h11 h12 h13 h14 h15 h16 h17 h18 h19 h20 h21 h22 h23 1 no ca ba nl xa sa da la ra fa ta ua uh uo ma mh ml nf fo fh fs rs ic mn bh bo ya np pa nc cp)) [0, 1, 2, 3, 4, 5, 6, 7, 8, 9, 10, 11, 12, 13, 14, 15, 16, 17, 18, 19, 20, 21, 22, 23] rfl
          have hD9 := hD.sub (ws' := (wMd cI cJ cZ h0 h1 h2 h3 h4 h5 h6 h7 h8 h9 h10 h11 h12 h13 h14 h15 h16 h17 h18 h19 h20 h21 h22 h23 1 no ca ba nl xa sa da la ra fa ta ua uh uo ma mh ml nf fo fh fs rs ic mn bh bo ya np pa nc cp)) [0, 1, 2, 3, 4, 5, 6, 7, 8, 9, 10, 11, 12, 13, 14, 15, 16, 17, 18, 19, 20, 21, 22, 23] (by decide) rfl
          exact W.iret hx hb hr (fun t ht hW => ⟨⟨_, ((1), (fo), (fh), (fs), (nf), (ic)), rfl, ⟨_, rfl, v⟩, by rw [ht]; exact hP9, va_K.moved hW.alike hK, hD9⟩, hS.F ht⟩) hS.2.2 d_Md_flash_49
        · replace v := v.2 c29
          have hPc := hP.sub (ws' := (wMd cI cJ cZ h0 h1 h2 h3 h4 h5 h6 h7 h8 h9 h10 h11 h12 h13 h14 h15 h16 h17 h18 h19 h20 h21 h22 h23 th no ca ba nl xa sa da la ra fa ta ua uh uo ma mh ml nf fo fh fs rs ic mn bh bo ya np pa nc cp)) [0, 1, 2, 3, 4, 5, 6, 7, 8, 9, 10, 11, 12, 13, 14, 15, 16, 17, 18, 19, 20, 21, 22, 23] rfl
          have hDc := hD.sub (ws' := (wMd cI cJ cZ h0 h1 h2 h3 h4 h5 h6 h7 h8 h9 h10 h11 h12 h13 h14 h15 h16 h17 h18 h19 h20 h21 h22 h23 th no ca ba nl xa sa da la ra fa ta ua uh uo ma mh ml nf fo fh fs rs ic mn bh bo ya np pa nc cp)) [0, 1, 2, 3, 4, 5, 6, 7, 8, 9, 10, 11, 12, 13, 14, 15, 16, 17, 18, 19, 20, 21, 22, 23] (by decide) rfl
          have hFc := va_free (wc := (wMd cI cJ cZ h0 h1 h2 h3 h4 h5 h6 h7 h8 h9 h10 h11 h12 h13 h14 h15 h16 h17 h18 h19 h20 h21 h22 h23 th no ca ba nl xa sa da la ra fa ta ua uh uo ma mh ml nf fo fh fs rs ic mn bh bo ya np pa nc cp)) hD hS hA [0, 1, 2, 3, 4, 5, 6, 7, 8, 9, 10, 11, 12, 13, 14, 15, 16, 17, 18, 19, 20, 21, 22, 23] rfl
          refine va_calli (va_runV (As := [.int (iI 0), .int (iI 1), .int (iI 0)]) (rest := []) ⟨hx, hb, hml, hown, hts⟩ (m_Md_goes l D cI cJ cO cZ h0 h1 h2 h3 h4 h5 h6 h7 h8 h9 h10 h11 h12 h13 h14 h15 h16 h17 h18 h19 h20 h21 h22 h23 H.size th no ca ba nl xa sa da la ra fa ta ua uh uo ma mh ml nf fo fh fs rs ic mn bh bo ya np pa nc cp 0 1 0 (fun z t => z = 0 ∧ t = 1) (s_Md_goes_010 th no ca ba nl xa sa da la ra fa ta ua uh uo ma mh ml nf fo fh fs rs ic mn bh bo ya np pa nc cp)) (nv_cwV (n := 3) hts wd_812 wd_814 sl_17 wd_10 wd_815 (by decide +kernel) ⟨Nat.le_of_ble_eq_true rfl, Nat.le_of_ble_eq_true rfl⟩) ⟨blW, va_recv hK hPc (ci := 8) (q0 := 0) rfl rfl, fun U hU hW => ⟨rfl, by rw [hU], by rw [hU]; exact hPc, va_K.moved hW.alike hK, hDc.weaken (fun _ _ _ _ => trivial)⟩⟩ rfl rfl hl.1 rfl (lv_room (Nat.le_of_ble_eq_true rfl)) d_Md_flash_42 ⟨Nat.le_of_ble_eq_true rfl, Nat.le_of_ble_eq_true rfl⟩) hS (fun q _ h => hFc q h) hFc (fun r u t H1 locs ht hvm hw hB hz1 hk1 hS => ?_)
          obtain ⟨hP1, hK1, hD1⟩ := hB
          rw [ht] at hP1
          obtain ⟨_, rfl, rfl, rfl⟩ := hw
          obtain ⟨hP, hD⟩ := va_join (wr := []) (w1 := (wMd cI cJ cZ h0 h1 h2 h3 h4 h5 h6 h7 h8 h9 h10 h11 h12 h13 h14 h15 h16 h17 h18 h19 h20 h21 h22 h23 1 no ca ba nl xa sa da la ra fa ta ua uh uo ma mh ml nf fo fh fs rs ic mn bh bo ya np pa nc cp)) hP hD [0, 1, 2, 3, 4, 5, 6, 7, 8, 9, 10, 11, 12, 13, 14, 15, 16, 17, 18, 19, 20, 21, 22, 23] [] rfl rfl (by decide) (by decide) hk1 hFc hP1 hD1
          generalize H1 = H at hP hS ⊢
          have hP : va_P D vwCl (wMd cI cJ cZ h0 h1 h2 h3 h4 h5 h6 h7 h8 h9 h10 h11 h12 h13 h14 h15 h16 h17 h18 h19 h20 h21 h22 h23 1 no ca ba nl xa sa da la ra fa ta ua uh uo ma mh ml nf fo fh fs rs ic mn bh bo ya np pa nc cp) H := hP
          have hD : va_D A (wMd cI cJ cZ h0 h1 h2 h3 h4 h5 h6 h7 h8 h9 h10 h11 h12 h13 h14 h15 h16 h17 h18 h19 h20 h21 h22 h23 1 no ca ba nl xa sa da la ra fa ta ua uh uo ma mh ml nf fo fh fs rs ic mn bh bo ya np pa nc cp) := hD
          refine W.widen (k := 0) (n := 0) (Nat.le_of_ble_eq_true rfl) (Nat.le_of_ble_eq_true rfl) ?_
          refine nv_if_ne (tgt := 50) hx hb d_Md_flash_45 (by decide) (by decide) (fun c31 => absurd c31 (by decide)) (fun _ => ?_)
          refine nv_iconst (n := 0) hx hb d_Md_flash_48 ?_
          have hP9 := hP.sub (ws' := (wMd cI cJ cZ h0 h1 h2 h3 h4 h5 h6 h7 h8 h9 h10 h11 h12 h13 h14 h15 h16 h17 h18 h19 h20 h21 h22 h23 1 no ca ba nl xa sa da la ra fa ta ua uh uo ma mh ml nf fo fh fs rs ic mn bh bo ya np pa nc cp)) [0, 1, 2, 3, 4, 5, 6, 7, 8, 9, 10, 11, 12, 13, 14, 15, 16, 17, 18, 19, 20, 21, 22, 23] rfl
          have hD9 := hD.sub (ws' := (wMd cI cJ cZ h0 h1 h2 h3 h4 h5 h6 h7 h8 h9 h10 h11 h12 h13 h14 h15 h16 h17 h18 h19 h20 h21 h22 h23 1 no ca ba nl xa sa da la ra fa ta ua uh uo ma mh ml nf fo fh fs rs ic mn bh bo ya np pa nc cp)) [0, 1, 2, 3, 4, 5, 6, 7, 8, 9, 10, 11, 12, 13, 14, 15, 16, 17, 18, 19, 20, 21, 22, 23] (by decide) rfl
          exact W.iret hx hb hr (fun t ht hW => ⟨⟨_, ((1), (fo), (fh), (fs), (nf), (ic)), rfl, ⟨_, rfl, v⟩, by rw [ht]; exact hP9, va_K.moved hW.alike hK, hD9⟩, hS.F ht⟩) hS.2.2 d_Md_flash_49
  · replace v := v.2 c3
    refine nv_if_eq (tgt := 20) hx hb d_Md_flash_6 (by decide) (by decide) (fun _ => ?_) (fun c32 => absurd c32 (by decide))
    refine nv_iconst (n := 0) hx hb d_Md_flash_20 ?_
    refine lv_aload_n hx hb d_Md_flash_21 rfl (lv_at hl 0 rfl) ?_
    refine va_get (D := D) (ci := 8) (v := .int (iI nf)) (C := "LightDosesModel") (T := T_Md) (N := 32) hx hb hts in_Md hown hK hP 0 rfl rfl 18 (by decide) (hts _ wd_721) (fun _ h9 => h9) rfl d_Md_flash_22 ?_
    refine nv_bipush (z := 40) hx hb d_Md_flash_25 (by decide) ?_
    obtain ⟨k33, v⟩ := v
    refine nv_icmp_ge (tgt := 34) hx hb d_Md_flash_27 (by decide) k33 (by decide) (fun c34 => ?_) (fun c34 => ?_)
    · replace v := v.1 c34
      refine nv_iconst (n := 0) hx hb d_Md_flash_34 ?_
      refine lv_iload_n hx hb d_Md_flash_35 rfl (lv_at hl 3 rfl) ?_
      refine nv_iconst (n := 0) hx hb d_Md_flash_36 ?_
      refine nv_ldc (z := 1000000000) hx hb hown (hts _ wd_820) (by decide) d_Md_flash_37 ?_
      obtain ⟨k35, v⟩ := v
      refine vp_callSi (nv_runS (wc := []) (As := [.int (iI sec), .int (iI 0), .int (iI 1000000000)]) (rest := [.int (iI 0), .int (iI 0), .ref h0]) ⟨hx, hb, hml, hown, hts⟩ (m_Md_within l D cI cJ cO cZ sec 0 1000000000 (fun z => (z = 1 ∧ (0 ≤ sec ∧ sec ≤ 1000000000)) ∨ (z = 0 ∧ ¬ (0 ≤ sec ∧ sec ≤ 1000000000))) (s_Md_within sec 0 1000000000 k35 (by decide) (by decide))) (nv_cwS (n := 3) hts wd_809 wd_810 wd_10 wd_811 (by decide +kernel) ⟨Nat.le_of_ble_eq_true rfl, Nat.le_of_ble_eq_true rfl⟩) hK (hP.sub [] rfl) rfl hl.1 rfl (Nat.le_of_ble_eq_true rfl) d_Md_flash_39 (Nat.le_of_ble_eq_true rfl) (Nat.le_of_ble_eq_true rfl)) (fun r hr => ?_)
      rcases hr with ⟨_, rfl, ⟨rfl, c36⟩ | ⟨rfl, c36⟩⟩
      · replace v := v.1 c36
        have hPc := hP.sub (ws' := (wMd cI cJ cZ h0 h1 h2 h3 h4 h5 h6 h7 h8 h9 h10 h11 h12 h13 h14 h15 h16 h17 h18 h19 h20 h21 h22 h23 th no ca ba nl xa sa da la ra fa ta ua uh uo ma mh ml nf fo fh fs rs ic mn bh bo ya np pa nc cp)) [0, 1, 2, 3, 4, 5, 6, 7, 8, 9, 10, 11, 12, 13, 14, 15, 16, 17, 18, 19, 20, 21, 22, 23] rfl
        have hDc := hD.sub (ws' := (wMd cI cJ cZ h0 h1 h2 h3 h4 h5 h6 h7 h8 h9 h10 h11 h12 h13 h14 h15 h16 h17 h18 h19 h20 h21 h22 h23 th no ca ba nl xa sa da la ra fa ta ua uh uo ma mh ml nf fo fh fs rs ic mn bh bo ya np pa nc cp)) [0, 1, 2, 3, 4, 5, 6, 7, 8, 9, 10, 11, 12, 13, 14, 15, 16, 17, 18, 19, 20, 21, 22, 23] (by decide) rfl
        have hFc := va_free (wc := (wMd cI cJ cZ h0 h1 h2 h3 h4 h5 h6 h7 h8 h9 h10 h11 h12 h13 h14 h15 h16 h17 h18 h19 h20 h21 h22 h23 th no ca ba nl xa sa da la ra fa ta ua uh uo ma mh ml nf fo fh fs rs ic mn bh bo ya np pa nc cp)) hD hS hA [0, 1, 2, 3, 4, 5, 6, 7, 8, 9, 10, 11, 12, 13, 14, 15, 16, 17, 18, 19, 20, 21, 22, 23] rfl
        refine va_calli (va_runV (As := [.int (iI 0), .int (iI 0), .int (iI 1)]) (rest := []) ⟨hx, hb, hml, hown, hts⟩ (m_Md_goes l D cI cJ cO cZ h0 h1 h2 h3 h4 h5 h6 h7 h8 h9 h10 h11 h12 h13 h14 h15 h16 h17 h18 h19 h20 h21 h22 h23 H.size th no ca ba nl xa sa da la ra fa ta ua uh uo ma mh ml nf fo fh fs rs ic mn bh bo ya np pa nc cp 0 0 1 (fun z t => z = 0 ∧ t = 1) (s_Md_goes_001 th no ca ba nl xa sa da la ra fa ta ua uh uo ma mh ml nf fo fh fs rs ic mn bh bo ya np pa nc cp)) (nv_cwV (n := 3) hts wd_812 wd_814 sl_17 wd_10 wd_815 (by decide +kernel) ⟨Nat.le_of_ble_eq_true rfl, Nat.le_of_ble_eq_true rfl⟩) ⟨blW, va_recv hK hPc (ci := 8) (q0 := 0) rfl rfl, fun U hU hW => ⟨rfl, by rw [hU], by rw [hU]; exact hPc, va_K.moved hW.alike hK, hDc.weaken (fun _ _ _ _ => trivial)⟩⟩ rfl rfl hl.1 rfl (lv_room (Nat.le_of_ble_eq_true rfl)) d_Md_flash_42 ⟨Nat.le_of_ble_eq_true rfl, Nat.le_of_ble_eq_true rfl⟩) hS (fun q _ h => hFc q h) hFc (fun r u t H1 locs ht hvm hw hB hz1 hk1 hS => ?_)
        obtain ⟨hP1, hK1, hD1⟩ := hB
        rw [ht] at hP1
        obtain ⟨_, rfl, rfl, rfl⟩ := hw
        obtain ⟨hP, hD⟩ := va_join (wr := []) (w1 := (wMd cI cJ cZ h0 h1 h2 h3 h4 h5 h6 h7 h8 h9 h10 h11 h12 h13 h14 h15 h16 h17 h18 h19 h20 h21 h22 h23 1 no ca ba nl xa sa da la ra fa ta ua uh uo ma mh ml nf fo fh fs rs ic mn bh bo ya np pa nc cp)) hP hD [0, 1, 2, 3, 4, 5, 6, 7, 8, 9, 10, 11, 12, 13, 14, 15, 16, 17, 18, 19, 20, 21, 22, 23] [] rfl rfl (by decide) (by decide) hk1 hFc hP1 hD1
        generalize H1 = H at hP hS ⊢
        have hP : va_P D vwCl (wMd cI cJ cZ h0 h1 h2 h3 h4 h5 h6 h7 h8 h9 h10 h11 h12 h13 h14 h15 h16 h17 h18 h19 h20 h21 h22 h23 1 no ca ba nl xa sa da la ra fa ta ua uh uo ma mh ml nf fo fh fs rs ic mn bh bo ya np pa nc cp) H := hP
        have hD : va_D A (wMd cI cJ cZ h0 h1 h2 h3 h4 h5 h6 h7 h8 h9 h10 h11 h12 h13 h14 h15 h16 h17 h18 h19 h20 h21 h22 h23 1 no ca ba nl xa sa da la ra fa ta ua uh uo ma mh ml nf fo fh fs rs ic mn bh bo ya np pa nc cp) := hD
        refine W.widen (k := 0) (n := 0) (Nat.le_of_ble_eq_true rfl) (Nat.le_of_ble_eq_true rfl) ?_
        refine nv_if_ne (tgt := 50) hx hb d_Md_flash_45 (by decide) (by decide) (fun c37 => absurd c37 (by decide)) (fun _ => ?_)
        refine nv_iconst (n := 0) hx hb d_Md_flash_48 ?_
        have hP9 := hP.sub (ws' := (wMd cI cJ cZ h0 h1 h2 h3 h4 h5 h6 h7 h8 h9 h10 h11 h12 h13 h14 h15 h16 h17 h18 h19 h20 h21 h22 h23 1 no ca ba nl xa sa da la ra fa ta ua uh uo ma mh ml nf fo fh fs rs ic mn bh bo ya np pa nc cp)) [0, 1, 2, 3, 4, 5, 6, 7, 8, 9, 10, 11, 12, 13, 14, 15, 16, 17, 18, 19, 20, 21, 22, 23] rfl
        have hD9 := hD.sub (ws' := (wMd cI cJ cZ h0 h1 h2 h3 h4 h5 h6 h7 h8 h9 h10 h11 h12 h13 h14 h15 h16 h17 h18 h19 h20 h21 h22 h23 1 no ca ba nl xa sa da la ra fa ta ua uh uo ma mh ml nf fo fh fs rs ic mn bh bo ya np pa nc cp)) [0, 1, 2, 3, 4, 5, 6, 7, 8, 9, 10, 11, 12, 13, 14, 15, 16, 17, 18, 19, 20, 21, 22, 23] (by decide) rfl
        exact W.iret hx hb hr (fun t ht hW => ⟨⟨_, ((1), (fo), (fh), (fs), (nf), (ic)), rfl, ⟨_, rfl, v⟩, by rw [ht]; exact hP9, va_K.moved hW.alike hK, hD9⟩, hS.F ht⟩) hS.2.2 d_Md_flash_49
      · replace v := v.2 c36
        have hPc := hP.sub (ws' := (wMd cI cJ cZ h0 h1 h2 h3 h4 h5 h6 h7 h8 h9 h10 h11 h12 h13 h14 h15 h16 h17 h18 h19 h20 h21 h22 h23 th no ca ba nl xa sa da la ra fa ta ua uh uo ma mh ml nf fo fh fs rs ic mn bh bo ya np pa nc cp)) [0, 1, 2, 3, 4, 5, 6, 7, 8, 9, 10, 11, 12, 13, 14, 15, 16, 17, 18, 19, 20, 21, 22, 23] rfl
        have hDc := hD.sub (ws' := (wMd cI cJ cZ h0 h1 h2 h3 h4 h5 h6 h7 h8 h9 h10 h11 h12 h13 h14 h15 h16 h17 h18 h19 h20 h21 h22 h23 th no ca ba nl xa sa da la ra fa ta ua uh uo ma mh ml nf fo fh fs rs ic mn bh bo ya np pa nc cp)) [0, 1, 2, 3, 4, 5, 6, 7, 8, 9, 10, 11, 12, 13, 14, 15, 16, 17, 18, 19, 20, 21, 22, 23] (by decide) rfl
        have hFc := va_free (wc := (wMd cI cJ cZ h0 h1 h2 h3 h4 h5 h6 h7 h8 h9 h10 h11 h12 h13 h14 h15 h16 h17 h18 h19 h20 h21 h22 h23 th no ca ba nl xa sa da la ra fa ta ua uh uo ma mh ml nf fo fh fs rs ic mn bh bo ya np pa nc cp)) hD hS hA [0, 1, 2, 3, 4, 5, 6, 7, 8, 9, 10, 11, 12, 13, 14, 15, 16, 17, 18, 19, 20, 21, 22, 23] rfl
        refine va_calli (va_runV (As := [.int (iI 0), .int (iI 0), .int (iI 0)]) (rest := []) ⟨hx, hb, hml, hown, hts⟩ (m_Md_goes l D cI cJ cO cZ h0 h1 h2 h3 h4 h5 h6 h7 h8 h9 h10 h11 h12 h13 h14 h15 h16 h17 h18 h19 h20 h21 h22 h23 H.size th no ca ba nl xa sa da la ra fa ta ua uh uo ma mh ml nf fo fh fs rs ic mn bh bo ya np pa nc cp 0 0 0 (fun z t => z = 0 ∧ t = 1) (s_Md_goes_000 th no ca ba nl xa sa da la ra fa ta ua uh uo ma mh ml nf fo fh fs rs ic mn bh bo ya np pa nc cp)) (nv_cwV (n := 3) hts wd_812 wd_814 sl_17 wd_10 wd_815 (by decide +kernel) ⟨Nat.le_of_ble_eq_true rfl, Nat.le_of_ble_eq_true rfl⟩) ⟨blW, va_recv hK hPc (ci := 8) (q0 := 0) rfl rfl, fun U hU hW => ⟨rfl, by rw [hU], by rw [hU]; exact hPc, va_K.moved hW.alike hK, hDc.weaken (fun _ _ _ _ => trivial)⟩⟩ rfl rfl hl.1 rfl (lv_room (Nat.le_of_ble_eq_true rfl)) d_Md_flash_42 ⟨Nat.le_of_ble_eq_true rfl, Nat.le_of_ble_eq_true rfl⟩) hS (fun q _ h => hFc q h) hFc (fun r u t H1 locs ht hvm hw hB hz1 hk1 hS => ?_)
        obtain ⟨hP1, hK1, hD1⟩ := hB
        rw [ht] at hP1
        obtain ⟨_, rfl, rfl, rfl⟩ := hw
        obtain ⟨hP, hD⟩ := va_join (wr := []) (w1 := (wMd cI cJ cZ h0 h1 h2 h3 h4 h5 h6 h7 h8 h9 h10 h11 h12 h13 h14 h15 h16 h17 h18 h19 h20 h21 h22 h23 1 no ca ba nl xa sa da la ra fa ta ua uh uo ma mh ml nf fo fh fs rs ic mn bh bo ya np pa nc cp)) hP hD [0, 1, 2, 3, 4, 5, 6, 7, 8, 9, 10, 11, 12, 13, 14, 15, 16, 17, 18, 19, 20, 21, 22, 23] [] rfl rfl (by decide) (by decide) hk1 hFc hP1 hD1
        generalize H1 = H at hP hS ⊢
        have hP : va_P D vwCl (wMd cI cJ cZ h0 h1 h2 h3 h4 h5 h6 h7 h8 h9 h10 h11 h12 h13 h14 h15 h16 h17 h18 h19 h20 h21 h22 h23 1 no ca ba nl xa sa da la ra fa ta ua uh uo ma mh ml nf fo fh fs rs ic mn bh bo ya np pa nc cp) H := hP
        have hD : va_D A (wMd cI cJ cZ h0 h1 h2 h3 h4 h5 h6 h7 h8 h9 h10 h11 h12 h13 h14 h15 h16 h17 h18 h19 h20 h21 h22 h23 1 no ca ba nl xa sa da la ra fa ta ua uh uo ma mh ml nf fo fh fs rs ic mn bh bo ya np pa nc cp) := hD
        refine W.widen (k := 0) (n := 0) (Nat.le_of_ble_eq_true rfl) (Nat.le_of_ble_eq_true rfl) ?_
        refine nv_if_ne (tgt := 50) hx hb d_Md_flash_45 (by decide) (by decide) (fun c38 => absurd c38 (by decide)) (fun _ => ?_)
        refine nv_iconst (n := 0) hx hb d_Md_flash_48 ?_
        have hP9 := hP.sub (ws' := (wMd cI cJ cZ h0 h1 h2 h3 h4 h5 h6 h7 h8 h9 h10 h11 h12 h13 h14 h15 h16 h17 h18 h19 h20 h21 h22 h23 1 no ca ba nl xa sa da la ra fa ta ua uh uo ma mh ml nf fo fh fs rs ic mn bh bo ya np pa nc cp)) [0, 1, 2, 3, 4, 5, 6, 7, 8, 9, 10, 11, 12, 13, 14, 15, 16, 17, 18, 19, 20, 21, 22, 23] rfl
        have hD9 := hD.sub (ws' := (wMd cI cJ cZ h0 h1 h2 h3 h4 h5 h6 h7 h8 h9 h10 h11 h12 h13 h14 h15 h16 h17 h18 h19 h20 h21 h22 h23 1 no ca ba nl xa sa da la ra fa ta ua uh uo ma mh ml nf fo fh fs rs ic mn bh bo ya np pa nc cp)) [0, 1, 2, 3, 4, 5, 6, 7, 8, 9, 10, 11, 12, 13, 14, 15, 16, 17, 18, 19, 20, 21, 22, 23] (by decide) rfl
        exact W.iret hx hb hr (fun t ht hW => ⟨⟨_, ((1), (fo), (fh), (fs), (nf), (ic)), rfl, ⟨_, rfl, v⟩, by rw [ht]; exact hP9, va_K.moved hW.alike hK, hD9⟩, hS.F ht⟩) hS.2.2 d_Md_flash_49
    · replace v := v.2 c34
      refine nv_iconst (n := 1) hx hb d_Md_flash_30 ?_
      refine lv_goto (tgt := 35) hx hb d_Md_flash_31 (by decide) ?_
      refine lv_iload_n hx hb d_Md_flash_35 rfl (lv_at hl 3 rfl) ?_
      refine nv_iconst (n := 0) hx hb d_Md_flash_36 ?_
      refine nv_ldc (z := 1000000000) hx hb hown (hts _ wd_820) (by decide) d_Md_flash_37 ?_
      obtain ⟨k39, v⟩ := v
      refine vp_callSi (nv_runS (wc := []) (As := [.int (iI sec), .int (iI 0), .int (iI 1000000000)]) (rest := [.int (iI 1), .int (iI 0), .ref h0]) ⟨hx, hb, hml, hown, hts⟩ (m_Md_within l D cI cJ cO cZ sec 0 1000000000 (fun z => (z = 1 ∧ (0 ≤ sec ∧ sec ≤ 1000000000)) ∨ (z = 0 ∧ ¬ (0 ≤ sec ∧ sec ≤ 1000000000))) (s_Md_within sec 0 1000000000 k39 (by decide) (by decide))) (nv_cwS (n := 3) hts wd_809 wd_810 wd_10 wd_811 (by decide +kernel) ⟨Nat.le_of_ble_eq_true rfl, Nat.le_of_ble_eq_true rfl⟩) hK (hP.sub [] rfl) rfl hl.1 rfl (Nat.le_of_ble_eq_true rfl) d_Md_flash_39 (Nat.le_of_ble_eq_true rfl) (Nat.le_of_ble_eq_true rfl)) (fun r hr => ?_)
      rcases hr with ⟨_, rfl, ⟨rfl, c40⟩ | ⟨rfl, c40⟩⟩
      · replace v := v.1 c40
        have hPc := hP.sub (ws' := (wMd cI cJ cZ h0 h1 h2 h3 h4 h5 h6 h7 h8 h9 h10 h11 h12 h13 h14 h15 h16 h17 h18 h19 h20 h21 h22 h23 th no ca ba nl xa sa da la ra fa ta ua uh uo ma mh ml nf fo fh fs rs ic mn bh bo ya np pa nc cp)) [0, 1, 2, 3, 4, 5, 6, 7, 8, 9, 10, 11, 12, 13, 14, 15, 16, 17, 18, 19, 20, 21, 22, 23] rfl
        have hDc := hD.sub (ws' := (wMd cI cJ cZ h0 h1 h2 h3 h4 h5 h6 h7 h8 h9 h10 h11 h12 h13 h14 h15 h16 h17 h18 h19 h20 h21 h22 h23 th no ca ba nl xa sa da la ra fa ta ua uh uo ma mh ml nf fo fh fs rs ic mn bh bo ya np pa nc cp)) [0, 1, 2, 3, 4, 5, 6, 7, 8, 9, 10, 11, 12, 13, 14, 15, 16, 17, 18, 19, 20, 21, 22, 23] (by decide) rfl
        have hFc := va_free (wc := (wMd cI cJ cZ h0 h1 h2 h3 h4 h5 h6 h7 h8 h9 h10 h11 h12 h13 h14 h15 h16 h17 h18 h19 h20 h21 h22 h23 th no ca ba nl xa sa da la ra fa ta ua uh uo ma mh ml nf fo fh fs rs ic mn bh bo ya np pa nc cp)) hD hS hA [0, 1, 2, 3, 4, 5, 6, 7, 8, 9, 10, 11, 12, 13, 14, 15, 16, 17, 18, 19, 20, 21, 22, 23] rfl
        refine va_calli (va_runV (As := [.int (iI 0), .int (iI 1), .int (iI 1)]) (rest := []) ⟨hx, hb, hml, hown, hts⟩ (m_Md_goes l D cI cJ cO cZ h0 h1 h2 h3 h4 h5 h6 h7 h8 h9 h10 h11 h12 h13 h14 h15 h16 h17 h18 h19 h20 h21 h22 h23 H.size th no ca ba nl xa sa da la ra fa ta ua uh uo ma mh ml nf fo fh fs rs ic mn bh bo ya np pa nc cp 0 1 1 (fun z t => z = 0 ∧ t = 1) (s_Md_goes_011 th no ca ba nl xa sa da la ra fa ta ua uh uo ma mh ml nf fo fh fs rs ic mn bh bo ya np pa nc cp)) (nv_cwV (n := 3) hts wd_812 wd_814 sl_17 wd_10 wd_815 (by decide +kernel) ⟨Nat.le_of_ble_eq_true rfl, Nat.le_of_ble_eq_true rfl⟩) ⟨blW, va_recv hK hPc (ci := 8) (q0 := 0) rfl rfl, fun U hU hW => ⟨rfl, by rw [hU], by rw [hU]; exact hPc, va_K.moved hW.alike hK, hDc.weaken (fun _ _ _ _ => trivial)⟩⟩ rfl rfl hl.1 rfl (lv_room (Nat.le_of_ble_eq_true rfl)) d_Md_flash_42 ⟨Nat.le_of_ble_eq_true rfl, Nat.le_of_ble_eq_true rfl⟩) hS (fun q _ h => hFc q h) hFc (fun r u t H1 locs ht hvm hw hB hz1 hk1 hS => ?_)
        obtain ⟨hP1, hK1, hD1⟩ := hB
        rw [ht] at hP1
        obtain ⟨_, rfl, rfl, rfl⟩ := hw
        obtain ⟨hP, hD⟩ := va_join (wr := []) (w1 := (wMd cI cJ cZ h0 h1 h2 h3 h4 h5 h6 h7 h8 h9 h10 h11 h12 h13 h14 h15 h16 h17 h18 h19 h20 h21 h22 h23 1 no ca ba nl xa sa da la ra fa ta ua uh uo ma mh ml nf fo fh fs rs ic mn bh bo ya np pa nc cp)) hP hD [0, 1, 2, 3, 4, 5, 6, 7, 8, 9, 10, 11, 12, 13, 14, 15, 16, 17, 18, 19, 20, 21, 22, 23] [] rfl rfl (by decide) (by decide) hk1 hFc hP1 hD1
        generalize H1 = H at hP hS ⊢
        have hP : va_P D vwCl (wMd cI cJ cZ h0 h1 h2 h3 h4 h5 h6 h7 h8 h9 h10 h11 h12 h13 h14 h15 h16 h17 h18 h19 h20 h21 h22 h23 1 no ca ba nl xa sa da la ra fa ta ua uh uo ma mh ml nf fo fh fs rs ic mn bh bo ya np pa nc cp) H := hP
        have hD : va_D A (wMd cI cJ cZ h0 h1 h2 h3 h4 h5 h6 h7 h8 h9 h10 h11 h12 h13 h14 h15 h16 h17 h18 h19 h20 h21 h22 h23 1 no ca ba nl xa sa da la ra fa ta ua uh uo ma mh ml nf fo fh fs rs ic mn bh bo ya np pa nc cp) := hD
        refine W.widen (k := 0) (n := 0) (Nat.le_of_ble_eq_true rfl) (Nat.le_of_ble_eq_true rfl) ?_
        refine nv_if_ne (tgt := 50) hx hb d_Md_flash_45 (by decide) (by decide) (fun c41 => absurd c41 (by decide)) (fun _ => ?_)
        refine nv_iconst (n := 0) hx hb d_Md_flash_48 ?_
        have hP9 := hP.sub (ws' := (wMd cI cJ cZ h0 h1 h2 h3 h4 h5 h6 h7 h8 h9 h10 h11 h12 h13 h14 h15 h16 h17 h18 h19 h20 h21 h22 h23 1 no ca ba nl xa sa da la ra fa ta ua uh uo ma mh ml nf fo fh fs rs ic mn bh bo ya np pa nc cp)) [0, 1, 2, 3, 4, 5, 6, 7, 8, 9, 10, 11, 12, 13, 14, 15, 16, 17, 18, 19, 20, 21, 22, 23] rfl
        have hD9 := hD.sub (ws' := (wMd cI cJ cZ h0 h1 h2 h3 h4 h5 h6 h7 h8 h9 h10 h11 h12 h13 h14 h15 h16 h17 h18 h19 h20 h21 h22 h23 1 no ca ba nl xa sa da la ra fa ta ua uh uo ma mh ml nf fo fh fs rs ic mn bh bo ya np pa nc cp)) [0, 1, 2, 3, 4, 5, 6, 7, 8, 9, 10, 11, 12, 13, 14, 15, 16, 17, 18, 19, 20, 21, 22, 23] (by decide) rfl
        exact W.iret hx hb hr (fun t ht hW => ⟨⟨_, ((1), (fo), (fh), (fs), (nf), (ic)), rfl, ⟨_, rfl, v⟩, by rw [ht]; exact hP9, va_K.moved hW.alike hK, hD9⟩, hS.F ht⟩) hS.2.2 d_Md_flash_49
      · replace v := v.2 c40
        have hPc := hP.sub (ws' := (wMd cI cJ cZ h0 h1 h2 h3 h4 h5 h6 h7 h8 h9 h10 h11 h12 h13 h14 h15 h16 h17 h18 h19 h20 h21 h22 h23 th no ca ba nl xa sa da la ra fa ta ua uh uo ma mh ml nf fo fh fs rs ic mn bh bo ya np pa nc cp)) [0, 1, 2, 3, 4, 5, 6, 7, 8, 9, 10, 11, 12, 13, 14, 15, 16, 17, 18, 19, 20, 21, 22, 23] rfl
        have hDc := hD.sub (ws' := (wMd cI cJ cZ h0 h1 h2 h3 h4 h5 h6 h7 h8 h9 h10 h11 h12 h13 h14 h15 h16 h17 h18 h19 h20 h21 h22 h23 th no ca ba nl xa sa da la ra fa ta ua uh uo ma mh ml nf fo fh fs rs ic mn bh bo ya np pa nc cp)) [0, 1, 2, 3, 4, 5, 6, 7, 8, 9, 10, 11, 12, 13, 14, 15, 16, 17, 18, 19, 20, 21, 22, 23] (by decide) rfl
        have hFc := va_free (wc := (wMd cI cJ cZ h0 h1 h2 h3 h4 h5 h6 h7 h8 h9 h10 h11 h12 h13 h14 h15 h16 h17 h18 h19 h20 h21 h22 h23 th no ca ba nl xa sa da la ra fa ta ua uh uo ma mh ml nf fo fh fs rs ic mn bh bo ya np pa nc cp)) hD hS hA [0, 1, 2, 3, 4, 5, 6, 7, 8, 9, 10, 11, 12, 13, 14, 15, 16, 17, 18, 19, 20, 21, 22, 23] rfl
        refine va_calli (va_runV (As := [.int (iI 0), .int (iI 1), .int (iI 0)]) (rest := []) ⟨hx, hb, hml, hown, hts⟩ (m_Md_goes l D cI cJ cO cZ h0 h1 h2 h3 h4 h5 h6 h7 h8 h9 h10 h11 h12 h13 h14 h15 h16 h17 h18 h19 h20 h21 h22 h23 H.size th no ca ba nl xa sa da la ra fa ta ua uh uo ma mh ml nf fo fh fs rs ic mn bh bo ya np pa nc cp 0 1 0 (fun z t => z = 0 ∧ t = 1) (s_Md_goes_010 th no ca ba nl xa sa da la ra fa ta ua uh uo ma mh ml nf fo fh fs rs ic mn bh bo ya np pa nc cp)) (nv_cwV (n := 3) hts wd_812 wd_814 sl_17 wd_10 wd_815 (by decide +kernel) ⟨Nat.le_of_ble_eq_true rfl, Nat.le_of_ble_eq_true rfl⟩) ⟨blW, va_recv hK hPc (ci := 8) (q0 := 0) rfl rfl, fun U hU hW => ⟨rfl, by rw [hU], by rw [hU]; exact hPc, va_K.moved hW.alike hK, hDc.weaken (fun _ _ _ _ => trivial)⟩⟩ rfl rfl hl.1 rfl (lv_room (Nat.le_of_ble_eq_true rfl)) d_Md_flash_42 ⟨Nat.le_of_ble_eq_true rfl, Nat.le_of_ble_eq_true rfl⟩) hS (fun q _ h => hFc q h) hFc (fun r u t H1 locs ht hvm hw hB hz1 hk1 hS => ?_)
        obtain ⟨hP1, hK1, hD1⟩ := hB
        rw [ht] at hP1
        obtain ⟨_, rfl, rfl, rfl⟩ := hw
        obtain ⟨hP, hD⟩ := va_join (wr := []) (w1 := (wMd cI cJ cZ h0 h1 h2 h3 h4 h5 h6 h7 h8 h9 h10 h11 h12 h13 h14 h15 h16 h17 h18 h19 h20 h21 h22 h23 1 no ca ba nl xa sa da la ra fa ta ua uh uo ma mh ml nf fo fh fs rs ic mn bh bo ya np pa nc cp)) hP hD [0, 1, 2, 3, 4, 5, 6, 7, 8, 9, 10, 11, 12, 13, 14, 15, 16, 17, 18, 19, 20, 21, 22, 23] [] rfl rfl (by decide) (by decide) hk1 hFc hP1 hD1
        generalize H1 = H at hP hS ⊢
        have hP : va_P D vwCl (wMd cI cJ cZ h0 h1 h2 h3 h4 h5 h6 h7 h8 h9 h10 h11 h12 h13 h14 h15 h16 h17 h18 h19 h20 h21 h22 h23 1 no ca ba nl xa sa da la ra fa ta ua uh uo ma mh ml nf fo fh fs rs ic mn bh bo ya np pa nc cp) H := hP
        have hD : va_D A (wMd cI cJ cZ h0 h1 h2 h3 h4 h5 h6 h7 h8 h9 h10 h11 h12 h13 h14 h15 h16 h17 h18 h19 h20 h21 h22 h23 1 no ca ba nl xa sa da la ra fa ta ua uh uo ma mh ml nf fo fh fs rs ic mn bh bo ya np pa nc cp) := hD
        refine W.widen (k := 0) (n := 0) (Nat.le_of_ble_eq_true rfl) (Nat.le_of_ble_eq_true rfl) ?_
        refine nv_if_ne (tgt := 50) hx hb d_Md_flash_45 (by decide) (by decide) (fun c42 => absurd c42 (by decide)) (fun _ => ?_)
        refine nv_iconst (n := 0) hx hb d_Md_flash_48 ?_
        have hP9 := hP.sub (ws' := (wMd cI cJ cZ h0 h1 h2 h3 h4 h5 h6 h7 h8 h9 h10 h11 h12 h13 h14 h15 h16 h17 h18 h19 h20 h21 h22 h23 1 no ca ba nl xa sa da la ra fa ta ua uh uo ma mh ml nf fo fh fs rs ic mn bh bo ya np pa nc cp)) [0, 1, 2, 3, 4, 5, 6, 7, 8, 9, 10, 11, 12, 13, 14, 15, 16, 17, 18, 19, 20, 21, 22, 23] rfl
        have hD9 := hD.sub (ws' := (wMd cI cJ cZ h0 h1 h2 h3 h4 h5 h6 h7 h8 h9 h10 h11 h12 h13 h14 h15 h16 h17 h18 h19 h20 h21 h22 h23 1 no ca ba nl xa sa da la ra fa ta ua uh uo ma mh ml nf fo fh fs rs ic mn bh bo ya np pa nc cp)) [0, 1, 2, 3, 4, 5, 6, 7, 8, 9, 10, 11, 12, 13, 14, 15, 16, 17, 18, 19, 20, 21, 22, 23] (by decide) rfl
        exact W.iret hx hb hr (fun t ht hW => ⟨⟨_, ((1), (fo), (fh), (fs), (nf), (ic)), rfl, ⟨_, rfl, v⟩, by rw [ht]; exact hP9, va_K.moved hW.alike hK, hD9⟩, hS.F ht⟩) hS.2.2 d_Md_flash_49

theorem d_Md_rest_0 : decode prog_10_method_24_code 0 = .ok (.aload_n 0, 1) := by decide +kernel
theorem d_Md_rest_1 : decode prog_10_method_24_code 1 = .ok (.iconst 0, 1) := by decide +kernel
theorem d_Md_rest_2 : decode prog_10_method_24_code 2 = .ok (.putfield 82, 3) := by decide +kernel
theorem d_Md_rest_5 : decode prog_10_method_24_code 5 = .ok (.aload_n 0, 1) := by decide +kernel
theorem d_Md_rest_6 : decode prog_10_method_24_code 6 = .ok (.getfield 146, 3) := by decide +kernel
theorem d_Md_rest_9 : decode prog_10_method_24_code 9 = .ok (.ireturn, 1) := by decide +kernel
def vc_Md_rest (th : Int) (no : Int) (ca : Nat → Int) (ba : Nat → Int) (nl : Int) (xa : Nat → Int) (sa : Nat → Int) (da : Nat → Int) (la : Nat → Int) (ra : Nat → Int) (fa : Nat → Int) (ta : Nat → Int) (ua : Nat → Int) (uh : Nat → Int) (uo : Nat → Int) (ma : Nat → Int) (mh : Nat → Int) (ml : Nat → Int) (nf : Int) (fo : Nat → Int) (fh : Nat → Int) (fs : Nat → Int) (rs : Int) (ic : Int) (mn : Int) (bh : Nat → Int) (bo : Nat → Int) (ya : Nat → Int) (np : Int) (pa : Nat → Int) (nc : Int) (cp : Nat → Int) (post : Int → Int → Prop) : Prop := post rs 0
set_option maxHeartbeats 4000000 in
set_option maxRecDepth 100000 in
theorem m_Md_rest (l : Launch) (D : va_G) (cI cJ cO cZ : ClassId) (h0 h1 h2 h3 h4 h5 h6 h7 h8 h9 h10 h11 h12 h13 h14 h15 h16 h17 h18 h19 h20 h21 h22 h23 : Nat) (sz : Nat) (th : Int) (no : Int) (ca : Nat → Int) (ba : Nat → Int) (nl : Int) (xa : Nat → Int) (sa : Nat → Int) (da : Nat → Int) (la : Nat → Int) (ra : Nat → Int) (fa : Nat → Int) (ta : Nat → Int) (ua : Nat → Int) (uh : Nat → Int) (uo : Nat → Int) (ma : Nat → Int) (mh : Nat → Int) (ml : Nat → Int) (nf : Int) (fo : Nat → Int) (fh : Nat → Int) (fs : Nat → Int) (rs : Int) (ic : Int) (mn : Int) (bh : Nat → Int) (bo : Nat → Int) (ya : Nat → Int) (np : Int) (pa : Nat → Int) (nc : Int) (cp : Nat → Int) (post : Int → Int → Prop) (v : vc_Md_rest th no ca ba nl xa sa da la ra fa ta ua uh uo ma mh ml nf fo fh fs rs ic mn bh bo ya np pa nc cp post) : Met l ⟨"LightDosesModel", "rest", "()I"⟩ (.code ⟨"LightDosesModel", "rest", "()I"⟩ prog_10_method_24_code 1 (some .int) :: TG) { frames := 0, cells := 0, slots := 0, locals := 0 } (va_Pc [.ref h0] (fun U => U.heap.size = sz ∧ va_P D vwCl (wMd cI cJ cZ h0 h1 h2 h3 h4 h5 h6 h7 h8 h9 h10 h11 h12 h13 h14 h15 h16 h17 h18 h19 h20 h21 h22 h23 th no ca ba nl xa sa da la ra fa ta ua uh uo ma mh ml nf fo fh fs rs ic mn bh bo ya np pa nc cp) U.heap ∧ va_K D vwCl (tyx cI cJ cO cZ) U ∧ va_D (fun _ => True) (wMd cI cJ cZ h0 h1 h2 h3 h4 h5 h6 h7 h8 h9 h10 h11 h12 h13 h14 h15 h16 h17 h18 h19 h20 h21 h22 h23 th no ca ba nl xa sa da la ra fa ta ua uh uo ma mh ml nf fo fh fs rs ic mn bh bo ya np pa nc cp))) (va_Qi (fun (r : Int32) (u : Int) => ∃ z : Int, r = iI z ∧ post z u) (fun u t => va_P D vwCl (wMd cI cJ cZ h0 h1 h2 h3 h4 h5 h6 h7 h8 h9 h10 h11 h12 h13 h14 h15 h16 h17 h18 h19 h20 h21 h22 h23 u no ca ba nl xa sa da la ra fa ta ua uh uo ma mh ml nf fo fh fs rs ic mn bh bo ya np pa nc cp) t.heap ∧ va_K D vwCl (tyx cI cJ cO cZ) t ∧ va_D (va_A (wMd cI cJ cZ h0 h1 h2 h3 h4 h5 h6 h7 h8 h9 h10 h11 h12 h13 h14 h15 h16 h17 h18 h19 h20 h21 h22 h23 th no ca ba nl xa sa da la ra fa ta ua uh uo ma mh ml nf fo fh fs rs ic mn bh bo ya np pa nc cp) sz) (wMd cI cJ cZ h0 h1 h2 h3 h4 h5 h6 h7 h8 h9 h10 h11 h12 h13 h14 h15 h16 h17 h18 h19 h20 h21 h22 h23 u no ca ba nl xa sa da la ra fa ta ua uh uo ma mh ml nf fo fh fs rs ic mn bh bo ya np pa nc cp)) (va_A (wMd cI cJ cZ h0 h1 h2 h3 h4 h5 h6 h7 h8 h9 h10 h11 h12 h13 h14 h15 h16 h17 h18 h19 h20 h21 h22 h23 th no ca ba nl xa sa da la ra fa ta ua uh uo ma mh ml nf fo fh fs rs ic mn bh bo ya np pa nc cp) sz)) 0 0 (va_A (wMd cI cJ cZ h0 h1 h2 h3 h4 h5 h6 h7 h8 h9 h10 h11 h12 h13 h14 h15 h16 h17 h18 h19 h20 h21 h22 h23 th no ca ba nl xa sa da la ra fa ta ua uh uo ma mh ml nf fo fh fs rs ic mn bh bo ya np pa nc cp) sz) := by
  refine Met.ofW (cc := prog_10_method_24_code) (maxL := 1) (ret := (some .int)) (by decide) rfl ?_
  intro p e s m args below meth c s₁ B hml hv
  obtain ⟨rfl, hsz, hP, hK, hD0⟩ := hv
  have hx := B.exec
  have hb := B.bytes
  have hr := B.returns
  have hts0 := atoms_spec (ws := (.code ⟨"LightDosesModel", "rest", "()I"⟩ prog_10_method_24_code 1 (some .int) :: TG)) B.pre
  have hts : ∀ w ∈ TG, w.before _ s = true := fun w h => hts0 w (List.mem_cons_of_mem _ h)
  have hown : s.vm.findClass "LightDosesModel" = some m.cls := findClass_of_methodNamed B.named
  have hlocks := B.notSynchronized
  subst hsz
  have hD := hD0.self (sz := s.heap.size)
  generalize hAe : va_A (wMd cI cJ cZ h0 h1 h2 h3 h4 h5 h6 h7 h8 h9 h10 h11 h12 h13 h14 h15 h16 h17 h18 h19 h20 h21 h22 h23 th no ca ba nl xa sa da la ra fa ta ua uh uo ma mh ml nf fo fh fs rs ic mn bh bo ya np pa nc cp) s.heap.size = A at hD ⊢
  have hA : ∀ q : Nat, s.heap.size ≤ q → A q := fun q h => by rw [← hAe]; exact Or.inr h
  have hS : va_S A s.heap s.heap [] := va_S.rf
  have hP : va_P D vwCl (wMd cI cJ cZ h0 h1 h2 h3 h4 h5 h6 h7 h8 h9 h10 h11 h12 h13 h14 h15 h16 h17 h18 h19 h20 h21 h22 h23 th no ca ba nl xa sa da la ra fa ta ua uh uo ma mh ml nf fo fh fs rs ic mn bh bo ya np pa nc cp) s.heap := hP
  have hl := lv_entry ([Value.ref h0]) (n := 1) (Nat.le_of_ble_eq_true rfl)
  rw [lg_entry_eq]
  generalize (lg_sl ([Value.ref h0]) ++ List.replicate (1 - (lg_sl ([Value.ref h0])).length) Slot.unset).toArray = ls at hl ⊢
  have hl : lv_has ls 1 [(0, .ref h0)] := hl
  unfold vc_Md_rest at v
  obtain ⟨H, hH⟩ : ∃ H, H = s.heap := ⟨_, rfl⟩
  obtain ⟨locs, hlc⟩ : ∃ L : List Loc, L = [] := ⟨_, rfl⟩
  rw [← hlc] at hS ⊢
  have hP : va_P D vwCl (wMd cI cJ cZ h0 h1 h2 h3 h4 h5 h6 h7 h8 h9 h10 h11 h12 h13 h14 h15 h16 h17 h18 h19 h20 h21 h22 h23 th no ca ba nl xa sa da la ra fa ta ua uh uo ma mh ml nf fo fh fs rs ic mn bh bo ya np pa nc cp) H := by rw [hH]; exact hP
  have hS : va_S A s.heap H locs := by rw [hH]; exact hS
  have hW0 : ∀ {X : Heap → Prop}, X H → X s.heap := fun h => by rw [← hH]; exact h
  refine hW0 (X := fun Z => W p l e _ s m _ below meth c Z locs 0 0 _ _) ?_
  refine lv_aload_n hx hb d_Md_rest_0 rfl (lv_at hl 0 rfl) ?_
  refine nv_iconst (n := 0) hx hb d_Md_rest_1 ?_
  refine va_put (D := D) (ci := 8) (v := .int (iI 0)) (ty := .int) (C := "LightDosesModel") (T := T_Md) (N := 32) hx hb hts in_Md t_Md tok_Md n_Md hown hK hP hD hS 0 rfl rfl 0 (by decide) (hts _ wd_703) (fun _ h9 => h9) rfl (by decide +kernel) rfl rfl (Nat.le_of_ble_eq_true rfl) d_Md_rest_2 (fun H locs hP hD hS => ?_)
  have hP : va_P D vwCl (wMd cI cJ cZ h0 h1 h2 h3 h4 h5 h6 h7 h8 h9 h10 h11 h12 h13 h14 h15 h16 h17 h18 h19 h20 h21 h22 h23 0 no ca ba nl xa sa da la ra fa ta ua uh uo ma mh ml nf fo fh fs rs ic mn bh bo ya np pa nc cp) H := hP
  have hD : va_D A (wMd cI cJ cZ h0 h1 h2 h3 h4 h5 h6 h7 h8 h9 h10 h11 h12 h13 h14 h15 h16 h17 h18 h19 h20 h21 h22 h23 0 no ca ba nl xa sa da la ra fa ta ua uh uo ma mh ml nf fo fh fs rs ic mn bh bo ya np pa nc cp) := hD
  refine lv_aload_n hx hb d_Md_rest_5 rfl (lv_at hl 0 rfl) ?_
  refine va_get (D := D) (ci := 8) (v := .int (iI rs)) (C := "LightDosesModel") (T := T_Md) (N := 32) hx hb hts in_Md hown hK hP 0 rfl rfl 22 (by decide) (hts _ wd_725) (fun _ h9 => h9) rfl d_Md_rest_6 ?_
  have hP9 := hP.sub (ws' := (wMd cI cJ cZ h0 h1 h2 h3 h4 h5 h6 h7 h8 h9 h10 h11 h12 h13 h14 h15 h16 h17 h18 h19 h20 h21 h22 h23 0 no ca ba nl xa sa da la ra fa ta ua uh uo ma mh ml nf fo fh fs rs ic mn bh bo ya np pa nc cp)) [0, 1, 2, 3, 4, 5, 6, 7, 8, 9, 10, 11, 12, 13, 14, 15, 16, 17, 18, 19, 20, 21, 22, 23] rfl
  have hD9 := hD.sub (ws' := (wMd cI cJ cZ h0 h1 h2 h3 h4 h5 h6 h7 h8 h9 h10 h11 h12 h13 h14 h15 h16 h17 h18 h19 h20 h21 h22 h23 0 no ca ba nl xa sa da la ra fa ta ua uh uo ma mh ml nf fo fh fs rs ic mn bh bo ya np pa nc cp)) [0, 1, 2, 3, 4, 5, 6, 7, 8, 9, 10, 11, 12, 13, 14, 15, 16, 17, 18, 19, 20, 21, 22, 23] (by decide) rfl
  exact W.iret hx hb hr (fun t ht hW => ⟨⟨_, ((0)), rfl, ⟨_, rfl, v⟩, by rw [ht]; exact hP9, va_K.moved hW.alike hK, hD9⟩, hS.F ht⟩) hS.2.2 d_Md_rest_9

theorem d_Md_page_0 : decode prog_10_method_33_code 0 = .ok (.aload_n 0, 1) := by decide +kernel
theorem d_Md_page_1 : decode prog_10_method_33_code 1 = .ok (.aload_n 0, 1) := by decide +kernel
theorem d_Md_page_2 : decode prog_10_method_33_code 2 = .ok (.getfield 167, 3) := by decide +kernel
theorem d_Md_page_5 : decode prog_10_method_33_code 5 = .ok (.bipush 12, 2) := by decide +kernel
theorem d_Md_page_7 : decode prog_10_method_33_code 7 = .ok (.if_icmp .ge 7, 3) := by decide +kernel
theorem d_Md_page_10 : decode prog_10_method_33_code 10 = .ok (.iconst 1, 1) := by decide +kernel
theorem d_Md_page_11 : decode prog_10_method_33_code 11 = .ok (.goto 4, 3) := by decide +kernel
theorem d_Md_page_14 : decode prog_10_method_33_code 14 = .ok (.iconst 0, 1) := by decide +kernel
theorem d_Md_page_15 : decode prog_10_method_33_code 15 = .ok (.iload_n 1, 1) := by decide +kernel
theorem d_Md_page_16 : decode prog_10_method_33_code 16 = .ok (.iconst 0, 1) := by decide +kernel
theorem d_Md_page_17 : decode prog_10_method_33_code 17 = .ok (.sipush 30000, 3) := by decide +kernel
theorem d_Md_page_20 : decode prog_10_method_33_code 20 = .ok (.invokestatic 92, 3) := by decide +kernel
theorem d_Md_page_23 : decode prog_10_method_33_code 23 = .ok (.iconst 1, 1) := by decide +kernel
theorem d_Md_page_24 : decode prog_10_method_33_code 24 = .ok (.invokevirtual 96, 3) := by decide +kernel
theorem d_Md_page_27 : decode prog_10_method_33_code 27 = .ok (.ifCond .ne 5, 3) := by decide +kernel
theorem d_Md_page_30 : decode prog_10_method_33_code 30 = .ok (.iconst 0, 1) := by decide +kernel
theorem d_Md_page_31 : decode prog_10_method_33_code 31 = .ok (.ireturn, 1) := by decide +kernel
theorem d_Md_page_32 : decode prog_10_method_33_code 32 = .ok (.aload_n 0, 1) := by decide +kernel
theorem d_Md_page_33 : decode prog_10_method_33_code 33 = .ok (.getfield 76, 3) := by decide +kernel
theorem d_Md_page_36 : decode prog_10_method_33_code 36 = .ok (.aload_n 0, 1) := by decide +kernel
theorem d_Md_page_37 : decode prog_10_method_33_code 37 = .ok (.getfield 167, 3) := by decide +kernel
theorem d_Md_page_40 : decode prog_10_method_33_code 40 = .ok (.iload_n 1, 1) := by decide +kernel
theorem d_Md_page_41 : decode prog_10_method_33_code 41 = .ok (.iastore, 1) := by decide +kernel
theorem d_Md_page_42 : decode prog_10_method_33_code 42 = .ok (.aload_n 0, 1) := by decide +kernel
theorem d_Md_page_43 : decode prog_10_method_33_code 43 = .ok (.dup, 1) := by decide +kernel
theorem d_Md_page_44 : decode prog_10_method_33_code 44 = .ok (.getfield 167, 3) := by decide +kernel
theorem d_Md_page_47 : decode prog_10_method_33_code 47 = .ok (.iconst 1, 1) := by decide +kernel
theorem d_Md_page_48 : decode prog_10_method_33_code 48 = .ok (.iadd, 1) := by decide +kernel
theorem d_Md_page_49 : decode prog_10_method_33_code 49 = .ok (.putfield 167, 3) := by decide +kernel
theorem d_Md_page_52 : decode prog_10_method_33_code 52 = .ok (.aload_n 0, 1) := by decide +kernel
theorem d_Md_page_53 : decode prog_10_method_33_code 53 = .ok (.getfield 167, 3) := by decide +kernel
theorem d_Md_page_56 : decode prog_10_method_33_code 56 = .ok (.ireturn, 1) := by decide +kernel
def vc_Md_page (th : Int) (no : Int) (ca : Nat → Int) (ba : Nat → Int) (nl : Int) (xa : Nat → Int) (sa : Nat → Int) (da : Nat → Int) (la : Nat → Int) (ra : Nat → Int) (fa : Nat → Int) (ta : Nat → Int) (ua : Nat → Int) (uh : Nat → Int) (uo : Nat → Int) (ma : Nat → Int) (mh : Nat → Int) (ml : Nat → Int) (nf : Int) (fo : Nat → Int) (fh : Nat → Int) (fs : Nat → Int) (rs : Int) (ic : Int) (mn : Int) (bh : Nat → Int) (bo : Nat → Int) (ya : Nat → Int) (np : Int) (pa : Nat → Int) (nc : Int) (cp : Nat → Int) (hrs : Int) (post : Int → Int → (Nat → Int) → Int → Prop) : Prop := (r32 np) ∧ ((12 ≤ np → (r32 hrs) ∧ (((0 ≤ hrs ∧ hrs ≤ 30000) → post 0 1 pa np) ∧ (¬ (0 ≤ hrs ∧ hrs ≤ 30000) → post 0 1 pa np))) ∧ (np < 12 → (r32 hrs) ∧ (((0 ≤ hrs ∧ hrs ≤ 30000) → (0 ≤ np ∧ np < 12) ∧ (post (np + 1) 0 (va_up pa (np).toNat hrs) (np + 1))) ∧ (¬ (0 ≤ hrs ∧ hrs ≤ 30000) → post 0 2 pa np))))
set_option maxHeartbeats 4000000 in
set_option maxRecDepth 100000 in
theorem m_Md_page (l : Launch) (D : va_G) (cI cJ cO cZ : ClassId) (h0 h1 h2 h3 h4 h5 h6 h7 h8 h9 h10 h11 h12 h13 h14 h15 h16 h17 h18 h19 h20 h21 h22 h23 : Nat) (sz : Nat) (th : Int) (no : Int) (ca : Nat → Int) (ba : Nat → Int) (nl : Int) (xa : Nat → Int) (sa : Nat → Int) (da : Nat → Int) (la : Nat → Int) (ra : Nat → Int) (fa : Nat → Int) (ta : Nat → Int) (ua : Nat → Int) (uh : Nat → Int) (uo : Nat → Int) (ma : Nat → Int) (mh : Nat → Int) (ml : Nat → Int) (nf : Int) (fo : Nat → Int) (fh : Nat → Int) (fs : Nat → Int) (rs : Int) (ic : Int) (mn : Int) (bh : Nat → Int) (bo : Nat → Int) (ya : Nat → Int) (np : Int) (pa : Nat → Int) (nc : Int) (cp : Nat → Int) (hrs : Int) (post : Int → Int → (Nat → Int) → Int → Prop) (v : vc_Md_page th no ca ba nl xa sa da la ra fa ta ua uh uo ma mh ml nf fo fh fs rs ic mn bh bo ya np pa nc cp hrs post) : Met l ⟨"LightDosesModel", "page", "(I)I"⟩ (.code ⟨"LightDosesModel", "page", "(I)I"⟩ prog_10_method_33_code 2 (some .int) :: TG) { frames := 1, cells := 0, slots := 0, locals := 23 } (va_Pc [.ref h0, .int (iI hrs)] (fun U => U.heap.size = sz ∧ va_P D vwCl (wMd cI cJ cZ h0 h1 h2 h3 h4 h5 h6 h7 h8 h9 h10 h11 h12 h13 h14 h15 h16 h17 h18 h19 h20 h21 h22 h23 th no ca ba nl xa sa da la ra fa ta ua uh uo ma mh ml nf fo fh fs rs ic mn bh bo ya np pa nc cp) U.heap ∧ va_K D vwCl (tyx cI cJ cO cZ) U ∧ va_D (fun _ => True) (wMd cI cJ cZ h0 h1 h2 h3 h4 h5 h6 h7 h8 h9 h10 h11 h12 h13 h14 h15 h16 h17 h18 h19 h20 h21 h22 h23 th no ca ba nl xa sa da la ra fa ta ua uh uo ma mh ml nf fo fh fs rs ic mn bh bo ya np pa nc cp))) (va_Qi (fun (r : Int32) (u : Int × (Nat → Int) × Int) => ∃ z : Int, r = iI z ∧ post z u.1 u.2.1 u.2.2) (fun u t => va_P D vwCl (wMd cI cJ cZ h0 h1 h2 h3 h4 h5 h6 h7 h8 h9 h10 h11 h12 h13 h14 h15 h16 h17 h18 h19 h20 h21 h22 h23 u.1 no ca ba nl xa sa da la ra fa ta ua uh uo ma mh ml nf fo fh fs rs ic mn bh bo ya u.2.2 u.2.1 nc cp) t.heap ∧ va_K D vwCl (tyx cI cJ cO cZ) t ∧ va_D (va_A (wMd cI cJ cZ h0 h1 h2 h3 h4 h5 h6 h7 h8 h9 h10 h11 h12 h13 h14 h15 h16 h17 h18 h19 h20 h21 h22 h23 th no ca ba nl xa sa da la ra fa ta ua uh uo ma mh ml nf fo fh fs rs ic mn bh bo ya np pa nc cp) sz) (wMd cI cJ cZ h0 h1 h2 h3 h4 h5 h6 h7 h8 h9 h10 h11 h12 h13 h14 h15 h16 h17 h18 h19 h20 h21 h22 h23 u.1 no ca ba nl xa sa da la ra fa ta ua uh uo ma mh ml nf fo fh fs rs ic mn bh bo ya u.2.2 u.2.1 nc cp)) (va_A (wMd cI cJ cZ h0 h1 h2 h3 h4 h5 h6 h7 h8 h9 h10 h11 h12 h13 h14 h15 h16 h17 h18 h19 h20 h21 h22 h23 th no ca ba nl xa sa da la ra fa ta ua uh uo ma mh ml nf fo fh fs rs ic mn bh bo ya np pa nc cp) sz)) 0 0 (va_A (wMd cI cJ cZ h0 h1 h2 h3 h4 h5 h6 h7 h8 h9 h10 h11 h12 h13 h14 h15 h16 h17 h18 h19 h20 h21 h22 h23 th no ca ba nl xa sa da la ra fa ta ua uh uo ma mh ml nf fo fh fs rs ic mn bh bo ya np pa nc cp) sz) := by
  refine Met.ofW (cc := prog_10_method_33_code) (maxL := 2) (ret := (some .int)) (by decide) rfl ?_
  intro p e s m args below meth c s₁ B hml hv
  obtain ⟨rfl, hsz, hP, hK, hD0⟩ := hv
  have hx := B.exec
  have hb := B.bytes
  have hr := B.returns
  have hts0 := atoms_spec (ws := (.code ⟨"LightDosesModel", "page", "(I)I"⟩ prog_10_method_33_code 2 (some .int) :: TG)) B.pre
  have hts : ∀ w ∈ TG, w.before _ s = true := fun w h => hts0 w (List.mem_cons_of_mem _ h)
  have hown : s.vm.findClass "LightDosesModel" = some m.cls := findClass_of_methodNamed B.named
  have hlocks := B.notSynchronized
  subst hsz
  have hD := hD0.self (sz := s.heap.size)
  generalize hAe : va_A (wMd cI cJ cZ h0 h1 h2 h3 h4 h5 h6 h7 h8 h9 h10 h11 h12 h13 h14 h15 h16 h17 h18 h19 h20 h21 h22 h23 th no ca ba nl xa sa da la ra fa ta ua uh uo ma mh ml nf fo fh fs rs ic mn bh bo ya np pa nc cp) s.heap.size = A at hD ⊢
  have hA : ∀ q : Nat, s.heap.size ≤ q → A q := fun q h => by rw [← hAe]; exact Or.inr h
  have hS : va_S A s.heap s.heap [] := va_S.rf
  have hP : va_P D vwCl (wMd cI cJ cZ h0 h1 h2 h3 h4 h5 h6 h7 h8 h9 h10 h11 h12 h13 h14 h15 h16 h17 h18 h19 h20 h21 h22 h23 th no ca ba nl xa sa da la ra fa ta ua uh uo ma mh ml nf fo fh fs rs ic mn bh bo ya np pa nc cp) s.heap := hP
  have hl := lv_entry ([Value.ref h0, Value.int (iI hrs)]) (n := 2) (Nat.le_of_ble_eq_true rfl)
  rw [lg_entry_eq]
  generalize (lg_sl ([Value.ref h0, Value.int (iI hrs)]) ++ List.replicate (2 - (lg_sl ([Value.ref h0, Value.int (iI hrs)])).length) Slot.unset).toArray = ls at hl ⊢
  have hl : lv_has ls 2 [(0, .ref h0), (1, .int (iI hrs))] := hl
  unfold vc_Md_page at v
  obtain ⟨H, hH⟩ : ∃ H, H = s.heap := ⟨_, rfl⟩
  obtain ⟨locs, hlc⟩ : ∃ L : List Loc, L = [] := ⟨_, rfl⟩
  rw [← hlc] at hS ⊢
  have hP : va_P D vwCl (wMd cI cJ cZ h0 h1 h2 h3 h4 h5 h6 h7 h8 h9 h10 h11 h12 h13 h14 h15 h16 h17 h18 h19 h20 h21 h22 h23 th no ca ba nl xa sa da la ra fa ta ua uh uo ma mh ml nf fo fh fs rs ic mn bh bo ya np pa nc cp) H := by rw [hH]; exact hP
  have hS : va_S A s.heap H locs := by rw [hH]; exact hS
  have hW0 : ∀ {X : Heap → Prop}, X H → X s.heap := fun h => by rw [← hH]; exact h
  refine hW0 (X := fun Z => W p l e _ s m _ below meth c Z locs 0 0 _ _) ?_
  refine lv_aload_n hx hb d_Md_page_0 rfl (lv_at hl 0 rfl) ?_
  refine lv_aload_n hx hb d_Md_page_1 rfl (lv_at hl 0 rfl) ?_
  refine va_get (D := D) (ci := 8) (v := .int (iI np)) (C := "LightDosesModel") (T := T_Md) (N := 32) hx hb hts in_Md hown hK hP 0 rfl rfl 28 (by decide) (hts _ wd_731) (fun _ h9 => h9) rfl d_Md_page_2 ?_
  refine nv_bipush (z := 12) hx hb d_Md_page_5 (by decide) ?_
  obtain ⟨k1, v⟩ := v
  refine nv_icmp_ge (tgt := 14) hx hb d_Md_page_7 (by decide) k1 (by decide) (fun c2 => ?_) (fun c2 => ?_)
  · replace v := v.1 c2
    refine nv_iconst (n := 0) hx hb d_Md_page_14 ?_
    refine lv_iload_n hx hb d_Md_page_15 rfl (lv_at hl 1 rfl) ?_
    refine nv_iconst (n := 0) hx hb d_Md_page_16 ?_
    refine nv_sipush (z := 30000) hx hb d_Md_page_17 (by decide) ?_
    obtain ⟨k3, v⟩ := v
    refine vp_callSi (nv_runS (wc := []) (As := [.int (iI hrs), .int (iI 0), .int (iI 30000)]) (rest := [.int (iI 0), .ref h0]) ⟨hx, hb, hml, hown, hts⟩ (m_Md_within l D cI cJ cO cZ hrs 0 30000 (fun z => (z = 1 ∧ (0 ≤ hrs ∧ hrs ≤ 30000)) ∨ (z = 0 ∧ ¬ (0 ≤ hrs ∧ hrs ≤ 30000))) (s_Md_within hrs 0 30000 k3 (by decide) (by decide))) (nv_cwS (n := 3) hts wd_809 wd_810 wd_10 wd_811 (by decide +kernel) ⟨Nat.le_of_ble_eq_true rfl, Nat.le_of_ble_eq_true rfl⟩) hK (hP.sub [] rfl) rfl hl.1 rfl (Nat.le_of_ble_eq_true rfl) d_Md_page_20 (Nat.le_of_ble_eq_true rfl) (Nat.le_of_ble_eq_true rfl)) (fun r hr => ?_)
    rcases hr with ⟨_, rfl, ⟨rfl, c4⟩ | ⟨rfl, c4⟩⟩
    · replace v := v.1 c4
      refine nv_iconst (n := 1) hx hb d_Md_page_23 ?_
      have hPc := hP.sub (ws' := (wMd cI cJ cZ h0 h1 h2 h3 h4 h5 h6 h7 h8 h9 h10 h11 h12 h13 h14 h15 h16 h17 h18 h19 h20 h21 h22 h23 th no ca ba nl xa sa da la ra fa ta ua uh uo ma mh ml nf fo fh fs rs ic mn bh bo ya np pa nc cp)) [0, 1, 2, 3, 4, 5, 6, 7, 8, 9, 10, 11, 12, 13, 14, 15, 16, 17, 18, 19, 20, 21, 22, 23] rfl
      have hDc := hD.sub (ws' := (wMd cI cJ cZ h0 h1 h2 h3 h4 h5 h6 h7 h8 h9 h10 h11 h12 h13 h14 h15 h16 h17 h18 h19 h20 h21 h22 h23 th no ca ba nl xa sa da la ra fa ta ua uh uo ma mh ml nf fo fh fs rs ic mn bh bo ya np pa nc cp)) [0, 1, 2, 3, 4, 5, 6, 7, 8, 9, 10, 11, 12, 13, 14, 15, 16, 17, 18, 19, 20, 21, 22, 23] (by decide) rfl
      have hFc := va_free (wc := (wMd cI cJ cZ h0 h1 h2 h3 h4 h5 h6 h7 h8 h9 h10 h11 h12 h13 h14 h15 h16 h17 h18 h19 h20 h21 h22 h23 th no ca ba nl xa sa da la ra fa ta ua uh uo ma mh ml nf fo fh fs rs ic mn bh bo ya np pa nc cp)) hD hS hA [0, 1, 2, 3, 4, 5, 6, 7, 8, 9, 10, 11, 12, 13, 14, 15, 16, 17, 18, 19, 20, 21, 22, 23] rfl
      refine va_calli (va_runV (As := [.int (iI 0), .int (iI 1), .int (iI 1)]) (rest := []) ⟨hx, hb, hml, hown, hts⟩ (m_Md_goes l D cI cJ cO cZ h0 h1 h2 h3 h4 h5 h6 h7 h8 h9 h10 h11 h12 h13 h14 h15 h16 h17 h18 h19 h20 h21 h22 h23 H.size th no ca ba nl xa sa da la ra fa ta ua uh uo ma mh ml nf fo fh fs rs ic mn bh bo ya np pa nc cp 0 1 1 (fun z t => z = 0 ∧ t = 1) (s_Md_goes_011 th no ca ba nl xa sa da la ra fa ta ua uh uo ma mh ml nf fo fh fs rs ic mn bh bo ya np pa nc cp)) (nv_cwV (n := 3) hts wd_812 wd_814 sl_17 wd_10 wd_815 (by decide +kernel) ⟨Nat.le_of_ble_eq_true rfl, Nat.le_of_ble_eq_true rfl⟩) ⟨blW, va_recv hK hPc (ci := 8) (q0 := 0) rfl rfl, fun U hU hW => ⟨rfl, by rw [hU], by rw [hU]; exact hPc, va_K.moved hW.alike hK, hDc.weaken (fun _ _ _ _ => trivial)⟩⟩ rfl rfl hl.1 rfl (lv_room (Nat.le_of_ble_eq_true rfl)) d_Md_page_24 ⟨Nat.le_of_ble_eq_true rfl, Nat.le_of_ble_eq_true rfl⟩) hS (fun q _ h => hFc q h) hFc (fun r u t H1 locs ht hvm hw hB hz1 hk1 hS => ?_)
      obtain ⟨hP1, hK1, hD1⟩ := hB
      rw [ht] at hP1
      obtain ⟨_, rfl, rfl, rfl⟩ := hw
      obtain ⟨hP, hD⟩ := va_join (wr := []) (w1 := (wMd cI cJ cZ h0 h1 h2 h3 h4 h5 h6 h7 h8 h9 h10 h11 h12 h13 h14 h15 h16 h17 h18 h19 h20 h21 h22 h23 1 no ca ba nl xa sa da la ra fa ta ua uh uo ma mh ml nf fo fh fs rs ic mn bh bo ya np pa nc cp)) hP hD [0, 1, 2, 3, 4, 5, 6, 7, 8, 9, 10, 11, 12, 13, 14, 15, 16, 17, 18, 19, 20, 21, 22, 23] [] rfl rfl (by decide) (by decide) hk1 hFc hP1 hD1
      generalize H1 = H at hP hS ⊢
      have hP : va_P D vwCl (wMd cI cJ cZ h0 h1 h2 h3 h4 h5 h6 h7 h8 h9 h10 h11 h12 h13 h14 h15 h16 h17 h18 h19 h20 h21 h22 h23 1 no ca ba nl xa sa da la ra fa ta ua uh uo ma mh ml nf fo fh fs rs ic mn bh bo ya np pa nc cp) H := hP
      have hD : va_D A (wMd cI cJ cZ h0 h1 h2 h3 h4 h5 h6 h7 h8 h9 h10 h11 h12 h13 h14 h15 h16 h17 h18 h19 h20 h21 h22 h23 1 no ca ba nl xa sa da la ra fa ta ua uh uo ma mh ml nf fo fh fs rs ic mn bh bo ya np pa nc cp) := hD
      refine W.widen (k := 0) (n := 0) (Nat.le_of_ble_eq_true rfl) (Nat.le_of_ble_eq_true rfl) ?_
      refine nv_if_ne (tgt := 32) hx hb d_Md_page_27 (by decide) (by decide) (fun c5 => absurd c5 (by decide)) (fun _ => ?_)
      refine nv_iconst (n := 0) hx hb d_Md_page_30 ?_
      have hP9 := hP.sub (ws' := (wMd cI cJ cZ h0 h1 h2 h3 h4 h5 h6 h7 h8 h9 h10 h11 h12 h13 h14 h15 h16 h17 h18 h19 h20 h21 h22 h23 1 no ca ba nl xa sa da la ra fa ta ua uh uo ma mh ml nf fo fh fs rs ic mn bh bo ya np pa nc cp)) [0, 1, 2, 3, 4, 5, 6, 7, 8, 9, 10, 11, 12, 13, 14, 15, 16, 17, 18, 19, 20, 21, 22, 23] rfl
      have hD9 := hD.sub (ws' := (wMd cI cJ cZ h0 h1 h2 h3 h4 h5 h6 h7 h8 h9 h10 h11 h12 h13 h14 h15 h16 h17 h18 h19 h20 h21 h22 h23 1 no ca ba nl xa sa da la ra fa ta ua uh uo ma mh ml nf fo fh fs rs ic mn bh bo ya np pa nc cp)) [0, 1, 2, 3, 4, 5, 6, 7, 8, 9, 10, 11, 12, 13, 14, 15, 16, 17, 18, 19, 20, 21, 22, 23] (by decide) rfl
      exact W.iret hx hb hr (fun t ht hW => ⟨⟨_, ((1), (pa), (np)), rfl, ⟨_, rfl, v⟩, by rw [ht]; exact hP9, va_K.moved hW.alike hK, hD9⟩, hS.F ht⟩) hS.2.2 d_Md_page_31
    · replace v := v.2 c4
      refine nv_iconst (n := 1) hx hb d_Md_page_23 ?_
      have hPc := hP.sub (ws' := (wMd cI cJ cZ h0 h1 h2 h3 h4 h5 h6 h7 h8 h9 h10 h11 h12 h13 h14 h15 h16 h17 h18 h19 h20 h21 h22 h23 th no ca ba nl xa sa da la ra fa ta ua uh uo ma mh ml nf fo fh fs rs ic mn bh bo ya np pa nc cp)) [0, 1, 2, 3, 4, 5, 6, 7, 8, 9, 10, 11, 12, 13, 14, 15, 16, 17, 18, 19, 20, 21, 22, 23] rfl
      have hDc := hD.sub (ws' := (wMd cI cJ cZ h0 h1 h2 h3 h4 h5 h6 h7 h8 h9 h10 h11 h12 h13 h14 h15 h16 h17 h18 h19 h20 h21 h22 h23 th no ca ba nl xa sa da la ra fa ta ua uh uo ma mh ml nf fo fh fs rs ic mn bh bo ya np pa nc cp)) [0, 1, 2, 3, 4, 5, 6, 7, 8, 9, 10, 11, 12, 13, 14, 15, 16, 17, 18, 19, 20, 21, 22, 23] (by decide) rfl
      have hFc := va_free (wc := (wMd cI cJ cZ h0 h1 h2 h3 h4 h5 h6 h7 h8 h9 h10 h11 h12 h13 h14 h15 h16 h17 h18 h19 h20 h21 h22 h23 th no ca ba nl xa sa da la ra fa ta ua uh uo ma mh ml nf fo fh fs rs ic mn bh bo ya np pa nc cp)) hD hS hA [0, 1, 2, 3, 4, 5, 6, 7, 8, 9, 10, 11, 12, 13, 14, 15, 16, 17, 18, 19, 20, 21, 22, 23] rfl
      refine va_calli (va_runV (As := [.int (iI 0), .int (iI 0), .int (iI 1)]) (rest := []) ⟨hx, hb, hml, hown, hts⟩ (m_Md_goes l D cI cJ cO cZ h0 h1 h2 h3 h4 h5 h6 h7 h8 h9 h10 h11 h12 h13 h14 h15 h16 h17 h18 h19 h20 h21 h22 h23 H.size th no ca ba nl xa sa da la ra fa ta ua uh uo ma mh ml nf fo fh fs rs ic mn bh bo ya np pa nc cp 0 0 1 (fun z t => z = 0 ∧ t = 1) (s_Md_goes_001 th no ca ba nl xa sa da la ra fa ta ua uh uo ma mh ml nf fo fh fs rs ic mn bh bo ya np pa nc cp)) (nv_cwV (n := 3) hts wd_812 wd_814 sl_17 wd_10 wd_815 (by decide +kernel) ⟨Nat.le_of_ble_eq_true rfl, Nat.le_of_ble_eq_true rfl⟩) ⟨blW, va_recv hK hPc (ci := 8) (q0 := 0) rfl rfl, fun U hU hW => ⟨rfl, by rw [hU], by rw [hU]; exact hPc, va_K.moved hW.alike hK, hDc.weaken (fun _ _ _ _ => trivial)⟩⟩ rfl rfl hl.1 rfl (lv_room (Nat.le_of_ble_eq_true rfl)) d_Md_page_24 ⟨Nat.le_of_ble_eq_true rfl, Nat.le_of_ble_eq_true rfl⟩) hS (fun q _ h => hFc q h) hFc (fun r u t H1 locs ht hvm hw hB hz1 hk1 hS => ?_)
      obtain ⟨hP1, hK1, hD1⟩ := hB
      rw [ht] at hP1
      obtain ⟨_, rfl, rfl, rfl⟩ := hw
      obtain ⟨hP, hD⟩ := va_join (wr := []) (w1 := (wMd cI cJ cZ h0 h1 h2 h3 h4 h5 h6 h7 h8 h9 h10 h11 h12 h13 h14 h15 h16 h17 h18 h19 h20 h21 h22 h23 1 no ca ba nl xa sa da la ra fa ta ua uh uo ma mh ml nf fo fh fs rs ic mn bh bo ya np pa nc cp)) hP hD [0, 1, 2, 3, 4, 5, 6, 7, 8, 9, 10, 11, 12, 13, 14, 15, 16, 17, 18, 19, 20, 21, 22, 23] [] rfl rfl (by decide) (by decide) hk1 hFc hP1 hD1
      generalize H1 = H at hP hS ⊢
      have hP : va_P D vwCl (wMd cI cJ cZ h0 h1 h2 h3 h4 h5 h6 h7 h8 h9 h10 h11 h12 h13 h14 h15 h16 h17 h18 h19 h20 h21 h22 h23 1 no ca ba nl xa sa da la ra fa ta ua uh uo ma mh ml nf fo fh fs rs ic mn bh bo ya np pa nc cp) H := hP
      have hD : va_D A (wMd cI cJ cZ h0 h1 h2 h3 h4 h5 h6 h7 h8 h9 h10 h11 h12 h13 h14 h15 h16 h17 h18 h19 h20 h21 h22 h23 1 no ca ba nl xa sa da la ra fa ta ua uh uo ma mh ml nf fo fh fs rs ic mn bh bo ya np pa nc cp) := hD
      refine W.widen (k := 0) (n := 0) (Nat.le_of_ble_eq_true rfl) (Nat.le_of_ble_eq_true rfl) ?_
      refine nv_if_ne (tgt := 32) hx hb d_Md_page_27 (by decide) (by decide) (fun c6 => absurd c6 (by decide)) (fun _ => ?_)
      refine nv_iconst (n := 0) hx hb d_Md_page_30 ?_
      have hP9 := hP.sub (ws' := (wMd cI cJ cZ h0 h1 h2 h3 h4 h5 h6 h7 h8 h9 h10 h11 h12 h13 h14 h15 h16 h17 h18 h19 h20 h21 h22 h23 1 no ca ba nl xa sa da la ra fa ta ua uh uo ma mh ml nf fo fh fs rs ic mn bh bo ya np pa nc cp)) [0, 1, 2, 3, 4, 5, 6, 7, 8, 9, 10, 11, 12, 13, 14, 15, 16, 17, 18, 19, 20, 21, 22, 23] rfl
      have hD9 := hD.sub (ws' := (wMd cI cJ cZ h0 h1 h2 h3 h4 h5 h6 h7 h8 h9 h10 h11 h12 h13 h14 h15 h16 h17 h18 h19 h20 h21 h22 h23 1 no ca ba nl xa sa da la ra fa ta ua uh uo ma mh ml nf fo fh fs rs ic mn bh bo ya np pa nc cp)) [0, 1, 2, 3, 4, 5, 6, 7, 8, 9, 10, 11, 12, 13, 14, 15, 16, 17, 18, 19, 20, 21, 22, 23] (by decide) rfl
      exact W.iret hx hb hr (fun t ht hW => ⟨⟨_, ((1), (pa), (np)), rfl, ⟨_, rfl, v⟩, by rw [ht]; exact hP9, va_K.moved hW.alike hK, hD9⟩, hS.F ht⟩) hS.2.2 d_Md_page_31
  · replace v := v.2 c2
    refine nv_iconst (n := 1) hx hb d_Md_page_10 ?_
    refine lv_goto (tgt := 15) hx hb d_Md_page_11 (by decide) ?_
    refine lv_iload_n hx hb d_Md_page_15 rfl (lv_at hl 1 rfl) ?_
    refine nv_iconst (n := 0) hx hb d_Md_page_16 ?_
    refine nv_sipush (z := 30000) hx hb d_Md_page_17 (by decide) ?_
    obtain ⟨k7, v⟩ := v
    refine vp_callSi (nv_runS (wc := []) (As := [.int (iI hrs), .int (iI 0), .int (iI 30000)]) (rest := [.int (iI 1), .ref h0]) ⟨hx, hb, hml, hown, hts⟩ (m_Md_within l D cI cJ cO cZ hrs 0 30000 (fun z => (z = 1 ∧ (0 ≤ hrs ∧ hrs ≤ 30000)) ∨ (z = 0 ∧ ¬ (0 ≤ hrs ∧ hrs ≤ 30000))) (s_Md_within hrs 0 30000 k7 (by decide) (by decide))) (nv_cwS (n := 3) hts wd_809 wd_810 wd_10 wd_811 (by decide +kernel) ⟨Nat.le_of_ble_eq_true rfl, Nat.le_of_ble_eq_true rfl⟩) hK (hP.sub [] rfl) rfl hl.1 rfl (Nat.le_of_ble_eq_true rfl) d_Md_page_20 (Nat.le_of_ble_eq_true rfl) (Nat.le_of_ble_eq_true rfl)) (fun r hr => ?_)
    rcases hr with ⟨_, rfl, ⟨rfl, c8⟩ | ⟨rfl, c8⟩⟩
    · replace v := v.1 c8
      refine nv_iconst (n := 1) hx hb d_Md_page_23 ?_
      have hPc := hP.sub (ws' := (wMd cI cJ cZ h0 h1 h2 h3 h4 h5 h6 h7 h8 h9 h10 h11 h12 h13 h14 h15 h16 h17 h18 h19 h20 h21 h22 h23 th no ca ba nl xa sa da la ra fa ta ua uh uo ma mh ml nf fo fh fs rs ic mn bh bo ya np pa nc cp)) [0, 1, 2, 3, 4, 5, 6, 7, 8, 9, 10, 11, 12, 13, 14, 15, 16, 17, 18, 19, 20, 21, 22, 23] rfl
      have hDc := hD.sub (ws' := (wMd cI cJ cZ h0 h1 h2 h3 h4 h5 h6 h7 h8 h9 h10 h11 h12 h13 h14 h15 h16 h17 h18 h19 h20 h21 h22 h23 th no ca ba nl xa sa da la ra fa ta ua uh uo ma mh ml nf fo fh fs rs ic mn bh bo ya np pa nc cp)) [0, 1, 2, 3, 4, 5, 6, 7, 8, 9, 10, 11, 12, 13, 14, 15, 16, 17, 18, 19, 20, 21, 22, 23] (by decide) rfl
      have hFc := va_free (wc := (wMd cI cJ cZ h0 h1 h2 h3 h4 h5 h6 h7 h8 h9 h10 h11 h12 h13 h14 h15 h16 h17 h18 h19 h20 h21 h22 h23 th no ca ba nl xa sa da la ra fa ta ua uh uo ma mh ml nf fo fh fs rs ic mn bh bo ya np pa nc cp)) hD hS hA [0, 1, 2, 3, 4, 5, 6, 7, 8, 9, 10, 11, 12, 13, 14, 15, 16, 17, 18, 19, 20, 21, 22, 23] rfl
      refine va_calli (va_runV (As := [.int (iI 1), .int (iI 1), .int (iI 1)]) (rest := []) ⟨hx, hb, hml, hown, hts⟩ (m_Md_goes l D cI cJ cO cZ h0 h1 h2 h3 h4 h5 h6 h7 h8 h9 h10 h11 h12 h13 h14 h15 h16 h17 h18 h19 h20 h21 h22 h23 H.size th no ca ba nl xa sa da la ra fa ta ua uh uo ma mh ml nf fo fh fs rs ic mn bh bo ya np pa nc cp 1 1 1 (fun z t => z = 1 ∧ t = 0) (s_Md_goes_111 th no ca ba nl xa sa da la ra fa ta ua uh uo ma mh ml nf fo fh fs rs ic mn bh bo ya np pa nc cp)) (nv_cwV (n := 3) hts wd_812 wd_814 sl_17 wd_10 wd_815 (by decide +kernel) ⟨Nat.le_of_ble_eq_true rfl, Nat.le_of_ble_eq_true rfl⟩) ⟨blW, va_recv hK hPc (ci := 8) (q0 := 0) rfl rfl, fun U hU hW => ⟨rfl, by rw [hU], by rw [hU]; exact hPc, va_K.moved hW.alike hK, hDc.weaken (fun _ _ _ _ => trivial)⟩⟩ rfl rfl hl.1 rfl (lv_room (Nat.le_of_ble_eq_true rfl)) d_Md_page_24 ⟨Nat.le_of_ble_eq_true rfl, Nat.le_of_ble_eq_true rfl⟩) hS (fun q _ h => hFc q h) hFc (fun r u t H1 locs ht hvm hw hB hz1 hk1 hS => ?_)
      obtain ⟨hP1, hK1, hD1⟩ := hB
      rw [ht] at hP1
      obtain ⟨_, rfl, rfl, rfl⟩ := hw
      obtain ⟨hP, hD⟩ := va_join (wr := []) (w1 := (wMd cI cJ cZ h0 h1 h2 h3 h4 h5 h6 h7 h8 h9 h10 h11 h12 h13 h14 h15 h16 h17 h18 h19 h20 h21 h22 h23 0 no ca ba nl xa sa da la ra fa ta ua uh uo ma mh ml nf fo fh fs rs ic mn bh bo ya np pa nc cp)) hP hD [0, 1, 2, 3, 4, 5, 6, 7, 8, 9, 10, 11, 12, 13, 14, 15, 16, 17, 18, 19, 20, 21, 22, 23] [] rfl rfl (by decide) (by decide) hk1 hFc hP1 hD1
      generalize H1 = H at hP hS ⊢
      have hP : va_P D vwCl (wMd cI cJ cZ h0 h1 h2 h3 h4 h5 h6 h7 h8 h9 h10 h11 h12 h13 h14 h15 h16 h17 h18 h19 h20 h21 h22 h23 0 no ca ba nl xa sa da la ra fa ta ua uh uo ma mh ml nf fo fh fs rs ic mn bh bo ya np pa nc cp) H := hP
      have hD : va_D A (wMd cI cJ cZ h0 h1 h2 h3 h4 h5 h6 h7 h8 h9 h10 h11 h12 h13 h14 h15 h16 h17 h18 h19 h20 h21 h22 h23 0 no ca ba nl xa sa da la ra fa ta ua uh uo ma mh ml nf fo fh fs rs ic mn bh bo ya np pa nc cp) := hD
      refine W.widen (k := 0) (n := 0) (Nat.le_of_ble_eq_true rfl) (Nat.le_of_ble_eq_true rfl) ?_
      refine nv_if_ne (tgt := 32) hx hb d_Md_page_27 (by decide) (by decide) (fun _ => ?_) (fun c9 => absurd c9 (by decide))
      refine lv_aload_n hx hb d_Md_page_32 rfl (lv_at hl 0 rfl) ?_
      refine va_get (D := D) (ci := 8) (v := .ref h22) (C := "LightDosesModel") (T := T_Md) (N := 32) hx hb hts in_Md hown hK hP 0 rfl rfl 29 (by decide) (hts _ wd_732) (fun _ h9 => h9) rfl d_Md_page_33 ?_
      refine lv_aload_n hx hb d_Md_page_36 rfl (lv_at hl 0 rfl) ?_
      refine va_get (D := D) (ci := 8) (v := .int (iI np)) (C := "LightDosesModel") (T := T_Md) (N := 32) hx hb hts in_Md hown hK hP 0 rfl rfl 28 (by decide) (hts _ wd_731) (fun _ h9 => h9) rfl d_Md_page_37 ?_
      refine lv_iload_n hx hb d_Md_page_40 rfl (lv_at hl 1 rfl) ?_
      obtain ⟨k10, v⟩ := v
      refine nv_iast (f := pa) hx hb hK hP hD hS 22 0 rfl rfl (np).toNat (Int.toNat_of_nonneg k10.1).symm (by omega) (by decide) d_Md_page_41 (fun H locs hP hD hS => ?_)
      have hP : va_P D vwCl (wMd cI cJ cZ h0 h1 h2 h3 h4 h5 h6 h7 h8 h9 h10 h11 h12 h13 h14 h15 h16 h17 h18 h19 h20 h21 h22 h23 0 no ca ba nl xa sa da la ra fa ta ua uh uo ma mh ml nf fo fh fs rs ic mn bh bo ya np (va_up pa (np).toNat hrs) nc cp) H := hP
      have hD : va_D A (wMd cI cJ cZ h0 h1 h2 h3 h4 h5 h6 h7 h8 h9 h10 h11 h12 h13 h14 h15 h16 h17 h18 h19 h20 h21 h22 h23 0 no ca ba nl xa sa da la ra fa ta ua uh uo ma mh ml nf fo fh fs rs ic mn bh bo ya np (va_up pa (np).toNat hrs) nc cp) := hD
      refine lv_aload_n hx hb d_Md_page_42 rfl (lv_at hl 0 rfl) ?_
      refine lv_dup hx hb d_Md_page_43 rfl ?_
      refine va_get (D := D) (ci := 8) (v := .int (iI np)) (C := "LightDosesModel") (T := T_Md) (N := 32) hx hb hts in_Md hown hK hP 0 rfl rfl 28 (by decide) (hts _ wd_731) (fun _ h9 => h9) rfl d_Md_page_44 ?_
      refine nv_iconst (n := 1) hx hb d_Md_page_47 ?_
      refine nv_iadd (z := np + 1) hx hb d_Md_page_48 (by first | rfl | omega) ?_
      refine va_put (D := D) (ci := 8) (v := .int (iI (np + 1))) (ty := .int) (C := "LightDosesModel") (T := T_Md) (N := 32) hx hb hts in_Md t_Md tok_Md n_Md hown hK hP hD hS 0 rfl rfl 28 (by decide) (hts _ wd_731) (fun _ h9 => h9) rfl (by decide +kernel) rfl rfl (Nat.le_of_ble_eq_true rfl) d_Md_page_49 (fun H locs hP hD hS => ?_)
      have hP : va_P D vwCl (wMd cI cJ cZ h0 h1 h2 h3 h4 h5 h6 h7 h8 h9 h10 h11 h12 h13 h14 h15 h16 h17 h18 h19 h20 h21 h22 h23 0 no ca ba nl xa sa da la ra fa ta ua uh uo ma mh ml nf fo fh fs rs ic mn bh bo ya (np + 1) (va_up pa (np).toNat hrs) nc cp) H := hP
      have hD : va_D A (wMd cI cJ cZ h0 h1 h2 h3 h4 h5 h6 h7 h8 h9 h10 h11 h12 h13 h14 h15 h16 h17 h18 h19 h20 h21 h22 h23 0 no ca ba nl xa sa da la ra fa ta ua uh uo ma mh ml nf fo fh fs rs ic mn bh bo ya (np + 1) (va_up pa (np).toNat hrs) nc cp) := hD
      refine lv_aload_n hx hb d_Md_page_52 rfl (lv_at hl 0 rfl) ?_
      refine va_get (D := D) (ci := 8) (v := .int (iI (np + 1))) (C := "LightDosesModel") (T := T_Md) (N := 32) hx hb hts in_Md hown hK hP 0 rfl rfl 28 (by decide) (hts _ wd_731) (fun _ h9 => h9) rfl d_Md_page_53 ?_
      have hP9 := hP.sub (ws' := (wMd cI cJ cZ h0 h1 h2 h3 h4 h5 h6 h7 h8 h9 h10 h11 h12 h13 h14 h15 h16 h17 h18 h19 h20 h21 h22 h23 0 no ca ba nl xa sa da la ra fa ta ua uh uo ma mh ml nf fo fh fs rs ic mn bh bo ya (np + 1) (va_up pa (np).toNat hrs) nc cp)) [0, 1, 2, 3, 4, 5, 6, 7, 8, 9, 10, 11, 12, 13, 14, 15, 16, 17, 18, 19, 20, 21, 22, 23] rfl
      have hD9 := hD.sub (ws' := (wMd cI cJ cZ h0 h1 h2 h3 h4 h5 h6 h7 h8 h9 h10 h11 h12 h13 h14 h15 h16 h17 h18 h19 h20 h21 h22 h23 0 no ca ba nl xa sa da la ra fa ta ua uh uo ma mh ml nf fo fh fs rs ic mn bh bo ya (np + 1) (va_up pa (np).toNat hrs) nc cp)) [0, 1, 2, 3, 4, 5, 6, 7, 8, 9, 10, 11, 12, 13, 14, 15, 16, 17, 18, 19, 20, 21, 22, 23] (by decide) rfl
      exact W.iret hx hb hr (fun t ht hW => ⟨⟨_, ((0), (va_up pa (np).toNat hrs), (np + 1)), rfl, ⟨_, rfl, v⟩, by rw [ht]; exact hP9, va_K.moved hW.alike hK, hD9⟩, hS.F ht⟩) hS.2.2 d_Md_page_56
    · replace v := v.2 c8
      refine nv_iconst (n := 1) hx hb d_Md_page_23 ?_
      have hPc := hP.sub (ws' := (wMd cI cJ cZ h0 h1 h2 h3 h4 h5 h6 h7 h8 h9 h10 h11 h12 h13 h14 h15 h16 h17 h18 h19 h20 h21 h22 h23 th no ca ba nl xa sa da la ra fa ta ua uh uo ma mh ml nf fo fh fs rs ic mn bh bo ya np pa nc cp)) [0, 1, 2, 3, 4, 5, 6, 7, 8, 9, 10, 11, 12, 13, 14, 15, 16, 17, 18, 19, 20, 21, 22, 23] rfl
      have hDc := hD.sub (ws' := (wMd cI cJ cZ h0 h1 h2 h3 h4 h5 h6 h7 h8 h9 h10 h11 h12 h13 h14 h15 h16 h17 h18 h19 h20 h21 h22 h23 th no ca ba nl xa sa da la ra fa ta ua uh uo ma mh ml nf fo fh fs rs ic mn bh bo ya np pa nc cp)) [0, 1, 2, 3, 4, 5, 6, 7, 8, 9, 10, 11, 12, 13, 14, 15, 16, 17, 18, 19, 20, 21, 22, 23] (by decide) rfl
      have hFc := va_free (wc := (wMd cI cJ cZ h0 h1 h2 h3 h4 h5 h6 h7 h8 h9 h10 h11 h12 h13 h14 h15 h16 h17 h18 h19 h20 h21 h22 h23 th no ca ba nl xa sa da la ra fa ta ua uh uo ma mh ml nf fo fh fs rs ic mn bh bo ya np pa nc cp)) hD hS hA [0, 1, 2, 3, 4, 5, 6, 7, 8, 9, 10, 11, 12, 13, 14, 15, 16, 17, 18, 19, 20, 21, 22, 23] rfl
      refine va_calli (va_runV (As := [.int (iI 1), .int (iI 0), .int (iI 1)]) (rest := []) ⟨hx, hb, hml, hown, hts⟩ (m_Md_goes l D cI cJ cO cZ h0 h1 h2 h3 h4 h5 h6 h7 h8 h9 h10 h11 h12 h13 h14 h15 h16 h17 h18 h19 h20 h21 h22 h23 H.size th no ca ba nl xa sa da la ra fa ta ua uh uo ma mh ml nf fo fh fs rs ic mn bh bo ya np pa nc cp 1 0 1 (fun z t => z = 0 ∧ t = 2) (s_Md_goes_101 th no ca ba nl xa sa da la ra fa ta ua uh uo ma mh ml nf fo fh fs rs ic mn bh bo ya np pa nc cp)) (nv_cwV (n := 3) hts wd_812 wd_814 sl_17 wd_10 wd_815 (by decide +kernel) ⟨Nat.le_of_ble_eq_true rfl, Nat.le_of_ble_eq_true rfl⟩) ⟨blW, va_recv hK hPc (ci := 8) (q0 := 0) rfl rfl, fun U hU hW => ⟨rfl, by rw [hU], by rw [hU]; exact hPc, va_K.moved hW.alike hK, hDc.weaken (fun _ _ _ _ => trivial)⟩⟩ rfl rfl hl.1 rfl (lv_room (Nat.le_of_ble_eq_true rfl)) d_Md_page_24 ⟨Nat.le_of_ble_eq_true rfl, Nat.le_of_ble_eq_true rfl⟩) hS (fun q _ h => hFc q h) hFc (fun r u t H1 locs ht hvm hw hB hz1 hk1 hS => ?_)
      obtain ⟨hP1, hK1, hD1⟩ := hB
      rw [ht] at hP1
      obtain ⟨_, rfl, rfl, rfl⟩ := hw
      obtain ⟨hP, hD⟩ := va_join (wr := []) (w1 := (wMd cI cJ cZ h0 h1 h2 h3 h4 h5 h6 h7 h8 h9 h10 h11 h12 h13 h14 h15 h16 h17 h18 h19 h20 h21 h22 h23 2 no ca ba nl xa sa da la ra fa ta ua uh uo ma mh ml nf fo fh fs rs ic mn bh bo ya np pa nc cp)) hP hD [0, 1, 2, 3, 4, 5, 6, 7, 8, 9, 10, 11, 12, 13, 14, 15, 16, 17, 18, 19, 20, 21, 22, 23] [] rfl rfl (by decide) (by decide) hk1 hFc hP1 hD1
      generalize H1 = H at hP hS ⊢
      have hP : va_P D vwCl (wMd cI cJ cZ h0 h1 h2 h3 h4 h5 h6 h7 h8 h9 h10 h11 h12 h13 h14 h15 h16 h17 h18 h19 h20 h21 h22 h23 2 no ca ba nl xa sa da la ra fa ta ua uh uo ma mh ml nf fo fh fs rs ic mn bh bo ya np pa nc cp) H := hP
      have hD : va_D A (wMd cI cJ cZ h0 h1 h2 h3 h4 h5 h6 h7 h8 h9 h10 h11 h12 h13 h14 h15 h16 h17 h18 h19 h20 h21 h22 h23 2 no ca ba nl xa sa da la ra fa ta ua uh uo ma mh ml nf fo fh fs rs ic mn bh bo ya np pa nc cp) := hD
      refine W.widen (k := 0) (n := 0) (Nat.le_of_ble_eq_true rfl) (Nat.le_of_ble_eq_true rfl) ?_
      refine nv_if_ne (tgt := 32) hx hb d_Md_page_27 (by decide) (by decide) (fun c11 => absurd c11 (by decide)) (fun _ => ?_)
      refine nv_iconst (n := 0) hx hb d_Md_page_30 ?_
      have hP9 := hP.sub (ws' := (wMd cI cJ cZ h0 h1 h2 h3 h4 h5 h6 h7 h8 h9 h10 h11 h12 h13 h14 h15 h16 h17 h18 h19 h20 h21 h22 h23 2 no ca ba nl xa sa da la ra fa ta ua uh uo ma mh ml nf fo fh fs rs ic mn bh bo ya np pa nc cp)) [0, 1, 2, 3, 4, 5, 6, 7, 8, 9, 10, 11, 12, 13, 14, 15, 16, 17, 18, 19, 20, 21, 22, 23] rfl
      have hD9 := hD.sub (ws' := (wMd cI cJ cZ h0 h1 h2 h3 h4 h5 h6 h7 h8 h9 h10 h11 h12 h13 h14 h15 h16 h17 h18 h19 h20 h21 h22 h23 2 no ca ba nl xa sa da la ra fa ta ua uh uo ma mh ml nf fo fh fs rs ic mn bh bo ya np pa nc cp)) [0, 1, 2, 3, 4, 5, 6, 7, 8, 9, 10, 11, 12, 13, 14, 15, 16, 17, 18, 19, 20, 21, 22, 23] (by decide) rfl
      exact W.iret hx hb hr (fun t ht hW => ⟨⟨_, ((2), (pa), (np)), rfl, ⟨_, rfl, v⟩, by rw [ht]; exact hP9, va_K.moved hW.alike hK, hD9⟩, hS.F ht⟩) hS.2.2 d_Md_page_31

theorem d_Md_turned_0 : decode prog_10_method_36_code 0 = .ok (.aload_n 0, 1) := by decide +kernel
theorem d_Md_turned_1 : decode prog_10_method_36_code 1 = .ok (.iload_n 1, 1) := by decide +kernel
theorem d_Md_turned_2 : decode prog_10_method_36_code 2 = .ok (.ifCond .lt 15, 3) := by decide +kernel
theorem d_Md_turned_5 : decode prog_10_method_36_code 5 = .ok (.iload_n 1, 1) := by decide +kernel
theorem d_Md_turned_6 : decode prog_10_method_36_code 6 = .ok (.aload_n 0, 1) := by decide +kernel
theorem d_Md_turned_7 : decode prog_10_method_36_code 7 = .ok (.getfield 173, 3) := by decide +kernel
theorem d_Md_turned_10 : decode prog_10_method_36_code 10 = .ok (.if_icmp .ge 7, 3) := by decide +kernel
theorem d_Md_turned_13 : decode prog_10_method_36_code 13 = .ok (.iconst 1, 1) := by decide +kernel
theorem d_Md_turned_14 : decode prog_10_method_36_code 14 = .ok (.goto 4, 3) := by decide +kernel
theorem d_Md_turned_17 : decode prog_10_method_36_code 17 = .ok (.iconst 0, 1) := by decide +kernel
theorem d_Md_turned_18 : decode prog_10_method_36_code 18 = .ok (.iconst 1, 1) := by decide +kernel
theorem d_Md_turned_19 : decode prog_10_method_36_code 19 = .ok (.iconst 1, 1) := by decide +kernel
theorem d_Md_turned_20 : decode prog_10_method_36_code 20 = .ok (.invokevirtual 96, 3) := by decide +kernel
theorem d_Md_turned_23 : decode prog_10_method_36_code 23 = .ok (.ifCond .eq 12, 3) := by decide +kernel
theorem d_Md_turned_26 : decode prog_10_method_36_code 26 = .ok (.aload_n 0, 1) := by decide +kernel
theorem d_Md_turned_27 : decode prog_10_method_36_code 27 = .ok (.getfield 79, 3) := by decide +kernel
theorem d_Md_turned_30 : decode prog_10_method_36_code 30 = .ok (.iload_n 1, 1) := by decide +kernel
theorem d_Md_turned_31 : decode prog_10_method_36_code 31 = .ok (.iaload, 1) := by decide +kernel
theorem d_Md_turned_32 : decode prog_10_method_36_code 32 = .ok (.goto 4, 3) := by decide +kernel
theorem d_Md_turned_35 : decode prog_10_method_36_code 35 = .ok (.iconst 0, 1) := by decide +kernel
theorem d_Md_turned_36 : decode prog_10_method_36_code 36 = .ok (.ireturn, 1) := by decide +kernel
def vc_Md_turned (th : Int) (no : Int) (ca : Nat → Int) (ba : Nat → Int) (nl : Int) (xa : Nat → Int) (sa : Nat → Int) (da : Nat → Int) (la : Nat → Int) (ra : Nat → Int) (fa : Nat → Int) (ta : Nat → Int) (ua : Nat → Int) (uh : Nat → Int) (uo : Nat → Int) (ma : Nat → Int) (mh : Nat → Int) (ml : Nat → Int) (nf : Int) (fo : Nat → Int) (fh : Nat → Int) (fs : Nat → Int) (rs : Int) (ic : Int) (mn : Int) (bh : Nat → Int) (bo : Nat → Int) (ya : Nat → Int) (np : Int) (pa : Nat → Int) (nc : Int) (cp : Nat → Int) (k_ : Int) (post : Int → Int → Prop) : Prop := (r32 k_) ∧ ((k_ < 0 → post 0 1) ∧ (0 ≤ k_ → (r32 nc) ∧ ((nc ≤ k_ → post 0 1) ∧ (k_ < nc → (0 ≤ k_ ∧ k_ < 12) ∧ (post (cp (k_).toNat) 0)))))
set_option maxHeartbeats 4000000 in
set_option maxRecDepth 100000 in
theorem m_Md_turned (l : Launch) (D : va_G) (cI cJ cO cZ : ClassId) (h0 h1 h2 h3 h4 h5 h6 h7 h8 h9 h10 h11 h12 h13 h14 h15 h16 h17 h18 h19 h20 h21 h22 h23 : Nat) (sz : Nat) (th : Int) (no : Int) (ca : Nat → Int) (ba : Nat → Int) (nl : Int) (xa : Nat → Int) (sa : Nat → Int) (da : Nat → Int) (la : Nat → Int) (ra : Nat → Int) (fa : Nat → Int) (ta : Nat → Int) (ua : Nat → Int) (uh : Nat → Int) (uo : Nat → Int) (ma : Nat → Int) (mh : Nat → Int) (ml : Nat → Int) (nf : Int) (fo : Nat → Int) (fh : Nat → Int) (fs : Nat → Int) (rs : Int) (ic : Int) (mn : Int) (bh : Nat → Int) (bo : Nat → Int) (ya : Nat → Int) (np : Int) (pa : Nat → Int) (nc : Int) (cp : Nat → Int) (k_ : Int) (post : Int → Int → Prop) (v : vc_Md_turned th no ca ba nl xa sa da la ra fa ta ua uh uo ma mh ml nf fo fh fs rs ic mn bh bo ya np pa nc cp k_ post) : Met l ⟨"LightDosesModel", "turned", "(I)I"⟩ (.code ⟨"LightDosesModel", "turned", "(I)I"⟩ prog_10_method_36_code 2 (some .int) :: TG) { frames := 1, cells := 0, slots := 0, locals := 23 } (va_Pc [.ref h0, .int (iI k_)] (fun U => U.heap.size = sz ∧ va_P D vwCl (wMd cI cJ cZ h0 h1 h2 h3 h4 h5 h6 h7 h8 h9 h10 h11 h12 h13 h14 h15 h16 h17 h18 h19 h20 h21 h22 h23 th no ca ba nl xa sa da la ra fa ta ua uh uo ma mh ml nf fo fh fs rs ic mn bh bo ya np pa nc cp) U.heap ∧ va_K D vwCl (tyx cI cJ cO cZ) U ∧ va_D (fun _ => True) (wMd cI cJ cZ h0 h1 h2 h3 h4 h5 h6 h7 h8 h9 h10 h11 h12 h13 h14 h15 h16 h17 h18 h19 h20 h21 h22 h23 th no ca ba nl xa sa da la ra fa ta ua uh uo ma mh ml nf fo fh fs rs ic mn bh bo ya np pa nc cp))) (va_Qi (fun (r : Int32) (u : Int) => ∃ z : Int, r = iI z ∧ post z u) (fun u t => va_P D vwCl (wMd cI cJ cZ h0 h1 h2 h3 h4 h5 h6 h7 h8 h9 h10 h11 h12 h13 h14 h15 h16 h17 h18 h19 h20 h21 h22 h23 u no ca ba nl xa sa da la ra fa ta ua uh uo ma mh ml nf fo fh fs rs ic mn bh bo ya np pa nc cp) t.heap ∧ va_K D vwCl (tyx cI cJ cO cZ) t ∧ va_D (va_A (wMd cI cJ cZ h0 h1 h2 h3 h4 h5 h6 h7 h8 h9 h10 h11 h12 h13 h14 h15 h16 h17 h18 h19 h20 h21 h22 h23 th no ca ba nl xa sa da la ra fa ta ua uh uo ma mh ml nf fo fh fs rs ic mn bh bo ya np pa nc cp) sz) (wMd cI cJ cZ h0 h1 h2 h3 h4 h5 h6 h7 h8 h9 h10 h11 h12 h13 h14 h15 h16 h17 h18 h19 h20 h21 h22 h23 u no ca ba nl xa sa da la ra fa ta ua uh uo ma mh ml nf fo fh fs rs ic mn bh bo ya np pa nc cp)) (va_A (wMd cI cJ cZ h0 h1 h2 h3 h4 h5 h6 h7 h8 h9 h10 h11 h12 h13 h14 h15 h16 h17 h18 h19 h20 h21 h22 h23 th no ca ba nl xa sa da la ra fa ta ua uh uo ma mh ml nf fo fh fs rs ic mn bh bo ya np pa nc cp) sz)) 0 0 (va_A (wMd cI cJ cZ h0 h1 h2 h3 h4 h5 h6 h7 h8 h9 h10 h11 h12 h13 h14 h15 h16 h17 h18 h19 h20 h21 h22 h23 th no ca ba nl xa sa da la ra fa ta ua uh uo ma mh ml nf fo fh fs rs ic mn bh bo ya np pa nc cp) sz) := by
  refine Met.ofW (cc := prog_10_method_36_code) (maxL := 2) (ret := (some .int)) (by decide) rfl ?_
  intro p e s m args below meth c s₁ B hml hv
  obtain ⟨rfl, hsz, hP, hK, hD0⟩ := hv
  have hx := B.exec
  have hb := B.bytes
  have hr := B.returns
  have hts0 := atoms_spec (ws := (.code ⟨"LightDosesModel", "turned", "(I)I"⟩ prog_10_method_36_code 2 (some .int) :: TG)) B.pre
  have hts : ∀ w ∈ TG, w.before _ s = true := fun w h => hts0 w (List.mem_cons_of_mem _ h)
  have hown : s.vm.findClass "LightDosesModel" = some m.cls := findClass_of_methodNamed B.named
  have hlocks := B.notSynchronized
  subst hsz
  have hD := hD0.self (sz := s.heap.size)
  generalize hAe : va_A (wMd cI cJ cZ h0 h1 h2 h3 h4 h5 h6 h7 h8 h9 h10 h11 h12 h13 h14 h15 h16 h17 h18 h19 h20 h21 h22 h23 th no ca ba nl xa sa da la ra fa ta ua uh uo ma mh ml nf fo fh fs rs ic mn bh bo ya np pa nc cp) s.heap.size = A at hD ⊢
  have hA : ∀ q : Nat, s.heap.size ≤ q → A q := fun q h => by rw [← hAe]; exact Or.inr h
  have hS : va_S A s.heap s.heap [] := va_S.rf
  have hP : va_P D vwCl (wMd cI cJ cZ h0 h1 h2 h3 h4 h5 h6 h7 h8 h9 h10 h11 h12 h13 h14 h15 h16 h17 h18 h19 h20 h21 h22 h23 th no ca ba nl xa sa da la ra fa ta ua uh uo ma mh ml nf fo fh fs rs ic mn bh bo ya np pa nc cp) s.heap := hP
  have hl := lv_entry ([Value.ref h0, Value.int (iI k_)]) (n := 2) (Nat.le_of_ble_eq_true rfl)
  rw [lg_entry_eq]
  generalize (lg_sl ([Value.ref h0, Value.int (iI k_)]) ++ List.replicate (2 - (lg_sl ([Value.ref h0, Value.int (iI k_)])).length) Slot.unset).toArray = ls at hl ⊢
  have hl : lv_has ls 2 [(0, .ref h0), (1, .int (iI k_))] := hl
  unfold vc_Md_turned at v
  obtain ⟨H, hH⟩ : ∃ H, H = s.heap := ⟨_, rfl⟩
  obtain ⟨locs, hlc⟩ : ∃ L : List Loc, L = [] := ⟨_, rfl⟩
  rw [← hlc] at hS ⊢
  have hP : va_P D vwCl (wMd cI cJ cZ h0 h1 h2 h3 h4 h5 h6 h7 h8 h9 h10 h11 h12 h13 h14 h15 h16 h17 h18 h19 h20 h21 h22 h23 th no ca ba nl xa sa da la ra fa ta ua uh uo ma mh ml nf fo fh fs rs ic mn bh bo ya np pa nc cp) H := by rw [hH]; exact hP
  have hS : va_S A s.heap H locs := by rw [hH]; exact hS
  have hW0 : ∀ {X : Heap → Prop}, X H → X s.heap := fun h => by rw [← hH]; exact h
  refine hW0 (X := fun Z => W p l e _ s m _ below meth c Z locs 0 0 _ _) ?_
  refine lv_aload_n hx hb d_Md_turned_0 rfl (lv_at hl 0 rfl) ?_
  refine lv_iload_n hx hb d_Md_turned_1 rfl (lv_at hl 1 rfl) ?_
  obtain ⟨k1, v⟩ := v
  refine nv_if_lt (tgt := 17) hx hb d_Md_turned_2 (by decide) k1 (fun c2 => ?_) (fun c2 => ?_)
  · replace v := v.1 c2
    refine nv_iconst (n := 0) hx hb d_Md_turned_17 ?_
    refine nv_iconst (n := 1) hx hb d_Md_turned_18 ?_
    refine nv_iconst (n := 1) hx hb d_Md_turned_19 ?_
    have hPc := hP.sub (ws' := (wMd cI cJ cZ h0 h1 h2 h3 h4 h5 h6 h7 h8 h9 h10 h11 h12 h13 h14 h15 h16 h17 h18 h19 h20 h21 h22 h23 th no ca ba nl xa sa da la ra fa ta ua uh uo ma mh ml nf fo fh fs rs ic mn bh bo ya np pa nc cp)) [0, 1, 2, 3, 4, 5, 6, 7, 8, 9, 10, 11, 12, 13, 14, 15, 16, 17, 18, 19, 20, 21, 22, 23] rfl
    have hDc := hD.sub (ws' := (wMd cI cJ cZ h0 h1 h2 h3 h4 h5 h6 h7 h8 h9 h10 h11 h12 h13 h14 h15 h16 h17 h18 h19 h20 h21 h22 h23 th no ca ba nl xa sa da la ra fa ta ua uh uo ma mh ml nf fo fh fs rs ic mn bh bo ya np pa nc cp)) [0, 1, 2, 3, 4, 5, 6, 7, 8, 9, 10, 11, 12, 13, 14, 15, 16, 17, 18, 19, 20, 21, 22, 23] (by decide) rfl
    have hFc := va_free (wc := (wMd cI cJ cZ h0 h1 h2 h3 h4 h5 h6 h7 h8 h9 h10 h11 h12 h13 h14 h15 h16 h17 h18 h19 h20 h21 h22 h23 th no ca ba nl xa sa da la ra fa ta ua uh uo ma mh ml nf fo fh fs rs ic mn bh bo ya np pa nc cp)) hD hS hA [0, 1, 2, 3, 4, 5, 6, 7, 8, 9, 10, 11, 12, 13, 14, 15, 16, 17, 18, 19, 20, 21, 22, 23] rfl
    refine va_calli (va_runV (As := [.int (iI 0), .int (iI 1), .int (iI 1)]) (rest := []) ⟨hx, hb, hml, hown, hts⟩ (m_Md_goes l D cI cJ cO cZ h0 h1 h2 h3 h4 h5 h6 h7 h8 h9 h10 h11 h12 h13 h14 h15 h16 h17 h18 h19 h20 h21 h22 h23 H.size th no ca ba nl xa sa da la ra fa ta ua uh uo ma mh ml nf fo fh fs rs ic mn bh bo ya np pa nc cp 0 1 1 (fun z t => z = 0 ∧ t = 1) (s_Md_goes_011 th no ca ba nl xa sa da la ra fa ta ua uh uo ma mh ml nf fo fh fs rs ic mn bh bo ya np pa nc cp)) (nv_cwV (n := 3) hts wd_812 wd_814 sl_17 wd_10 wd_815 (by decide +kernel) ⟨Nat.le_of_ble_eq_true rfl, Nat.le_of_ble_eq_true rfl⟩) ⟨blW, va_recv hK hPc (ci := 8) (q0 := 0) rfl rfl, fun U hU hW => ⟨rfl, by rw [hU], by rw [hU]; exact hPc, va_K.moved hW.alike hK, hDc.weaken (fun _ _ _ _ => trivial)⟩⟩ rfl rfl hl.1 rfl (lv_room (Nat.le_of_ble_eq_true rfl)) d_Md_turned_20 ⟨Nat.le_of_ble_eq_true rfl, Nat.le_of_ble_eq_true rfl⟩) hS (fun q _ h => hFc q h) hFc (fun r u t H1 locs ht hvm hw hB hz1 hk1 hS => ?_)
    obtain ⟨hP1, hK1, hD1⟩ := hB
    rw [ht] at hP1
    obtain ⟨_, rfl, rfl, rfl⟩ := hw
    obtain ⟨hP, hD⟩ := va_join (wr := []) (w1 := (wMd cI cJ cZ h0 h1 h2 h3 h4 h5 h6 h7 h8 h9 h10 h11 h12 h13 h14 h15 h16 h17 h18 h19 h20 h21 h22 h23 1 no ca ba nl xa sa da la ra fa ta ua uh uo ma mh ml nf fo fh fs rs ic mn bh bo ya np pa nc cp)) hP hD [0, 1, 2, 3, 4, 5, 6, 7, 8, 9, 10, 11, 12, 13, 14, 15, 16, 17, 18, 19, 20, 21, 22, 23] [] rfl rfl (by decide) (by decide) hk1 hFc hP1 hD1
    generalize H1 = H at hP hS ⊢
    have hP : va_P D vwCl (wMd cI cJ cZ h0 h1 h2 h3 h4 h5 h6 h7 h8 h9 h10 h11 h12 h13 h14 h15 h16 h17 h18 h19 h20 h21 h22 h23 1 no ca ba nl xa sa da la ra fa ta ua uh uo ma mh ml nf fo fh fs rs ic mn bh bo ya np pa nc cp) H := hP
    have hD : va_D A (wMd cI cJ cZ h0 h1 h2 h3 h4 h5 h6 h7 h8 h9 h10 h11 h12 h13 h14 h15 h16 h17 h18 h19 h20 h21 h22 h23 1 no ca ba nl xa sa da la ra fa ta ua uh uo ma mh ml nf fo fh fs rs ic mn bh bo ya np pa nc cp) := hD
    refine W.widen (k := 0) (n := 0) (Nat.le_of_ble_eq_true rfl) (Nat.le_of_ble_eq_true rfl) ?_
    refine nv_if_eq (tgt := 35) hx hb d_Md_turned_23 (by decide) (by decide) (fun _ => ?_) (fun c3 => absurd c3 (by decide))
    refine nv_iconst (n := 0) hx hb d_Md_turned_35 ?_
    have hP9 := hP.sub (ws' := (wMd cI cJ cZ h0 h1 h2 h3 h4 h5 h6 h7 h8 h9 h10 h11 h12 h13 h14 h15 h16 h17 h18 h19 h20 h21 h22 h23 1 no ca ba nl xa sa da la ra fa ta ua uh uo ma mh ml nf fo fh fs rs ic mn bh bo ya np pa nc cp)) [0, 1, 2, 3, 4, 5, 6, 7, 8, 9, 10, 11, 12, 13, 14, 15, 16, 17, 18, 19, 20, 21, 22, 23] rfl
    have hD9 := hD.sub (ws' := (wMd cI cJ cZ h0 h1 h2 h3 h4 h5 h6 h7 h8 h9 h10 h11 h12 h13 h14 h15 h16 h17 h18 h19 h20 h21 h22 h23 1 no ca ba nl xa sa da la ra fa ta ua uh uo ma mh ml nf fo fh fs rs ic mn bh bo ya np pa nc cp)) [0, 1, 2, 3, 4, 5, 6, 7, 8, 9, 10, 11, 12, 13, 14, 15, 16, 17, 18, 19, 20, 21, 22, 23] (by decide) rfl
    exact W.iret hx hb hr (fun t ht hW => ⟨⟨_, ((1)), rfl, ⟨_, rfl, v⟩, by rw [ht]; exact hP9, va_K.moved hW.alike hK, hD9⟩, hS.F ht⟩) hS.2.2 d_Md_turned_36
  · replace v := v.2 c2
    refine lv_iload_n hx hb d_Md_turned_5 rfl (lv_at hl 1 rfl) ?_
    refine lv_aload_n hx hb d_Md_turned_6 rfl (lv_at hl 0 rfl) ?_
    refine va_get (D := D) (ci := 8) (v := .int (iI nc)) (C := "LightDosesModel") (T := T_Md) (N := 32) hx hb hts in_Md hown hK hP 0 rfl rfl 30 (by decide) (hts _ wd_733) (fun _ h9 => h9) rfl d_Md_turned_7 ?_
    obtain ⟨k4, v⟩ := v
    refine nv_icmp_ge (tgt := 17) hx hb d_Md_turned_10 (by decide) k1 k4 (fun c5 => ?_) (fun c5 => ?_)
    · replace v := v.1 c5
      refine nv_iconst (n := 0) hx hb d_Md_turned_17 ?_
      refine nv_iconst (n := 1) hx hb d_Md_turned_18 ?_
      refine nv_iconst (n := 1) hx hb d_Md_turned_19 ?_
      have hPc := hP.sub (ws' := (wMd cI cJ cZ h0 h1 h2 h3 h4 h5 h6 h7 h8 h9 h10 h11 h12 h13 h14 h15 h16 h17 h18 h19 h20 h21 h22 h23 th no ca ba nl xa sa da la ra fa ta ua uh uo ma mh ml nf fo fh fs rs ic mn bh bo ya np pa nc cp)) [0, 1, 2, 3, 4, 5, 6, 7, 8, 9, 10, 11, 12, 13, 14, 15, 16, 17, 18, 19, 20, 21, 22, 23] rfl
      have hDc := hD.sub (ws' := (wMd cI cJ cZ h0 h1 h2 h3 h4 h5 h6 h7 h8 h9 h10 h11 h12 h13 h14 h15 h16 h17 h18 h19 h20 h21 h22 h23 th no ca ba nl xa sa da la ra fa ta ua uh uo ma mh ml nf fo fh fs rs ic mn bh bo ya np pa nc cp)) [0, 1, 2, 3, 4, 5, 6, 7, 8, 9, 10, 11, 12, 13, 14, 15, 16, 17, 18, 19, 20, 21, 22, 23] (by decide) rfl
      have hFc := va_free (wc := (wMd cI cJ cZ h0 h1 h2 h3 h4 h5 h6 h7 h8 h9 h10 h11 h12 h13 h14 h15 h16 h17 h18 h19 h20 h21 h22 h23 th no ca ba nl xa sa da la ra fa ta ua uh uo ma mh ml nf fo fh fs rs ic mn bh bo ya np pa nc cp)) hD hS hA [0, 1, 2, 3, 4, 5, 6, 7, 8, 9, 10, 11, 12, 13, 14, 15, 16, 17, 18, 19, 20, 21, 22, 23] rfl
      refine va_calli (va_runV (As := [.int (iI 0), .int (iI 1), .int (iI 1)]) (rest := []) ⟨hx, hb, hml, hown, hts⟩ (m_Md_goes l D cI cJ cO cZ h0 h1 h2 h3 h4 h5 h6 h7 h8 h9 h10 h11 h12 h13 h14 h15 h16 h17 h18 h19 h20 h21 h22 h23 H.size th no ca ba nl xa sa da la ra fa ta ua uh uo ma mh ml nf fo fh fs rs ic mn bh bo ya np pa nc cp 0 1 1 (fun z t => z = 0 ∧ t = 1) (s_Md_goes_011 th no ca ba nl xa sa da la ra fa ta ua uh uo ma mh ml nf fo fh fs rs ic mn bh bo ya np pa nc cp)) (nv_cwV (n := 3) hts wd_812 wd_814 sl_17 wd_10 wd_815 (by decide +kernel) ⟨Nat.le_of_ble_eq_true rfl, Nat.le_of_ble_eq_true rfl⟩) ⟨blW, va_recv hK hPc (ci := 8) (q0 := 0) rfl rfl, fun U hU hW => ⟨rfl, by rw [hU], by rw [hU]; exact hPc, va_K.moved hW.alike hK, hDc.weaken (fun _ _ _ _ => trivial)⟩⟩ rfl rfl hl.1 rfl (lv_room (Nat.le_of_ble_eq_true rfl)) d_Md_turned_20 ⟨Nat.le_of_ble_eq_true rfl, Nat.le_of_ble_eq_true rfl⟩) hS (fun q _ h => hFc q h) hFc (fun r u t H1 locs ht hvm hw hB hz1 hk1 hS => ?_)
      obtain ⟨hP1, hK1, hD1⟩ := hB
      rw [ht] at hP1
      obtain ⟨_, rfl, rfl, rfl⟩ := hw
      obtain ⟨hP, hD⟩ := va_join (wr := []) (w1 := (wMd cI cJ cZ h0 h1 h2 h3 h4 h5 h6 h7 h8 h9 h10 h11 h12 h13 h14 h15 h16 h17 h18 h19 h20 h21 h22 h23 1 no ca ba nl xa sa da la ra fa ta ua uh uo ma mh ml nf fo fh fs rs ic mn bh bo ya np pa nc cp)) hP hD [0, 1, 2, 3, 4, 5, 6, 7, 8, 9, 10, 11, 12, 13, 14, 15, 16, 17, 18, 19, 20, 21, 22, 23] [] rfl rfl (by decide) (by decide) hk1 hFc hP1 hD1
      generalize H1 = H at hP hS ⊢
      have hP : va_P D vwCl (wMd cI cJ cZ h0 h1 h2 h3 h4 h5 h6 h7 h8 h9 h10 h11 h12 h13 h14 h15 h16 h17 h18 h19 h20 h21 h22 h23 1 no ca ba nl xa sa da la ra fa ta ua uh uo ma mh ml nf fo fh fs rs ic mn bh bo ya np pa nc cp) H := hP
      have hD : va_D A (wMd cI cJ cZ h0 h1 h2 h3 h4 h5 h6 h7 h8 h9 h10 h11 h12 h13 h14 h15 h16 h17 h18 h19 h20 h21 h22 h23 1 no ca ba nl xa sa da la ra fa ta ua uh uo ma mh ml nf fo fh fs rs ic mn bh bo ya np pa nc cp) := hD
      refine W.widen (k := 0) (n := 0) (Nat.le_of_ble_eq_true rfl) (Nat.le_of_ble_eq_true rfl) ?_
      refine nv_if_eq (tgt := 35) hx hb d_Md_turned_23 (by decide) (by decide) (fun _ => ?_) (fun c6 => absurd c6 (by decide))
      refine nv_iconst (n := 0) hx hb d_Md_turned_35 ?_
      have hP9 := hP.sub (ws' := (wMd cI cJ cZ h0 h1 h2 h3 h4 h5 h6 h7 h8 h9 h10 h11 h12 h13 h14 h15 h16 h17 h18 h19 h20 h21 h22 h23 1 no ca ba nl xa sa da la ra fa ta ua uh uo ma mh ml nf fo fh fs rs ic mn bh bo ya np pa nc cp)) [0, 1, 2, 3, 4, 5, 6, 7, 8, 9, 10, 11, 12, 13, 14, 15, 16, 17, 18, 19, 20, 21, 22, 23] rfl
      have hD9 := hD.sub (ws' := (wMd cI cJ cZ h0 h1 h2 h3 h4 h5 h6 h7 h8 h9 h10 h11 h12 h13 h14 h15 h16 h17 h18 h19 h20 h21 h22 h23 1 no ca ba nl xa sa da la ra fa ta ua uh uo ma mh ml nf fo fh fs rs ic mn bh bo ya np pa nc cp)) [0, 1, 2, 3, 4, 5, 6, 7, 8, 9, 10, 11, 12, 13, 14, 15, 16, 17, 18, 19, 20, 21, 22, 23] (by decide) rfl
      exact W.iret hx hb hr (fun t ht hW => ⟨⟨_, ((1)), rfl, ⟨_, rfl, v⟩, by rw [ht]; exact hP9, va_K.moved hW.alike hK, hD9⟩, hS.F ht⟩) hS.2.2 d_Md_turned_36
    · replace v := v.2 c5
      refine nv_iconst (n := 1) hx hb d_Md_turned_13 ?_
      refine lv_goto (tgt := 18) hx hb d_Md_turned_14 (by decide) ?_
      refine nv_iconst (n := 1) hx hb d_Md_turned_18 ?_
      refine nv_iconst (n := 1) hx hb d_Md_turned_19 ?_
      have hPc := hP.sub (ws' := (wMd cI cJ cZ h0 h1 h2 h3 h4 h5 h6 h7 h8 h9 h10 h11 h12 h13 h14 h15 h16 h17 h18 h19 h20 h21 h22 h23 th no ca ba nl xa sa da la ra fa ta ua uh uo ma mh ml nf fo fh fs rs ic mn bh bo ya np pa nc cp)) [0, 1, 2, 3, 4, 5, 6, 7, 8, 9, 10, 11, 12, 13, 14, 15, 16, 17, 18, 19, 20, 21, 22, 23] rfl
      have hDc := hD.sub (ws' := (wMd cI cJ cZ h0 h1 h2 h3 h4 h5 h6 h7 h8 h9 h10 h11 h12 h13 h14 h15 h16 h17 h18 h19 h20 h21 h22 h23 th no ca ba nl xa sa da la ra fa ta ua uh uo ma mh ml nf fo fh fs rs ic mn bh bo ya np pa nc cp)) [0, 1, 2, 3, 4, 5, 6, 7, 8, 9, 10, 11, 12, 13, 14, 15, 16, 17, 18, 19, 20, 21, 22, 23] (by decide) rfl
      have hFc := va_free (wc := (wMd cI cJ cZ h0 h1 h2 h3 h4 h5 h6 h7 h8 h9 h10 h11 h12 h13 h14 h15 h16 h17 h18 h19 h20 h21 h22 h23 th no ca ba nl xa sa da la ra fa ta ua uh uo ma mh ml nf fo fh fs rs ic mn bh bo ya np pa nc cp)) hD hS hA [0, 1, 2, 3, 4, 5, 6, 7, 8, 9, 10, 11, 12, 13, 14, 15, 16, 17, 18, 19, 20, 21, 22, 23] rfl
      refine va_calli (va_runV (As := [.int (iI 1), .int (iI 1), .int (iI 1)]) (rest := []) ⟨hx, hb, hml, hown, hts⟩ (m_Md_goes l D cI cJ cO cZ h0 h1 h2 h3 h4 h5 h6 h7 h8 h9 h10 h11 h12 h13 h14 h15 h16 h17 h18 h19 h20 h21 h22 h23 H.size th no ca ba nl xa sa da la ra fa ta ua uh uo ma mh ml nf fo fh fs rs ic mn bh bo ya np pa nc cp 1 1 1 (fun z t => z = 1 ∧ t = 0) (s_Md_goes_111 th no ca ba nl xa sa da la ra fa ta ua uh uo ma mh ml nf fo fh fs rs ic mn bh bo ya np pa nc cp)) (nv_cwV (n := 3) hts wd_812 wd_814 sl_17 wd_10 wd_815 (by decide +kernel) ⟨Nat.le_of_ble_eq_true rfl, Nat.le_of_ble_eq_true rfl⟩) ⟨blW, va_recv hK hPc (ci := 8) (q0 := 0) rfl rfl, fun U hU hW => ⟨rfl, by rw [hU], by rw [hU]; exact hPc, va_K.moved hW.alike hK, hDc.weaken (fun _ _ _ _ => trivial)⟩⟩ rfl rfl hl.1 rfl (lv_room (Nat.le_of_ble_eq_true rfl)) d_Md_turned_20 ⟨Nat.le_of_ble_eq_true rfl, Nat.le_of_ble_eq_true rfl⟩) hS (fun q _ h => hFc q h) hFc (fun r u t H1 locs ht hvm hw hB hz1 hk1 hS => ?_)
      obtain ⟨hP1, hK1, hD1⟩ := hB
      rw [ht] at hP1
      obtain ⟨_, rfl, rfl, rfl⟩ := hw
      obtain ⟨hP, hD⟩ := va_join (wr := []) (w1 := (wMd cI cJ cZ h0 h1 h2 h3 h4 h5 h6 h7 h8 h9 h10 h11 h12 h13 h14 h15 h16 h17 h18 h19 h20 h21 h22 h23 0 no ca ba nl xa sa da la ra fa ta ua uh uo ma mh ml nf fo fh fs rs ic mn bh bo ya np pa nc cp)) hP hD [0, 1, 2, 3, 4, 5, 6, 7, 8, 9, 10, 11, 12, 13, 14, 15, 16, 17, 18, 19, 20, 21, 22, 23] [] rfl rfl (by decide) (by decide) hk1 hFc hP1 hD1
      generalize H1 = H at hP hS ⊢
      have hP : va_P D vwCl (wMd cI cJ cZ h0 h1 h2 h3 h4 h5 h6 h7 h8 h9 h10 h11 h12 h13 h14 h15 h16 h17 h18 h19 h20 h21 h22 h23 0 no ca ba nl xa sa da la ra fa ta ua uh uo ma mh ml nf fo fh fs rs ic mn bh bo ya np pa nc cp) H := hP
      have hD : va_D A (wMd cI cJ cZ h0 h1 h2 h3 h4 h5 h6 h7 h8 h9 h10 h11 h12 h13 h14 h15 h16 h17 h18 h19 h20 h21 h22 h23 0 no ca ba nl xa sa da la ra fa ta ua uh uo ma mh ml nf fo fh fs rs ic mn bh bo ya np pa nc cp) := hD
      refine W.widen (k := 0) (n := 0) (Nat.le_of_ble_eq_true rfl) (Nat.le_of_ble_eq_true rfl) ?_
      refine nv_if_eq (tgt := 35) hx hb d_Md_turned_23 (by decide) (by decide) (fun c7 => absurd c7 (by decide)) (fun _ => ?_)
      refine lv_aload_n hx hb d_Md_turned_26 rfl (lv_at hl 0 rfl) ?_
      refine va_get (D := D) (ci := 8) (v := .ref h23) (C := "LightDosesModel") (T := T_Md) (N := 32) hx hb hts in_Md hown hK hP 0 rfl rfl 31 (by decide) (hts _ wd_734) (fun _ h9 => h9) rfl d_Md_turned_27 ?_
      refine lv_iload_n hx hb d_Md_turned_30 rfl (lv_at hl 1 rfl) ?_
      obtain ⟨k8, v⟩ := v
      refine nv_iald (f := cp) hx hb hK 0 (hP 23 _ rfl) rfl (k_).toNat (Int.toNat_of_nonneg k8.1).symm (by omega) (by decide) d_Md_turned_31 ?_
      refine lv_goto (tgt := 36) hx hb d_Md_turned_32 (by decide) ?_
      have hP9 := hP.sub (ws' := (wMd cI cJ cZ h0 h1 h2 h3 h4 h5 h6 h7 h8 h9 h10 h11 h12 h13 h14 h15 h16 h17 h18 h19 h20 h21 h22 h23 0 no ca ba nl xa sa da la ra fa ta ua uh uo ma mh ml nf fo fh fs rs ic mn bh bo ya np pa nc cp)) [0, 1, 2, 3, 4, 5, 6, 7, 8, 9, 10, 11, 12, 13, 14, 15, 16, 17, 18, 19, 20, 21, 22, 23] rfl
      have hD9 := hD.sub (ws' := (wMd cI cJ cZ h0 h1 h2 h3 h4 h5 h6 h7 h8 h9 h10 h11 h12 h13 h14 h15 h16 h17 h18 h19 h20 h21 h22 h23 0 no ca ba nl xa sa da la ra fa ta ua uh uo ma mh ml nf fo fh fs rs ic mn bh bo ya np pa nc cp)) [0, 1, 2, 3, 4, 5, 6, 7, 8, 9, 10, 11, 12, 13, 14, 15, 16, 17, 18, 19, 20, 21, 22, 23] (by decide) rfl
      exact W.iret hx hb hr (fun t ht hW => ⟨⟨_, ((0)), rfl, ⟨_, rfl, v⟩, by rw [ht]; exact hP9, va_K.moved hW.alike hK, hD9⟩, hS.F ht⟩) hS.2.2 d_Md_turned_36

theorem d_Md_count_0 : decode prog_10_method_37_code 0 = .ok (.aload_n 0, 1) := by decide +kernel
theorem d_Md_count_1 : decode prog_10_method_37_code 1 = .ok (.iload_n 1, 1) := by decide +kernel
theorem d_Md_count_2 : decode prog_10_method_37_code 2 = .ok (.iconst 0, 1) := by decide +kernel
theorem d_Md_count_3 : decode prog_10_method_37_code 3 = .ok (.iconst 4, 1) := by decide +kernel
theorem d_Md_count_4 : decode prog_10_method_37_code 4 = .ok (.invokestatic 92, 3) := by decide +kernel
theorem d_Md_count_7 : decode prog_10_method_37_code 7 = .ok (.iconst 1, 1) := by decide +kernel
theorem d_Md_count_8 : decode prog_10_method_37_code 8 = .ok (.iconst 1, 1) := by decide +kernel
theorem d_Md_count_9 : decode prog_10_method_37_code 9 = .ok (.invokevirtual 96, 3) := by decide +kernel
theorem d_Md_count_12 : decode prog_10_method_37_code 12 = .ok (.ifCond .ne 5, 3) := by decide +kernel
theorem d_Md_count_15 : decode prog_10_method_37_code 15 = .ok (.iconst 0, 1) := by decide +kernel
theorem d_Md_count_16 : decode prog_10_method_37_code 16 = .ok (.ireturn, 1) := by decide +kernel
theorem d_Md_count_17 : decode prog_10_method_37_code 17 = .ok (.iload_n 1, 1) := by decide +kernel
theorem d_Md_count_18 : decode prog_10_method_37_code 18 = .ok (.ifCond .ne 10, 3) := by decide +kernel
theorem d_Md_count_21 : decode prog_10_method_37_code 21 = .ok (.aload_n 0, 1) := by decide +kernel
theorem d_Md_count_22 : decode prog_10_method_37_code 22 = .ok (.getfield 86, 3) := by decide +kernel
theorem d_Md_count_25 : decode prog_10_method_37_code 25 = .ok (.goto 43, 3) := by decide +kernel
theorem d_Md_count_28 : decode prog_10_method_37_code 28 = .ok (.iload_n 1, 1) := by decide +kernel
theorem d_Md_count_29 : decode prog_10_method_37_code 29 = .ok (.iconst 1, 1) := by decide +kernel
theorem d_Md_count_30 : decode prog_10_method_37_code 30 = .ok (.if_icmp .ne 10, 3) := by decide +kernel
theorem d_Md_count_33 : decode prog_10_method_37_code 33 = .ok (.aload_n 0, 1) := by decide +kernel
theorem d_Md_count_34 : decode prog_10_method_37_code 34 = .ok (.getfield 89, 3) := by decide +kernel
theorem d_Md_count_37 : decode prog_10_method_37_code 37 = .ok (.goto 31, 3) := by decide +kernel
theorem d_Md_count_40 : decode prog_10_method_37_code 40 = .ok (.iload_n 1, 1) := by decide +kernel
theorem d_Md_count_41 : decode prog_10_method_37_code 41 = .ok (.iconst 2, 1) := by decide +kernel
theorem d_Md_count_42 : decode prog_10_method_37_code 42 = .ok (.if_icmp .ne 10, 3) := by decide +kernel
theorem d_Md_count_45 : decode prog_10_method_37_code 45 = .ok (.aload_n 0, 1) := by decide +kernel
theorem d_Md_count_46 : decode prog_10_method_37_code 46 = .ok (.getfield 122, 3) := by decide +kernel
theorem d_Md_count_49 : decode prog_10_method_37_code 49 = .ok (.goto 19, 3) := by decide +kernel
theorem d_Md_count_52 : decode prog_10_method_37_code 52 = .ok (.iload_n 1, 1) := by decide +kernel
theorem d_Md_count_53 : decode prog_10_method_37_code 53 = .ok (.iconst 3, 1) := by decide +kernel
theorem d_Md_count_54 : decode prog_10_method_37_code 54 = .ok (.if_icmp .ne 10, 3) := by decide +kernel
theorem d_Md_count_57 : decode prog_10_method_37_code 57 = .ok (.aload_n 0, 1) := by decide +kernel
theorem d_Md_count_58 : decode prog_10_method_37_code 58 = .ok (.getfield 167, 3) := by decide +kernel
theorem d_Md_count_61 : decode prog_10_method_37_code 61 = .ok (.goto 7, 3) := by decide +kernel
theorem d_Md_count_64 : decode prog_10_method_37_code 64 = .ok (.aload_n 0, 1) := by decide +kernel
theorem d_Md_count_65 : decode prog_10_method_37_code 65 = .ok (.getfield 173, 3) := by decide +kernel
theorem d_Md_count_68 : decode prog_10_method_37_code 68 = .ok (.ireturn, 1) := by decide +kernel
def vc_Md_count (th : Int) (no : Int) (ca : Nat → Int) (ba : Nat → Int) (nl : Int) (xa : Nat → Int) (sa : Nat → Int) (da : Nat → Int) (la : Nat → Int) (ra : Nat → Int) (fa : Nat → Int) (ta : Nat → Int) (ua : Nat → Int) (uh : Nat → Int) (uo : Nat → Int) (ma : Nat → Int) (mh : Nat → Int) (ml : Nat → Int) (nf : Int) (fo : Nat → Int) (fh : Nat → Int) (fs : Nat → Int) (rs : Int) (ic : Int) (mn : Int) (bh : Nat → Int) (bo : Nat → Int) (ya : Nat → Int) (np : Int) (pa : Nat → Int) (nc : Int) (cp : Nat → Int) (w_ : Int) (post : Int → Int → Prop) : Prop := (r32 w_) ∧ (((0 ≤ w_ ∧ w_ ≤ 4) → (¬ w_ = 0 → (¬ w_ = 1 → (¬ w_ = 2 → (¬ w_ = 3 → post nc 0) ∧ (w_ = 3 → post np 0)) ∧ (w_ = 2 → post nf 0)) ∧ (w_ = 1 → post nl 0)) ∧ (w_ = 0 → post no 0)) ∧ (¬ (0 ≤ w_ ∧ w_ ≤ 4) → post 0 1))
set_option maxHeartbeats 4000000 in
set_option maxRecDepth 100000 in
theorem m_Md_count (l : Launch) (D : va_G) (cI cJ cO cZ : ClassId) (h0 h1 h2 h3 h4 h5 h6 h7 h8 h9 h10 h11 h12 h13 h14 h15 h16 h17 h18 h19 h20 h21 h22 h23 : Nat) (sz : Nat) (th : Int) (no : Int) (ca : Nat → Int) (ba : Nat → Int) (nl : Int) (xa : Nat → Int) (sa : Nat → Int) (da : Nat → Int) (la : Nat → Int) (ra : Nat → Int) (fa : Nat → Int) (ta : Nat → Int) (ua : Nat → Int) (uh : Nat → Int) (uo : Nat → Int) (ma : Nat → Int) (mh : Nat → Int) (ml : Nat → Int) (nf : Int) (fo : Nat → Int) (fh : Nat → Int) (fs : Nat → Int) (rs : Int) (ic : Int) (mn : Int) (bh : Nat → Int) (bo : Nat → Int) (ya : Nat → Int) (np : Int) (pa : Nat → Int) (nc : Int) (cp : Nat → Int) (w_ : Int) (post : Int → Int → Prop) (v : vc_Md_count th no ca ba nl xa sa da la ra fa ta ua uh uo ma mh ml nf fo fh fs rs ic mn bh bo ya np pa nc cp w_ post) : Met l ⟨"LightDosesModel", "count", "(I)I"⟩ (.code ⟨"LightDosesModel", "count", "(I)I"⟩ prog_10_method_37_code 2 (some .int) :: TG) { frames := 1, cells := 0, slots := 0, locals := 23 } (va_Pc [.ref h0, .int (iI w_)] (fun U => U.heap.size = sz ∧ va_P D vwCl (wMd cI cJ cZ h0 h1 h2 h3 h4 h5 h6 h7 h8 h9 h10 h11 h12 h13 h14 h15 h16 h17 h18 h19 h20 h21 h22 h23 th no ca ba nl xa sa da la ra fa ta ua uh uo ma mh ml nf fo fh fs rs ic mn bh bo ya np pa nc cp) U.heap ∧ va_K D vwCl (tyx cI cJ cO cZ) U ∧ va_D (fun _ => True) (wMd cI cJ cZ h0 h1 h2 h3 h4 h5 h6 h7 h8 h9 h10 h11 h12 h13 h14 h15 h16 h17 h18 h19 h20 h21 h22 h23 th no ca ba nl xa sa da la ra fa ta ua uh uo ma mh ml nf fo fh fs rs ic mn bh bo ya np pa nc cp))) (va_Qi (fun (r : Int32) (u : Int) => ∃ z : Int, r = iI z ∧ post z u) (fun u t => va_P D vwCl (wMd cI cJ cZ h0 h1 h2 h3 h4 h5 h6 h7 h8 h9 h10 h11 h12 h13 h14 h15 h16 h17 h18 h19 h20 h21 h22 h23 u no ca ba nl xa sa da la ra fa ta ua uh uo ma mh ml nf fo fh fs rs ic mn bh bo ya np pa nc cp) t.heap ∧ va_K D vwCl (tyx cI cJ cO cZ) t ∧ va_D (va_A (wMd cI cJ cZ h0 h1 h2 h3 h4 h5 h6 h7 h8 h9 h10 h11 h12 h13 h14 h15 h16 h17 h18 h19 h20 h21 h22 h23 th no ca ba nl xa sa da la ra fa ta ua uh uo ma mh ml nf fo fh fs rs ic mn bh bo ya np pa nc cp) sz) (wMd cI cJ cZ h0 h1 h2 h3 h4 h5 h6 h7 h8 h9 h10 h11 h12 h13 h14 h15 h16 h17 h18 h19 h20 h21 h22 h23 u no ca ba nl xa sa da la ra fa ta ua uh uo ma mh ml nf fo fh fs rs ic mn bh bo ya np pa nc cp)) (va_A (wMd cI cJ cZ h0 h1 h2 h3 h4 h5 h6 h7 h8 h9 h10 h11 h12 h13 h14 h15 h16 h17 h18 h19 h20 h21 h22 h23 th no ca ba nl xa sa da la ra fa ta ua uh uo ma mh ml nf fo fh fs rs ic mn bh bo ya np pa nc cp) sz)) 0 0 (va_A (wMd cI cJ cZ h0 h1 h2 h3 h4 h5 h6 h7 h8 h9 h10 h11 h12 h13 h14 h15 h16 h17 h18 h19 h20 h21 h22 h23 th no ca ba nl xa sa da la ra fa ta ua uh uo ma mh ml nf fo fh fs rs ic mn bh bo ya np pa nc cp) sz) := by
  refine Met.ofW (cc := prog_10_method_37_code) (maxL := 2) (ret := (some .int)) (by decide) rfl ?_
  intro p e s m args below meth c s₁ B hml hv
  obtain ⟨rfl, hsz, hP, hK, hD0⟩ := hv
  have hx := B.exec
  have hb := B.bytes
  have hr := B.returns
  have hts0 := atoms_spec (ws := (.code ⟨"LightDosesModel", "count", "(I)I"⟩ prog_10_method_37_code 2 (some .int) :: TG)) B.pre
  have hts : ∀ w ∈ TG, w.before _ s = true := fun w h => hts0 w (List.mem_cons_of_mem _ h)
  have hown : s.vm.findClass "LightDosesModel" = some m.cls := findClass_of_methodNamed B.named
  have hlocks := B.notSynchronized
  subst hsz
  have hD := hD0.self (sz := s.heap.size)
  generalize hAe : va_A (wMd cI cJ cZ h0 h1 h2 h3 h4 h5 h6 h7 h8 h9 h10 h11 h12 h13 h14 h15 h16 h17 h18 h19 h20 h21 h22 h23 th no ca ba nl xa sa da la ra fa ta ua uh uo ma mh ml nf fo fh fs rs ic mn bh bo ya np pa nc cp) s.heap.size = A at hD ⊢
  have hA : ∀ q : Nat, s.heap.size ≤ q → A q := fun q h => by rw [← hAe]; exact Or.inr h
  have hS : va_S A s.heap s.heap [] := va_S.rf
  have hP : va_P D vwCl (wMd cI cJ cZ h0 h1 h2 h3 h4 h5 h6 h7 h8 h9 h10 h11 h12 h13 h14 h15 h16 h17 h18 h19 h20 h21 h22 h23 th no ca ba nl xa sa da la ra fa ta ua uh uo ma mh ml nf fo fh fs rs ic mn bh bo ya np pa nc cp) s.heap := hP
  have hl := lv_entry ([Value.ref h0, Value.int (iI w_)]) (n := 2) (Nat.le_of_ble_eq_true rfl)
  rw [lg_entry_eq]
  generalize (lg_sl ([Value.ref h0, Value.int (iI w_)]) ++ List.replicate (2 - (lg_sl ([Value.ref h0, Value.int (iI w_)])).length) Slot.unset).toArray = ls at hl ⊢
  have hl : lv_has ls 2 [(0, .ref h0), (1, .int (iI w_))] := hl
  unfold vc_Md_count at v
  obtain ⟨H, hH⟩ : ∃ H, H = s.heap := ⟨_, rfl⟩
  obtain ⟨locs, hlc⟩ : ∃ L : List Loc, L = [] := ⟨_, rfl⟩
  rw [← hlc] at hS ⊢
  have hP : va_P D vwCl (wMd cI cJ cZ h0 h1 h2 h3 h4 h5 h6 h7 h8 h9 h10 h11 h12 h13 h14 h15 h16 h17 h18 h19 h20 h21 h22 h23 th no ca ba nl xa sa da la ra fa ta ua uh uo ma mh ml nf fo fh fs rs ic mn bh bo ya np pa nc cp) H := by rw [hH]; exact hP
  have hS : va_S A s.heap H locs := by rw [hH]; exact hS
  have hW0 : ∀ {X : Heap → Prop}, X H → X s.heap := fun h => by rw [← hH]; exact h
  refine hW0 (X := fun Z => W p l e _ s m _ below meth c Z locs 0 0 _ _) ?_
  refine lv_aload_n hx hb d_Md_count_0 rfl (lv_at hl 0 rfl) ?_
  refine lv_iload_n hx hb d_Md_count_1 rfl (lv_at hl 1 rfl) ?_
  refine nv_iconst (n := 0) hx hb d_Md_count_2 ?_
  refine nv_iconst (n := 4) hx hb d_Md_count_3 ?_
  obtain ⟨k1, v⟩ := v
  refine vp_callSi (nv_runS (wc := []) (As := [.int (iI w_), .int (iI 0), .int (iI 4)]) (rest := [.ref h0]) ⟨hx, hb, hml, hown, hts⟩ (m_Md_within l D cI cJ cO cZ w_ 0 4 (fun z => (z = 1 ∧ (0 ≤ w_ ∧ w_ ≤ 4)) ∨ (z = 0 ∧ ¬ (0 ≤ w_ ∧ w_ ≤ 4))) (s_Md_within w_ 0 4 k1 (by decide) (by decide))) (nv_cwS (n := 3) hts wd_809 wd_810 wd_10 wd_811 (by decide +kernel) ⟨Nat.le_of_ble_eq_true rfl, Nat.le_of_ble_eq_true rfl⟩) hK (hP.sub [] rfl) rfl hl.1 rfl (Nat.le_of_ble_eq_true rfl) d_Md_count_4 (Nat.le_of_ble_eq_true rfl) (Nat.le_of_ble_eq_true rfl)) (fun r hr => ?_)
  rcases hr with ⟨_, rfl, ⟨rfl, c2⟩ | ⟨rfl, c2⟩⟩
  · replace v := v.1 c2
    refine nv_iconst (n := 1) hx hb d_Md_count_7 ?_
    refine nv_iconst (n := 1) hx hb d_Md_count_8 ?_
    have hPc := hP.sub (ws' := (wMd cI cJ cZ h0 h1 h2 h3 h4 h5 h6 h7 h8 h9 h10 h11 h12 h13 h14 h15 h16 h17 h18 h19 h20 h21 h22 h23 th no ca ba nl xa sa da la ra fa ta ua uh uo ma mh ml nf fo fh fs rs ic mn bh bo ya np pa nc cp)) [0, 1, 2, 3, 4, 5, 6, 7, 8, 9, 10, 11, 12, 13, 14, 15, 16, 17, 18, 19, 20, 21, 22, 23] rfl
    have hDc := hD.sub (ws' := (wMd cI cJ cZ h0 h1 h2 h3 h4 h5 h6 h7 h8 h9 h10 h11 h12 h13 h14 h15 h16 h17 h18 h19 h20 h21 h22 h23 th no ca ba nl xa sa da la ra fa ta ua uh uo ma mh ml nf fo fh fs rs ic mn bh bo ya np pa nc cp)) [0, 1, 2, 3, 4, 5, 6, 7, 8, 9, 10, 11, 12, 13, 14, 15, 16, 17, 18, 19, 20, 21, 22, 23] (by decide) rfl
    have hFc := va_free (wc := (wMd cI cJ cZ h0 h1 h2 h3 h4 h5 h6 h7 h8 h9 h10 h11 h12 h13 h14 h15 h16 h17 h18 h19 h20 h21 h22 h23 th no ca ba nl xa sa da la ra fa ta ua uh uo ma mh ml nf fo fh fs rs ic mn bh bo ya np pa nc cp)) hD hS hA [0, 1, 2, 3, 4, 5, 6, 7, 8, 9, 10, 11, 12, 13, 14, 15, 16, 17, 18, 19, 20, 21, 22, 23] rfl
    refine va_calli (va_runV (As := [.int (iI 1), .int (iI 1), .int (iI 1)]) (rest := []) ⟨hx, hb, hml, hown, hts⟩ (m_Md_goes l D cI cJ cO cZ h0 h1 h2 h3 h4 h5 h6 h7 h8 h9 h10 h11 h12 h13 h14 h15 h16 h17 h18 h19 h20 h21 h22 h23 H.size th no ca ba nl xa sa da la ra fa ta ua uh uo ma mh ml nf fo fh fs rs ic mn bh bo ya np pa nc cp 1 1 1 (fun z t => z = 1 ∧ t = 0) (s_Md_goes_111 th no ca ba nl xa sa da la ra fa ta ua uh uo ma mh ml nf fo fh fs rs ic mn bh bo ya np pa nc cp)) (nv_cwV (n := 3) hts wd_812 wd_814 sl_17 wd_10 wd_815 (by decide +kernel) ⟨Nat.le_of_ble_eq_true rfl, Nat.le_of_ble_eq_true rfl⟩) ⟨blW, va_recv hK hPc (ci := 8) (q0 := 0) rfl rfl, fun U hU hW => ⟨rfl, by rw [hU], by rw [hU]; exact hPc, va_K.moved hW.alike hK, hDc.weaken (fun _ _ _ _ => trivial)⟩⟩ rfl rfl hl.1 rfl (lv_room (Nat.le_of_ble_eq_true rfl)) d_Md_count_9 ⟨Nat.le_of_ble_eq_true rfl, Nat.le_of_ble_eq_true rfl⟩) hS (fun q _ h => hFc q h) hFc (fun r u t H1 locs ht hvm hw hB hz1 hk1 hS => ?_)
    obtain ⟨hP1, hK1, hD1⟩ := hB
    rw [ht] at hP1
    obtain ⟨_, rfl, rfl, rfl⟩ := hw
    obtain ⟨hP, hD⟩ := va_join (wr := []) (w1 := (wMd cI cJ cZ h0 h1 h2 h3 h4 h5 h6 h7 h8 h9 h10 h11 h12 h13 h14 h15 h16 h17 h18 h19 h20 h21 h22 h23 0 no ca ba nl xa sa da la ra fa ta ua uh uo ma mh ml nf fo fh fs rs ic mn bh bo ya np pa nc cp)) hP hD [0, 1, 2, 3, 4, 5, 6, 7, 8, 9, 10, 11, 12, 13, 14, 15, 16, 17, 18, 19, 20, 21, 22, 23] [] rfl rfl (by decide) (by decide) hk1 hFc hP1 hD1
    generalize H1 = H at hP hS ⊢
    have hP : va_P D vwCl (wMd cI cJ cZ h0 h1 h2 h3 h4 h5 h6 h7 h8 h9 h10 h11 h12 h13 h14 h15 h16 h17 h18 h19 h20 h21 h22 h23 0 no ca ba nl xa sa da la ra fa ta ua uh uo ma mh ml nf fo fh fs rs ic mn bh bo ya np pa nc cp) H := hP
    have hD : va_D A (wMd cI cJ cZ h0 h1 h2 h3 h4 h5 h6 h7 h8 h9 h10 h11 h12 h13 h14 h15 h16 h17 h18 h19 h20 h21 h22 h23 0 no ca ba nl xa sa da la ra fa ta ua uh uo ma mh ml nf fo fh fs rs ic mn bh bo ya np pa nc cp) := hD
    refine W.widen (k := 0) (n := 0) (Nat.le_of_ble_eq_true rfl) (Nat.le_of_ble_eq_true rfl) ?_
    refine nv_if_ne (tgt := 17) hx hb d_Md_count_12 (by decide) (by decide) (fun _ => ?_) (fun c3 => absurd c3 (by decide))
    refine lv_iload_n hx hb d_Md_count_17 rfl (lv_at hl 1 rfl) ?_
    refine nv_if_ne (tgt := 28) hx hb d_Md_count_18 (by decide) k1 (fun c4 => ?_) (fun c4 => ?_)
    · replace v := v.1 c4
      refine lv_iload_n hx hb d_Md_count_28 rfl (lv_at hl 1 rfl) ?_
      refine nv_iconst (n := 1) hx hb d_Md_count_29 ?_
      refine nv_icmp_ne (tgt := 40) hx hb d_Md_count_30 (by decide) k1 (by decide) (fun c5 => ?_) (fun c5 => ?_)
      · replace v := v.1 c5
        refine lv_iload_n hx hb d_Md_count_40 rfl (lv_at hl 1 rfl) ?_
        refine nv_iconst (n := 2) hx hb d_Md_count_41 ?_
        refine nv_icmp_ne (tgt := 52) hx hb d_Md_count_42 (by decide) k1 (by decide) (fun c6 => ?_) (fun c6 => ?_)
        · replace v := v.1 c6
          refine lv_iload_n hx hb d_Md_count_52 rfl (lv_at hl 1 rfl) ?_
          refine nv_iconst (n := 3) hx hb d_Md_count_53 ?_
          refine nv_icmp_ne (tgt := 64) hx hb d_Md_count_54 (by decide) k1 (by decide) (fun c7 => ?_) (fun c7 => ?_)
          · replace v := v.1 c7
            refine lv_aload_n hx hb d_Md_count_64 rfl (lv_at hl 0 rfl) ?_
            refine va_get (D := D) (ci := 8) (v := .int (iI nc)) (C := "LightDosesModel") (T := T_Md) (N := 32) hx hb hts in_Md hown hK hP 0 rfl rfl 30 (by decide) (hts _ wd_733) (fun _ h9 => h9) rfl d_Md_count_65 ?_
            have hP9 := hP.sub (ws' := (wMd cI cJ cZ h0 h1 h2 h3 h4 h5 h6 h7 h8 h9 h10 h11 h12 h13 h14 h15 h16 h17 h18 h19 h20 h21 h22 h23 0 no ca ba nl xa sa da la ra fa ta ua uh uo ma mh ml nf fo fh fs rs ic mn bh bo ya np pa nc cp)) [0, 1, 2, 3, 4, 5, 6, 7, 8, 9, 10, 11, 12, 13, 14, 15, 16, 17, 18, 19, 20, 21, 22, 23] rfl
            have hD9 := hD.sub (ws' := (wMd cI cJ cZ h0 h1 h2 h3 h4 h5 h6 h7 h8 h9 h10 h11 h12 h13 h14 h15 h16 h17 h18 h19 h20 h21 h22 h23 0 no ca ba nl xa sa da la ra fa ta ua uh uo ma mh ml nf fo fh fs rs ic mn bh bo ya np pa nc cp)) [0, 1, 2, 3, 4, 5, 6, 7, 8, 9, 10, 11, 12, 13, 14, 15, 16, 17, 18, 19, 20, 21, 22, 23] (by decide) rfl
            exact W.iret hx hb hr (fun t ht hW => ⟨⟨_, ((0)), rfl, ⟨_, rfl, v⟩, by rw [ht]; exact hP9, va_K.moved hW.alike hK, hD9⟩, hS.F ht⟩) hS.2.2 d_Md_count_68
          · replace v := v.2 c7
            refine lv_aload_n hx hb d_Md_count_57 rfl (lv_at hl 0 rfl) ?_
            refine va_get (D := D) (ci := 8) (v := .int (iI np)) (C := "LightDosesModel") (T := T_Md) (N := 32) hx hb hts in_Md hown hK hP 0 rfl rfl 28 (by decide) (hts _ wd_731) (fun _ h9 => h9) rfl d_Md_count_58 ?_
            refine lv_goto (tgt := 68) hx hb d_Md_count_61 (by decide) ?_
            have hP9 := hP.sub (ws' := (wMd cI cJ cZ h0 h1 h2 h3 h4 h5 h6 h7 h8 h9 h10 h11 h12 h13 h14 h15 h16 h17 h18 h19 h20 h21 h22 h23 0 no ca ba nl xa sa da la ra fa ta ua uh uo ma mh ml nf fo fh fs rs ic mn bh bo ya np pa nc cp)) [0, 1, 2, 3, 4, 5, 6, 7, 8, 9, 10, 11, 12, 13, 14, 15, 16, 17, 18, 19, 20, 21, 22, 23] rfl
            have hD9 := hD.sub (ws' := (wMd cI cJ cZ h0 h1 h2 h3 h4 h5 h6 h7 h8 h9 h10 h11 h12 h13 h14 h15 h16 h17 h18 h19 h20 h21 h22 h23 0 no ca ba nl xa sa da la ra fa ta ua uh uo ma mh ml nf fo fh fs rs ic mn bh bo ya np pa nc cp)) [0, 1, 2, 3, 4, 5, 6, 7, 8, 9, 10, 11, 12, 13, 14, 15, 16, 17, 18, 19, 20, 21, 22, 23] (by decide) rfl
            exact W.iret hx hb hr (fun t ht hW => ⟨⟨_, ((0)), rfl, ⟨_, rfl, v⟩, by rw [ht]; exact hP9, va_K.moved hW.alike hK, hD9⟩, hS.F ht⟩) hS.2.2 d_Md_count_68
        · replace v := v.2 c6
          refine lv_aload_n hx hb d_Md_count_45 rfl (lv_at hl 0 rfl) ?_
          refine va_get (D := D) (ci := 8) (v := .int (iI nf)) (C := "LightDosesModel") (T := T_Md) (N := 32) hx hb hts in_Md hown hK hP 0 rfl rfl 18 (by decide) (hts _ wd_721) (fun _ h9 => h9) rfl d_Md_count_46 ?_
          refine lv_goto (tgt := 68) hx hb d_Md_count_49 (by decide) ?_
          have hP9 := hP.sub (ws' := (wMd cI cJ cZ h0 h1 h2 h3 h4 h5 h6 h7 h8 h9 h10 h11 h12 h13 h14 h15 h16 h17 h18 h19 h20 h21 h22 h23 0 no ca ba nl xa sa da la ra fa ta ua uh uo ma mh ml nf fo fh fs rs ic mn bh bo ya np pa nc cp)) [0, 1, 2, 3, 4, 5, 6, 7, 8, 9, 10, 11, 12, 13, 14, 15, 16, 17, 18, 19, 20, 21, 22, 23] rfl
          have hD9 := hD.sub (ws' := (wMd cI cJ cZ h0 h1 h2 h3 h4 h5 h6 h7 h8 h9 h10 h11 h12 h13 h14 h15 h16 h17 h18 h19 h20 h21 h22 h23 0 no ca ba nl xa sa da la ra fa ta ua uh uo ma mh ml nf fo fh fs rs ic mn bh bo ya np pa nc cp)) [0, 1, 2, 3, 4, 5, 6, 7, 8, 9, 10, 11, 12, 13, 14, 15, 16, 17, 18, 19, 20, 21, 22, 23] (by decide) rfl
          exact W.iret hx hb hr (fun t ht hW => ⟨⟨_, ((0)), rfl, ⟨_, rfl, v⟩, by rw [ht]; exact hP9, va_K.moved hW.alike hK, hD9⟩, hS.F ht⟩) hS.2.2 d_Md_count_68
      · replace v := v.2 c5
        refine lv_aload_n hx hb d_Md_count_33 rfl (lv_at hl 0 rfl) ?_
        refine va_get (D := D) (ci := 8) (v := .int (iI nl)) (C := "LightDosesModel") (T := T_Md) (N := 32) hx hb hts in_Md hown hK hP 0 rfl rfl 4 (by decide) (hts _ wd_707) (fun _ h9 => h9) rfl d_Md_count_34 ?_
        refine lv_goto (tgt := 68) hx hb d_Md_count_37 (by decide) ?_
        have hP9 := hP.sub (ws' := (wMd cI cJ cZ h0 h1 h2 h3 h4 h5 h6 h7 h8 h9 h10 h11 h12 h13 h14 h15 h16 h17 h18 h19 h20 h21 h22 h23 0 no ca ba nl xa sa da la ra fa ta ua uh uo ma mh ml nf fo fh fs rs ic mn bh bo ya np pa nc cp)) [0, 1, 2, 3, 4, 5, 6, 7, 8, 9, 10, 11, 12, 13, 14, 15, 16, 17, 18, 19, 20, 21, 22, 23] rfl
        have hD9 := hD.sub (ws' := (wMd cI cJ cZ h0 h1 h2 h3 h4 h5 h6 h7 h8 h9 h10 h11 h12 h13 h14 h15 h16 h17 h18 h19 h20 h21 h22 h23 0 no ca ba nl xa sa da la ra fa ta ua uh uo ma mh ml nf fo fh fs rs ic mn bh bo ya np pa nc cp)) [0, 1, 2, 3, 4, 5, 6, 7, 8, 9, 10, 11, 12, 13, 14, 15, 16, 17, 18, 19, 20, 21, 22, 23] (by decide) rfl
        exact W.iret hx hb hr (fun t ht hW => ⟨⟨_, ((0)), rfl, ⟨_, rfl, v⟩, by rw [ht]; exact hP9, va_K.moved hW.alike hK, hD9⟩, hS.F ht⟩) hS.2.2 d_Md_count_68
    · replace v := v.2 c4
      refine lv_aload_n hx hb d_Md_count_21 rfl (lv_at hl 0 rfl) ?_
      refine va_get (D := D) (ci := 8) (v := .int (iI no)) (C := "LightDosesModel") (T := T_Md) (N := 32) hx hb hts in_Md hown hK hP 0 rfl rfl 1 (by decide) (hts _ wd_704) (fun _ h9 => h9) rfl d_Md_count_22 ?_
      refine lv_goto (tgt := 68) hx hb d_Md_count_25 (by decide) ?_
      have hP9 := hP.sub (ws' := (wMd cI cJ cZ h0 h1 h2 h3 h4 h5 h6 h7 h8 h9 h10 h11 h12 h13 h14 h15 h16 h17 h18 h19 h20 h21 h22 h23 0 no ca ba nl xa sa da la ra fa ta ua uh uo ma mh ml nf fo fh fs rs ic mn bh bo ya np pa nc cp)) [0, 1, 2, 3, 4, 5, 6, 7, 8, 9, 10, 11, 12, 13, 14, 15, 16, 17, 18, 19, 20, 21, 22, 23] rfl
      have hD9 := hD.sub (ws' := (wMd cI cJ cZ h0 h1 h2 h3 h4 h5 h6 h7 h8 h9 h10 h11 h12 h13 h14 h15 h16 h17 h18 h19 h20 h21 h22 h23 0 no ca ba nl xa sa da la ra fa ta ua uh uo ma mh ml nf fo fh fs rs ic mn bh bo ya np pa nc cp)) [0, 1, 2, 3, 4, 5, 6, 7, 8, 9, 10, 11, 12, 13, 14, 15, 16, 17, 18, 19, 20, 21, 22, 23] (by decide) rfl
      exact W.iret hx hb hr (fun t ht hW => ⟨⟨_, ((0)), rfl, ⟨_, rfl, v⟩, by rw [ht]; exact hP9, va_K.moved hW.alike hK, hD9⟩, hS.F ht⟩) hS.2.2 d_Md_count_68
  · replace v := v.2 c2
    refine nv_iconst (n := 1) hx hb d_Md_count_7 ?_
    refine nv_iconst (n := 1) hx hb d_Md_count_8 ?_
    have hPc := hP.sub (ws' := (wMd cI cJ cZ h0 h1 h2 h3 h4 h5 h6 h7 h8 h9 h10 h11 h12 h13 h14 h15 h16 h17 h18 h19 h20 h21 h22 h23 th no ca ba nl xa sa da la ra fa ta ua uh uo ma mh ml nf fo fh fs rs ic mn bh bo ya np pa nc cp)) [0, 1, 2, 3, 4, 5, 6, 7, 8, 9, 10, 11, 12, 13, 14, 15, 16, 17, 18, 19, 20, 21, 22, 23] rfl
    have hDc := hD.sub (ws' := (wMd cI cJ cZ h0 h1 h2 h3 h4 h5 h6 h7 h8 h9 h10 h11 h12 h13 h14 h15 h16 h17 h18 h19 h20 h21 h22 h23 th no ca ba nl xa sa da la ra fa ta ua uh uo ma mh ml nf fo fh fs rs ic mn bh bo ya np pa nc cp)) [0, 1, 2, 3, 4, 5, 6, 7, 8, 9, 10, 11, 12, 13, 14, 15, 16, 17, 18, 19, 20, 21, 22, 23] (by decide) rfl
    have hFc := va_free (wc := (wMd cI cJ cZ h0 h1 h2 h3 h4 h5 h6 h7 h8 h9 h10 h11 h12 h13 h14 h15 h16 h17 h18 h19 h20 h21 h22 h23 th no ca ba nl xa sa da la ra fa ta ua uh uo ma mh ml nf fo fh fs rs ic mn bh bo ya np pa nc cp)) hD hS hA [0, 1, 2, 3, 4, 5, 6, 7, 8, 9, 10, 11, 12, 13, 14, 15, 16, 17, 18, 19, 20, 21, 22, 23] rfl
    refine va_calli (va_runV (As := [.int (iI 0), .int (iI 1), .int (iI 1)]) (rest := []) ⟨hx, hb, hml, hown, hts⟩ (m_Md_goes l D cI cJ cO cZ h0 h1 h2 h3 h4 h5 h6 h7 h8 h9 h10 h11 h12 h13 h14 h15 h16 h17 h18 h19 h20 h21 h22 h23 H.size th no ca ba nl xa sa da la ra fa ta ua uh uo ma mh ml nf fo fh fs rs ic mn bh bo ya np pa nc cp 0 1 1 (fun z t => z = 0 ∧ t = 1) (s_Md_goes_011 th no ca ba nl xa sa da la ra fa ta ua uh uo ma mh ml nf fo fh fs rs ic mn bh bo ya np pa nc cp)) (nv_cwV (n := 3) hts wd_812 wd_814 sl_17 wd_10 wd_815 (by decide +kernel) ⟨Nat.le_of_ble_eq_true rfl, Nat.le_of_ble_eq_true rfl⟩) ⟨blW, va_recv hK hPc (ci := 8) (q0 := 0) rfl rfl, fun U hU hW => ⟨rfl, by rw [hU], by rw [hU]; exact hPc, va_K.moved hW.alike hK, hDc.weaken (fun _ _ _ _ => trivial)⟩⟩ rfl rfl hl.1 rfl (lv_room (Nat.le_of_ble_eq_true rfl)) d_Md_count_9 ⟨Nat.le_of_ble_eq_true rfl, Nat.le_of_ble_eq_true rfl⟩) hS (fun q _ h => hFc q h) hFc (fun r u t H1 locs ht hvm hw hB hz1 hk1 hS => ?_)
    obtain ⟨hP1, hK1, hD1⟩ := hB
    rw [ht] at hP1
    obtain ⟨_, rfl, rfl, rfl⟩ := hw
    obtain ⟨hP, hD⟩ := va_join (wr := []) (w1 := (wMd cI cJ cZ h0 h1 h2 h3 h4 h5 h6 h7 h8 h9 h10 h11 h12 h13 h14 h15 h16 h17 h18 h19 h20 h21 h22 h23 1 no ca ba nl xa sa da la ra fa ta ua uh uo ma mh ml nf fo fh fs rs ic mn bh bo ya np pa nc cp)) hP hD [0, 1, 2, 3, 4, 5, 6, 7, 8, 9, 10, 11, 12, 13, 14, 15, 16, 17, 18, 19, 20, 21, 22, 23] [] rfl rfl (by decide) (by decide) hk1 hFc hP1 hD1
    generalize H1 = H at hP hS ⊢
    have hP : va_P D vwCl (wMd cI cJ cZ h0 h1 h2 h3 h4 h5 h6 h7 h8 h9 h10 h11 h12 h13 h14 h15 h16 h17 h18 h19 h20 h21 h22 h23 1 no ca ba nl xa sa da la ra fa ta ua uh uo ma mh ml nf fo fh fs rs ic mn bh bo ya np pa nc cp) H := hP
    have hD : va_D A (wMd cI cJ cZ h0 h1 h2 h3 h4 h5 h6 h7 h8 h9 h10 h11 h12 h13 h14 h15 h16 h17 h18 h19 h20 h21 h22 h23 1 no ca ba nl xa sa da la ra fa ta ua uh uo ma mh ml nf fo fh fs rs ic mn bh bo ya np pa nc cp) := hD
    refine W.widen (k := 0) (n := 0) (Nat.le_of_ble_eq_true rfl) (Nat.le_of_ble_eq_true rfl) ?_
    refine nv_if_ne (tgt := 17) hx hb d_Md_count_12 (by decide) (by decide) (fun c8 => absurd c8 (by decide)) (fun _ => ?_)
    refine nv_iconst (n := 0) hx hb d_Md_count_15 ?_
    have hP9 := hP.sub (ws' := (wMd cI cJ cZ h0 h1 h2 h3 h4 h5 h6 h7 h8 h9 h10 h11 h12 h13 h14 h15 h16 h17 h18 h19 h20 h21 h22 h23 1 no ca ba nl xa sa da la ra fa ta ua uh uo ma mh ml nf fo fh fs rs ic mn bh bo ya np pa nc cp)) [0, 1, 2, 3, 4, 5, 6, 7, 8, 9, 10, 11, 12, 13, 14, 15, 16, 17, 18, 19, 20, 21, 22, 23] rfl
    have hD9 := hD.sub (ws' := (wMd cI cJ cZ h0 h1 h2 h3 h4 h5 h6 h7 h8 h9 h10 h11 h12 h13 h14 h15 h16 h17 h18 h19 h20 h21 h22 h23 1 no ca ba nl xa sa da la ra fa ta ua uh uo ma mh ml nf fo fh fs rs ic mn bh bo ya np pa nc cp)) [0, 1, 2, 3, 4, 5, 6, 7, 8, 9, 10, 11, 12, 13, 14, 15, 16, 17, 18, 19, 20, 21, 22, 23] (by decide) rfl
    exact W.iret hx hb hr (fun t ht hW => ⟨⟨_, ((1)), rfl, ⟨_, rfl, v⟩, by rw [ht]; exact hP9, va_K.moved hW.alike hK, hD9⟩, hS.F ht⟩) hS.2.2 d_Md_count_16

