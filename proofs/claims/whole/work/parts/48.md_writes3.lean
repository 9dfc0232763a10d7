/-! MODULE Model: what writes, three -/
theorem d_Md_sum_0 : decode prog_10_method_23_code 0 = .ok (.aload_n 0, 1) := by decide +kernel
theorem d_Md_sum_1 : decode prog_10_method_23_code 1 = .ok (.aload_n 0, 1) := by decide +kernel
theorem d_Md_sum_2 : decode prog_10_method_23_code 2 = .ok (.iload_n 1, 1) := by decide +kernel
theorem d_Md_sum_3 : decode prog_10_method_23_code 3 = .ok (.invokevirtual 116, 3) := by decide +kernel
theorem d_Md_sum_6 : decode prog_10_method_23_code 6 = .ok (.iload_n 2, 1) := by decide +kernel
theorem d_Md_sum_7 : decode prog_10_method_23_code 7 = .ok (.ifCond .lt 19, 3) := by decide +kernel
theorem d_Md_sum_10 : decode prog_10_method_23_code 10 = .ok (.iload_n 3, 1) := by decide +kernel
theorem d_Md_sum_11 : decode prog_10_method_23_code 11 = .ok (.iload_n 2, 1) := by decide +kernel
theorem d_Md_sum_12 : decode prog_10_method_23_code 12 = .ok (.if_icmp .lt 14, 3) := by decide +kernel
theorem d_Md_sum_15 : decode prog_10_method_23_code 15 = .ok (.iload_n 3, 1) := by decide +kernel
theorem d_Md_sum_16 : decode prog_10_method_23_code 16 = .ok (.sipush 26280, 3) := by decide +kernel
theorem d_Md_sum_19 : decode prog_10_method_23_code 19 = .ok (.if_icmp .gt 7, 3) := by decide +kernel
theorem d_Md_sum_22 : decode prog_10_method_23_code 22 = .ok (.iconst 1, 1) := by decide +kernel
theorem d_Md_sum_23 : decode prog_10_method_23_code 23 = .ok (.goto 4, 3) := by decide +kernel
theorem d_Md_sum_26 : decode prog_10_method_23_code 26 = .ok (.iconst 0, 1) := by decide +kernel
theorem d_Md_sum_27 : decode prog_10_method_23_code 27 = .ok (.iconst 1, 1) := by decide +kernel
theorem d_Md_sum_28 : decode prog_10_method_23_code 28 = .ok (.invokevirtual 96, 3) := by decide +kernel
theorem d_Md_sum_31 : decode prog_10_method_23_code 31 = .ok (.ifCond .ne 5, 3) := by decide +kernel
theorem d_Md_sum_34 : decode prog_10_method_23_code 34 = .ok (.iconst 0, 1) := by decide +kernel
theorem d_Md_sum_35 : decode prog_10_method_23_code 35 = .ok (.ireturn, 1) := by decide +kernel
theorem d_Md_sum_36 : decode prog_10_method_23_code 36 = .ok (.aload_n 0, 1) := by decide +kernel
theorem d_Md_sum_37 : decode prog_10_method_23_code 37 = .ok (.iload_n 1, 1) := by decide +kernel
theorem d_Md_sum_38 : decode prog_10_method_23_code 38 = .ok (.iload_n 2, 1) := by decide +kernel
theorem d_Md_sum_39 : decode prog_10_method_23_code 39 = .ok (.iload_n 3, 1) := by decide +kernel
theorem d_Md_sum_40 : decode prog_10_method_23_code 40 = .ok (.invokevirtual 143, 3) := by decide +kernel
theorem d_Md_sum_43 : decode prog_10_method_23_code 43 = .ok (.lstore 4, 2) := by decide +kernel
theorem d_Md_sum_45 : decode prog_10_method_23_code 45 = .ok (.aload_n 0, 1) := by decide +kernel
theorem d_Md_sum_46 : decode prog_10_method_23_code 46 = .ok (.lload 4, 2) := by decide +kernel
theorem d_Md_sum_48 : decode prog_10_method_23_code 48 = .ok (.ldc2_w 125, 3) := by decide +kernel
theorem d_Md_sum_51 : decode prog_10_method_23_code 51 = .ok (.lrem, 1) := by decide +kernel
theorem d_Md_sum_52 : decode prog_10_method_23_code 52 = .ok (.l2i, 1) := by decide +kernel
theorem d_Md_sum_53 : decode prog_10_method_23_code 53 = .ok (.putfield 146, 3) := by decide +kernel
theorem d_Md_sum_56 : decode prog_10_method_23_code 56 = .ok (.lload 4, 2) := by decide +kernel
theorem d_Md_sum_58 : decode prog_10_method_23_code 58 = .ok (.ldc2_w 125, 3) := by decide +kernel
theorem d_Md_sum_61 : decode prog_10_method_23_code 61 = .ok (.ldiv, 1) := by decide +kernel
theorem d_Md_sum_62 : decode prog_10_method_23_code 62 = .ok (.l2i, 1) := by decide +kernel
theorem d_Md_sum_63 : decode prog_10_method_23_code 63 = .ok (.ireturn, 1) := by decide +kernel
def vc_Md_sum (th : Int) (no : Int) (ca : Nat → Int) (ba : Nat → Int) (nl : Int) (xa : Nat → Int) (sa : Nat → Int) (da : Nat → Int) (la : Nat → Int) (ra : Nat → Int) (fa : Nat → Int) (ta : Nat → Int) (ua : Nat → Int) (uh : Nat → Int) (uo : Nat → Int) (ma : Nat → Int) (mh : Nat → Int) (ml : Nat → Int) (nf : Int) (fo : Nat → Int) (fh : Nat → Int) (fs : Nat → Int) (rs : Int) (ic : Int) (mn : Int) (bh : Nat → Int) (bo : Nat → Int) (ya : Nat → Int) (np : Int) (pa : Nat → Int) (nc : Int) (cp : Nat → Int) (ob : Int) (from_ : Int) (to_ : Int) (post : Int → Int → Int → Prop) : Prop := (r32 ob) ∧ ((r32 no) ∧ (((0 ≤ ob ∧ ob < no) → (r32 from_) ∧ ((from_ < 0 → post 0 2 rs) ∧ (0 ≤ from_ → (r32 to_) ∧ ((to_ < from_ → post 0 2 rs) ∧ (from_ ≤ to_ → (26280 < to_ → post 0 2 rs) ∧ (to_ ≤ 26280 → ∃ P13 : Int → Prop, vc_Md_parts 0 no ca ba nl xa sa da la ra fa ta ua uh uo ma mh ml nf fo fh fs rs ic mn bh bo ya np pa nc cp ob from_ to_ P13 ∧ ∀ z14 : Int, P13 z14 → (r64 z14) ∧ ((0 ≤ z14) ∧ ((0 ≤ z14) ∧ (post (z14 / 3600000) 0 (z14 % 3600000)))))))))) ∧ (¬ (0 ≤ ob ∧ ob < no) → (r32 from_) ∧ ((from_ < 0 → post 0 1 rs) ∧ (0 ≤ from_ → (r32 to_) ∧ ((to_ < from_ → post 0 1 rs) ∧ (from_ ≤ to_ → (26280 < to_ → post 0 1 rs) ∧ (to_ ≤ 26280 → post 0 1 rs))))))))
set_option maxHeartbeats 4000000 in
set_option maxRecDepth 100000 in
theorem m_Md_sum (l : Launch) (D : va_G) (cI cJ cO cZ : ClassId) (h0 h1 h2 h3 h4 h5 h6 h7 h8 h9 h10 h11 h12 h13 h14 h15 h16 h17 h18 h19 h20 h21 h22 h23 : Nat) (sz : Nat) (th : Int) (no : Int) (ca : Nat → Int) (ba : Nat → Int) (nl : Int) (xa : Nat → Int) (sa : Nat → Int) (da : Nat → Int) (la : Nat → Int) (ra : Nat → Int) (fa : Nat → Int) (ta : Nat → Int) (ua : Nat → Int) (uh : Nat → Int) (uo : Nat → Int) (ma : Nat → Int) (mh : Nat → Int) (ml : Nat → Int) (nf : Int) (fo : Nat → Int) (fh : Nat → Int) (fs : Nat → Int) (rs : Int) (ic : Int) (mn : Int) (bh : Nat → Int) (bo : Nat → Int) (ya : Nat → Int) (np : Int) (pa : Nat → Int) (nc : Int) (cp : Nat → Int) (ob : Int) (from_ : Int) (to_ : Int) (post : Int → Int → Int → Prop) (v : vc_Md_sum th no ca ba nl xa sa da la ra fa ta ua uh uo ma mh ml nf fo fh fs rs ic mn bh bo ya np pa nc cp ob from_ to_ post) : Met l ⟨"LightDosesModel", "sum", "(III)I"⟩ (.code ⟨"LightDosesModel", "sum", "(III)I"⟩ prog_10_method_23_code 6 (some .int) :: TG) { frames := 2, cells := 0, slots := 0, locals := 53 } (va_Pc [.ref h0, .int (iI ob), .int (iI from_), .int (iI to_)] (fun U => U.heap.size = sz ∧ va_P D vwCl (wMd cI cJ cZ h0 h1 h2 h3 h4 h5 h6 h7 h8 h9 h10 h11 h12 h13 h14 h15 h16 h17 h18 h19 h20 h21 h22 h23 th no ca ba nl xa sa da la ra fa ta ua uh uo ma mh ml nf fo fh fs rs ic mn bh bo ya np pa nc cp) U.heap ∧ va_K D vwCl (tyx cI cJ cO cZ) U ∧ va_D (fun _ => True) (wMd cI cJ cZ h0 h1 h2 h3 h4 h5 h6 h7 h8 h9 h10 h11 h12 h13 h14 h15 h16 h17 h18 h19 h20 h21 h22 h23 th no ca ba nl xa sa da la ra fa ta ua uh uo ma mh ml nf fo fh fs rs ic mn bh bo ya np pa nc cp))) (va_Qi (fun (r : Int32) (u : Int × Int) => ∃ z : Int, r = iI z ∧ post z u.1 u.2) (fun u t => va_P D vwCl (wMd cI cJ cZ h0 h1 h2 h3 h4 h5 h6 h7 h8 h9 h10 h11 h12 h13 h14 h15 h16 h17 h18 h19 h20 h21 h22 h23 u.1 no ca ba nl xa sa da la ra fa ta ua uh uo ma mh ml nf fo fh fs u.2 ic mn bh bo ya np pa nc cp) t.heap ∧ va_K D vwCl (tyx cI cJ cO cZ) t ∧ va_D (va_A (wMd cI cJ cZ h0 h1 h2 h3 h4 h5 h6 h7 h8 h9 h10 h11 h12 h13 h14 h15 h16 h17 h18 h19 h20 h21 h22 h23 th no ca ba nl xa sa da la ra fa ta ua uh uo ma mh ml nf fo fh fs rs ic mn bh bo ya np pa nc cp) sz) (wMd cI cJ cZ h0 h1 h2 h3 h4 h5 h6 h7 h8 h9 h10 h11 h12 h13 h14 h15 h16 h17 h18 h19 h20 h21 h22 h23 u.1 no ca ba nl xa sa da la ra fa ta ua uh uo ma mh ml nf fo fh fs u.2 ic mn bh bo ya np pa nc cp)) (va_A (wMd cI cJ cZ h0 h1 h2 h3 h4 h5 h6 h7 h8 h9 h10 h11 h12 h13 h14 h15 h16 h17 h18 h19 h20 h21 h22 h23 th no ca ba nl xa sa da la ra fa ta ua uh uo ma mh ml nf fo fh fs rs ic mn bh bo ya np pa nc cp) sz)) 0 0 (va_A (wMd cI cJ cZ h0 h1 h2 h3 h4 h5 h6 h7 h8 h9 h10 h11 h12 h13 h14 h15 h16 h17 h18 h19 h20 h21 h22 h23 th no ca ba nl xa sa da la ra fa ta ua uh uo ma mh ml nf fo fh fs rs ic mn bh bo ya np pa nc cp) sz) := by
  refine Met.ofW (cc := prog_10_method_23_code) (maxL := 6) (ret := (some .int)) (by decide) rfl ?_
  intro p e s m args below meth c s₁ B hml hv
  obtain ⟨rfl, hsz, hP, hK, hD0⟩ := hv
  have hx := B.exec
  have hb := B.bytes
  have hr := B.returns
  have hts0 := atoms_spec (ws := (.code ⟨"LightDosesModel", "sum", "(III)I"⟩ prog_10_method_23_code 6 (some .int) :: TG)) B.pre
  have hts : ∀ w ∈ TG, w.before _ s = true := fun w h => hts0 w (List.mem_cons_of_mem _ h)
  have hown : s.vm.findClass "LightDosesModel" = some m.cls := findClass_of_methodNamed B.named
  have hlocks := B.notSynchronized
  subst hsz
  have hD := hD0.self (sz := s.heap.size)
  generalize hAe : va_A (wMd cI cJ cZ h0 h1 h2 h3 h4 h5 h6 h7 h8 h9 h10 h11 h12 h13 h14 h15 h16 h17 h18 h19 h20 h21 h22 h23 th no ca ba nl xa sa da la ra fa ta ua uh uo ma mh ml nf fo fh fs rs ic mn bh bo ya np pa nc cp) s.heap.size = A at hD ⊢
  have hA : ∀ q : Nat, s.heap.size ≤ q → A q := fun q h => by rw [← hAe]; exact Or.inr h
  have hS : va_S A s.heap s.heap [] := va_S.rf
  have hP : va_P D vwCl (wMd cI cJ cZ h0 h1 h2 h3 h4 h5 h6 h7 h8 h9 h10 h11 h12 h13 h14 h15 h16 h17 h18 h19 h20 h21 h22 h23 th no ca ba nl xa sa da la ra fa ta ua uh uo ma mh ml nf fo fh fs rs ic mn bh bo ya np pa nc cp) s.heap := hP
  have hl := lv_entry ([Value.ref h0, Value.int (iI ob), Value.int (iI from_), Value.int (iI to_)]) (n := 6) (Nat.le_of_ble_eq_true rfl)
  rw [lg_entry_eq]
  generalize (lg_sl ([Value.ref h0, Value.int (iI ob), Value.int (iI from_), Value.int (iI to_)]) ++ List.replicate (6 - (lg_sl ([Value.ref h0, Value.int (iI ob), Value.int (iI from_), Value.int (iI to_)])).length) Slot.unset).toArray = ls at hl ⊢
  have hl : lv_has ls 6 [(0, .ref h0), (1, .int (iI ob)), (2, .int (iI from_)), (3, .int (iI to_))] := hl
  unfold vc_Md_sum at v
  obtain ⟨H, hH⟩ : ∃ H, H = s.heap := ⟨_, rfl⟩
  obtain ⟨locs, hlc⟩ : ∃ L : List Loc, L = [] := ⟨_, rfl⟩
  rw [← hlc] at hS ⊢
  have hP : va_P D vwCl (wMd cI cJ cZ h0 h1 h2 h3 h4 h5 h6 h7 h8 h9 h10 h11 h12 h13 h14 h15 h16 h17 h18 h19 h20 h21 h22 h23 th no ca ba nl xa sa da la ra fa ta ua uh uo ma mh ml nf fo fh fs rs ic mn bh bo ya np pa nc cp) H := by rw [hH]; exact hP
  have hS : va_S A s.heap H locs := by rw [hH]; exact hS
  have hW0 : ∀ {X : Heap → Prop}, X H → X s.heap := fun h => by rw [← hH]; exact h
  refine hW0 (X := fun Z => W p l e _ s m _ below meth c Z locs 0 0 _ _) ?_
  refine lv_aload_n hx hb d_Md_sum_0 rfl (lv_at hl 0 rfl) ?_
  refine lv_aload_n hx hb d_Md_sum_1 rfl (lv_at hl 0 rfl) ?_
  refine lv_iload_n hx hb d_Md_sum_2 rfl (lv_at hl 1 rfl) ?_
  obtain ⟨k1, v⟩ := v
  obtain ⟨k2, v⟩ := v
  refine vp_callSi (nv_runV (wc := (wMd cI cJ cZ h0 h1 h2 h3 h4 h5 h6 h7 h8 h9 h10 h11 h12 h13 h14 h15 h16 h17 h18 h19 h20 h21 h22 h23 th no ca ba nl xa sa da la ra fa ta ua uh uo ma mh ml nf fo fh fs rs ic mn bh bo ya np pa nc cp)) (As := [.int (iI ob)]) (rest := [.ref h0]) ⟨hx, hb, hml, hown, hts⟩ (m_Md_isObject l D cI cJ cO cZ h0 h1 h2 h3 h4 h5 h6 h7 h8 h9 h10 h11 h12 h13 h14 h15 h16 h17 h18 h19 h20 h21 h22 h23 th no ca ba nl xa sa da la ra fa ta ua uh uo ma mh ml nf fo fh fs rs ic mn bh bo ya np pa nc cp ob (fun z => (z = 1 ∧ (0 ≤ ob ∧ ob < no)) ∨ (z = 0 ∧ ¬ (0 ≤ ob ∧ ob < no))) (s_Md_isObject th no ca ba nl xa sa da la ra fa ta ua uh uo ma mh ml nf fo fh fs rs ic mn bh bo ya np pa nc cp ob k1 k2)) (nv_cwV (n := 1) hts wd_840 wd_842 sl_20 wd_10 wd_843 (by decide +kernel) ⟨Nat.le_of_ble_eq_true rfl, Nat.le_of_ble_eq_true rfl⟩) hK (hP.sub [0, 1, 2, 3, 4, 5, 6, 7, 8, 9, 10, 11, 12, 13, 14, 15, 16, 17, 18, 19, 20, 21, 22, 23] rfl) (va_recv hK hP (ci := 8) (q0 := 0) rfl rfl) rfl hl.1 rfl (Nat.le_of_ble_eq_true rfl) d_Md_sum_3 (Nat.le_of_ble_eq_true rfl) (Nat.le_of_ble_eq_true rfl)) (fun r hr => ?_)
  rcases hr with ⟨_, rfl, ⟨rfl, c3⟩ | ⟨rfl, c3⟩⟩
  · replace v := v.1 c3
    refine lv_iload_n hx hb d_Md_sum_6 rfl (lv_at hl 2 rfl) ?_
    obtain ⟨k4, v⟩ := v
    refine nv_if_lt (tgt := 26) hx hb d_Md_sum_7 (by decide) k4 (fun c5 => ?_) (fun c5 => ?_)
    · replace v := v.1 c5
      refine nv_iconst (n := 0) hx hb d_Md_sum_26 ?_
      refine nv_iconst (n := 1) hx hb d_Md_sum_27 ?_
      have hPc := hP.sub (ws' := (wMd cI cJ cZ h0 h1 h2 h3 h4 h5 h6 h7 h8 h9 h10 h11 h12 h13 h14 h15 h16 h17 h18 h19 h20 h21 h22 h23 th no ca ba nl xa sa da la ra fa ta ua uh uo ma mh ml nf fo fh fs rs ic mn bh bo ya np pa nc cp)) [0, 1, 2, 3, 4, 5, 6, 7, 8, 9, 10, 11, 12, 13, 14, 15, 16, 17, 18, 19, 20, 21, 22, 23] rfl
      have hDc := hD.sub (ws' := (wMd cI cJ cZ h0 h1 h2 h3 h4 h5 h6 h7 h8 h9 h10 h11 h12 h13 h14 h15 h16 h17 h18 h19 h20 h21 h22 h23 th no ca ba nl xa sa da la ra fa ta ua uh uo ma mh ml nf fo fh fs rs ic mn bh bo ya np pa nc cp)) [0, 1, 2, 3, 4, 5, 6, 7, 8, 9, 10, 11, 12, 13, 14, 15, 16, 17, 18, 19, 20, 21, 22, 23] (by decide) rfl
      have hFc := va_free (wc := (wMd cI cJ cZ h0 h1 h2 h3 h4 h5 h6 h7 h8 h9 h10 h11 h12 h13 h14 h15 h16 h17 h18 h19 h20 h21 h22 h23 th no ca ba nl xa sa da la ra fa ta ua uh uo ma mh ml nf fo fh fs rs ic mn bh bo ya np pa nc cp)) hD hS hA [0, 1, 2, 3, 4, 5, 6, 7, 8, 9, 10, 11, 12, 13, 14, 15, 16, 17, 18, 19, 20, 21, 22, 23] rfl
      refine va_calli (va_runV (As := [.int (iI 1), .int (iI 0), .int (iI 1)]) (rest := []) ⟨hx, hb, hml, hown, hts⟩ (m_Md_goes l D cI cJ cO cZ h0 h1 h2 h3 h4 h5 h6 h7 h8 h9 h10 h11 h12 h13 h14 h15 h16 h17 h18 h19 h20 h21 h22 h23 H.size th no ca ba nl xa sa da la ra fa ta ua uh uo ma mh ml nf fo fh fs rs ic mn bh bo ya np pa nc cp 1 0 1 (fun z t => z = 0 ∧ t = 2) (s_Md_goes_101 th no ca ba nl xa sa da la ra fa ta ua uh uo ma mh ml nf fo fh fs rs ic mn bh bo ya np pa nc cp)) (nv_cwV (n := 3) hts wd_812 wd_814 sl_17 wd_10 wd_815 (by decide +kernel) ⟨Nat.le_of_ble_eq_true rfl, Nat.le_of_ble_eq_true rfl⟩) ⟨blW, va_recv hK hPc (ci := 8) (q0 := 0) rfl rfl, fun U hU hW => ⟨rfl, by rw [hU], by rw [hU]; exact hPc, va_K.moved hW.alike hK, hDc.weaken (fun _ _ _ _ => trivial)⟩⟩ rfl rfl hl.1 rfl (lv_room (Nat.le_of_ble_eq_true rfl)) d_Md_sum_28 ⟨Nat.le_of_ble_eq_true rfl, Nat.le_of_ble_eq_true rfl⟩) hS (fun q _ h => hFc q h) hFc (fun r u t H1 locs ht hvm hw hB hz1 hk1 hS => ?_)
      obtain ⟨hP1, hK1, hD1⟩ := hB
      rw [ht] at hP1
      obtain ⟨_, rfl, rfl, rfl⟩ := hw
      obtain ⟨hP, hD⟩ := va_join (wr := []) (w1 := (wMd cI cJ cZ h0 h1 h2 h3 h4 h5 h6 h7 h8 h9 h10 h11 h12 h13 h14 h15 h16 h17 h18 h19 h20 h21 h22 h23 2 no ca ba nl xa sa da la ra fa ta ua uh uo ma mh ml nf fo fh fs rs ic mn bh bo ya np pa nc cp)) hP hD [0, 1, 2, 3, 4, 5, 6, 7, 8, 9, 10, 11, 12, 13, 14, 15, 16, 17, 18, 19, 20, 21, 22, 23] [] rfl rfl (by decide) (by decide) hk1 hFc hP1 hD1
      generalize H1 = H at hP hS ⊢
      have hP : va_P D vwCl (wMd cI cJ cZ h0 h1 h2 h3 h4 h5 h6 h7 h8 h9 h10 h11 h12 h13 h14 h15 h16 h17 h18 h19 h20 h21 h22 h23 2 no ca ba nl xa sa da la ra fa ta ua uh uo ma mh ml nf fo fh fs rs ic mn bh bo ya np pa nc cp) H := hP
      have hD : va_D A (wMd cI cJ cZ h0 h1 h2 h3 h4 h5 h6 h7 h8 h9 h10 h11 h12 h13 h14 h15 h16 h17 h18 h19 h20 h21 h22 h23 2 no ca ba nl xa sa da la ra fa ta ua uh uo ma mh ml nf fo fh fs rs ic mn bh bo ya np pa nc cp) := hD
      refine W.widen (k := 0) (n := 0) (Nat.le_of_ble_eq_true rfl) (Nat.le_of_ble_eq_true rfl) ?_
      refine nv_if_ne (tgt := 36) hx hb d_Md_sum_31 (by decide) (by decide) (fun c6 => absurd c6 (by decide)) (fun _ => ?_)
      refine nv_iconst (n := 0) hx hb d_Md_sum_34 ?_
      have hP9 := hP.sub (ws' := (wMd cI cJ cZ h0 h1 h2 h3 h4 h5 h6 h7 h8 h9 h10 h11 h12 h13 h14 h15 h16 h17 h18 h19 h20 h21 h22 h23 2 no ca ba nl xa sa da la ra fa ta ua uh uo ma mh ml nf fo fh fs rs ic mn bh bo ya np pa nc cp)) [0, 1, 2, 3, 4, 5, 6, 7, 8, 9, 10, 11, 12, 13, 14, 15, 16, 17, 18, 19, 20, 21, 22, 23] rfl
      have hD9 := hD.sub (ws' := (wMd cI cJ cZ h0 h1 h2 h3 h4 h5 h6 h7 h8 h9 h10 h11 h12 h13 h14 h15 h16 h17 h18 h19 h20 h21 h22 h23 2 no ca ba nl xa sa da la ra fa ta ua uh uo ma mh ml nf fo fh fs rs ic mn bh bo ya np pa nc cp)) [0, 1, 2, 3, 4, 5, 6, 7, 8, 9, 10, 11, 12, 13, 14, 15, 16, 17, 18, 19, 20, 21, 22, 23] (by decide) rfl
      exact W.iret hx hb hr (fun t ht hW => ⟨⟨_, ((2), (rs)), rfl, ⟨_, rfl, v⟩, by rw [ht]; exact hP9, va_K.moved hW.alike hK, hD9⟩, hS.F ht⟩) hS.2.2 d_Md_sum_35
    · replace v := v.2 c5
      refine lv_iload_n hx hb d_Md_sum_10 rfl (lv_at hl 3 rfl) ?_
      refine lv_iload_n hx hb d_Md_sum_11 rfl (lv_at hl 2 rfl) ?_
      obtain ⟨k7, v⟩ := v
      refine nv_icmp_lt (tgt := 26) hx hb d_Md_sum_12 (by decide) k7 k4 (fun c8 => ?_) (fun c8 => ?_)
      · replace v := v.1 c8
        refine nv_iconst (n := 0) hx hb d_Md_sum_26 ?_
        refine nv_iconst (n := 1) hx hb d_Md_sum_27 ?_
        have hPc := hP.sub (ws' := (wMd cI cJ cZ h0 h1 h2 h3 h4 h5 h6 h7 h8 h9 h10 h11 h12 h13 h14 h15 h16 h17 h18 h19 h20 h21 h22 h23 th no ca ba nl xa sa da la ra fa ta ua uh uo ma mh ml nf fo fh fs rs ic mn bh bo ya np pa nc cp)) [0, 1, 2, 3, 4, 5, 6, 7, 8, 9, 10, 11, 12, 13, 14, 15, 16, 17, 18, 19, 20, 21, 22, 23] rfl
        have hDc := hD.sub (ws' := (wMd cI cJ cZ h0 h1 h2 h3 h4 h5 h6 h7 h8 h9 h10 h11 h12 h13 h14 h15 h16 h17 h18 h19 h20 h21 h22 h23 th no ca ba nl xa sa da la ra fa ta ua uh uo ma mh ml nf fo fh fs rs ic mn bh bo ya np pa nc cp)) [0, 1, 2, 3, 4, 5, 6, 7, 8, 9, 10, 11, 12, 13, 14, 15, 16, 17, 18, 19, 20, 21, 22, 23] (by decide) rfl
        have hFc := va_free (wc := (wMd cI cJ cZ h0 h1 h2 h3 h4 h5 h6 h7 h8 h9 h10 h11 h12 h13 h14 h15 h16 h17 h18 h19 h20 h21 h22 h23 th no ca ba nl xa sa da la ra fa ta ua uh uo ma mh ml nf fo fh fs rs ic mn bh bo ya np pa nc cp)) hD hS hA [0, 1, 2, 3, 4, 5, 6, 7, 8, 9, 10, 11, 12, 13, 14, 15, 16, 17, 18, 19, 20, 21, 22, 23] rfl
        refine va_calli (va_runV (As := [.int (iI 1), .int (iI 0), .int (iI 1)]) (rest := []) ⟨hx, hb, hml, hown, hts⟩ (m_Md_goes l D cI cJ cO cZ h0 h1 h2 h3 h4 h5 h6 h7 h8 h9 h10 h11 h12 h13 h14 h15 h16 h17 h18 h19 h20 h21 h22 h23 H.size th no ca ba nl xa sa da la ra fa ta ua uh uo ma mh ml nf fo fh fs rs ic mn bh bo ya np pa nc cp 1 0 1 (fun z t => z = 0 ∧ t = 2) (s_Md_goes_101 th no ca ba nl xa sa da la ra fa ta ua uh uo ma mh ml nf fo fh fs rs ic mn bh bo ya np pa nc cp)) (nv_cwV (n := 3) hts wd_812 wd_814 sl_17 wd_10 wd_815 (by decide +kernel) ⟨Nat.le_of_ble_eq_true rfl, Nat.le_of_ble_eq_true rfl⟩) ⟨blW, va_recv hK hPc (ci := 8) (q0 := 0) rfl rfl, fun U hU hW => ⟨rfl, by rw [hU], by rw [hU]; exact hPc, va_K.moved hW.alike hK, hDc.weaken (fun _ _ _ _ => trivial)⟩⟩ rfl rfl hl.1 rfl (lv_room (Nat.le_of_ble_eq_true rfl)) d_Md_sum_28 ⟨Nat.le_of_ble_eq_true rfl, Nat.le_of_ble_eq_true rfl⟩) hS (fun q _ h => hFc q h) hFc (fun r u t H1 locs ht hvm hw hB hz1 hk1 hS => ?_)
        obtain ⟨hP1, hK1, hD1⟩ := hB
        rw [ht] at hP1
        obtain ⟨_, rfl, rfl, rfl⟩ := hw
        obtain ⟨hP, hD⟩ := va_join (wr := []) (w1 := (wMd cI cJ cZ h0 h1 h2 h3 h4 h5 h6 h7 h8 h9 h10 h11 h12 h13 h14 h15 h16 h17 h18 h19 h20 h21 h22 h23 2 no ca ba nl xa sa da la ra fa ta ua uh uo ma mh ml nf fo fh fs rs ic mn bh bo ya np pa nc cp)) hP hD [0, 1, 2, 3, 4, 5, 6, 7, 8, 9, 10, 11, 12, 13, 14, 15, 16, 17, 18, 19, 20, 21, 22, 23] [] rfl rfl (by decide) (by decide) hk1 hFc hP1 hD1
        generalize H1 = H at hP hS ⊢
        have hP : va_P D vwCl (wMd cI cJ cZ h0 h1 h2 h3 h4 h5 h6 h7 h8 h9 h10 h11 h12 h13 h14 h15 h16 h17 h18 h19 h20 h21 h22 h23 2 no ca ba nl xa sa da la ra fa ta ua uh uo ma mh ml nf fo fh fs rs ic mn bh bo ya np pa nc cp) H := hP
        have hD : va_D A (wMd cI cJ cZ h0 h1 h2 h3 h4 h5 h6 h7 h8 h9 h10 h11 h12 h13 h14 h15 h16 h17 h18 h19 h20 h21 h22 h23 2 no ca ba nl xa sa da la ra fa ta ua uh uo ma mh ml nf fo fh fs rs ic mn bh bo ya np pa nc cp) := hD
        refine W.widen (k := 0) (n := 0) (Nat.le_of_ble_eq_true rfl) (Nat.le_of_ble_eq_true rfl) ?_
        refine nv_if_ne (tgt := 36) hx hb d_Md_sum_31 (by decide) (by decide) (fun c9 => absurd c9 (by decide)) (fun _ => ?_)
        refine nv_iconst (n := 0) hx hb d_Md_sum_34 ?_
        have hP9 := hP.sub (ws' := (wMd cI cJ cZ h0 h1 h2 h3 h4 h5 h6 h7 h8 h9 h10 h11 h12 h13 h14 h15 h16 h17 h18 h19 h20 h21 h22 h23 2 no ca ba nl xa sa da la ra fa ta ua uh uo ma mh ml nf fo fh fs rs ic mn bh bo ya np pa nc cp)) [0, 1, 2, 3, 4, 5, 6, 7, 8, 9, 10, 11, 12, 13, 14, 15, 16, 17, 18, 19, 20, 21, 22, 23] rfl
        have hD9 := hD.sub (ws' := (wMd cI cJ cZ h0 h1 h2 h3 h4 h5 h6 h7 h8 h9 h10 h11 h12 h13 h14 h15 h16 h17 h18 h19 h20 h21 h22 h23 2 no ca ba nl xa sa da la ra fa ta ua uh uo ma mh ml nf fo fh fs rs ic mn bh bo ya np pa nc cp)) [0, 1, 2, 3, 4, 5, 6, 7, 8, 9, 10, 11, 12, 13, 14, 15, 16, 17, 18, 19, 20, 21, 22, 23] (by decide) rfl
        exact W.iret hx hb hr (fun t ht hW => ⟨⟨_, ((2), (rs)), rfl, ⟨_, rfl, v⟩, by rw [ht]; exact hP9, va_K.moved hW.alike hK, hD9⟩, hS.F ht⟩) hS.2.2 d_Md_sum_35
      · replace v := v.2 c8
        refine lv_iload_n hx hb d_Md_sum_15 rfl (lv_at hl 3 rfl) ?_
        refine nv_sipush (z := 26280) hx hb d_Md_sum_16 (by decide) ?_
        refine nv_icmp_gt (tgt := 26) hx hb d_Md_sum_19 (by decide) k7 (by decide) (fun c10 => ?_) (fun c10 => ?_)
        · replace v := v.1 c10
          refine nv_iconst (n := 0) hx hb d_Md_sum_26 ?_
          refine nv_iconst (n := 1) hx hb d_Md_sum_27 ?_
          have hPc := hP.sub (ws' := (wMd cI cJ cZ h0 h1 h2 h3 h4 h5 h6 h7 h8 h9 h10 h11 h12 h13 h14 h15 h16 h17 h18 h19 h20 h21 h22 h23 th no ca ba nl xa sa da la ra fa ta ua uh uo ma mh ml nf fo fh fs rs ic mn bh bo ya np pa nc cp)) [0, 1, 2, 3, 4, 5, 6, 7, 8, 9, 10, 11, 12, 13, 14, 15, 16, 17, 18, 19, 20, 21, 22, 23] rfl
          have hDc := hD.sub (ws' := (wMd cI cJ cZ h0 h1 h2 h3 h4 h5 h6 h7 h8 h9 h10 h11 h12 h13 h14 h15 h16 h17 h18 h19 h20 h21 h22 h23 th no ca ba nl xa sa da la ra fa ta ua uh uo ma mh ml nf fo fh fs rs ic mn bh bo ya np pa nc cp)) [0, 1, 2, 3, 4, 5, 6, 7, 8, 9, 10, 11, 12, 13, 14, 15, 16, 17, 18, 19, 20, 21, 22, 23] (by decide) rfl
          have hFc := va_free (wc := (wMd cI cJ cZ h0 h1 h2 h3 h4 h5 h6 h7 h8 h9 h10 h11 h12 h13 h14 h15 h16 h17 h18 h19 h20 h21 h22 h23 th no ca ba nl xa sa da la ra fa ta ua uh uo ma mh ml nf fo fh fs rs ic mn bh bo ya np pa nc cp)) hD hS hA [0, 1, 2, 3, 4, 5, 6, 7, 8, 9, 10, 11, 12, 13, 14, 15, 16, 17, 18, 19, 20, 21, 22, 23] rfl
          refine va_calli (va_runV (As := [.int (iI 1), .int (iI 0), .int (iI 1)]) (rest := []) ⟨hx, hb, hml, hown, hts⟩ (m_Md_goes l D cI cJ cO cZ h0 h1 h2 h3 h4 h5 h6 h7 h8 h9 h10 h11 h12 h13 h14 h15 h16 h17 h18 h19 h20 h21 h22 h23 H.size th no ca ba nl xa sa da la ra fa ta ua uh uo ma mh ml nf fo fh fs rs ic mn bh bo ya np pa nc cp 1 0 1 (fun z t => z = 0 ∧ t = 2) (s_Md_goes_101 th no ca ba nl xa sa da la ra fa ta ua uh uo ma mh ml nf fo fh fs rs ic mn bh bo ya np pa nc cp)) (nv_cwV (n := 3) hts wd_812 wd_814 sl_17 wd_10 wd_815 (by decide +kernel) ⟨Nat.le_of_ble_eq_true rfl, Nat.le_of_ble_eq_true rfl⟩) ⟨blW, va_recv hK hPc (ci := 8) (q0 := 0) rfl rfl, fun U hU hW => ⟨rfl, by rw [hU], by rw [hU]; exact hPc, va_K.moved hW.alike hK, hDc.weaken (fun _ _ _ _ => trivial)⟩⟩ rfl rfl hl.1 rfl (lv_room (Nat.le_of_ble_eq_true rfl)) d_Md_sum_28 ⟨Nat.le_of_ble_eq_true rfl, Nat.le_of_ble_eq_true rfl⟩) hS (fun q _ h => hFc q h) hFc (fun r u t H1 locs ht hvm hw hB hz1 hk1 hS => ?_)
          obtain ⟨hP1, hK1, hD1⟩ := hB
          rw [ht] at hP1
          obtain ⟨_, rfl, rfl, rfl⟩ := hw
          obtain ⟨hP, hD⟩ := va_join (wr := []) (w1 := (wMd cI cJ cZ h0 h1 h2 h3 h4 h5 h6 h7 h8 h9 h10 h11 h12 h13 h14 h15 h16 h17 h18 h19 h20 h21 h22 h23 2 no ca ba nl xa sa da la ra fa ta ua uh uo ma mh ml nf fo fh fs rs ic mn bh bo ya np pa nc cp)) hP hD [0, 1, 2, 3, 4, 5, 6, 7, 8, 9, 10, 11, 12, 13, 14, 15, 16, 17, 18, 19, 20, 21, 22, 23] [] rfl rfl (by decide) (by decide) hk1 hFc hP1 hD1
          generalize H1 = H at hP hS ⊢
          have hP : va_P D vwCl (wMd cI cJ cZ h0 h1 h2 h3 h4 h5 h6 h7 h8 h9 h10 h11 h12 h13 h14 h15 h16 h17 h18 h19 h20 h21 h22 h23 2 no ca ba nl xa sa da la ra fa ta ua uh uo ma mh ml nf fo fh fs rs ic mn bh bo ya np pa nc cp) H := hP
          have hD : va_D A (wMd cI cJ cZ h0 h1 h2 h3 h4 h5 h6 h7 h8 h9 h10 h11 h12 h13 h14 h15 h16 h17 h18 h19 h20 h21 h22 h23 2 no ca ba nl xa sa da la ra fa ta ua uh uo ma mh ml nf fo fh fs rs ic mn bh bo ya np pa nc cp) := hD
          refine W.widen (k := 0) (n := 0) (Nat.le_of_ble_eq_true rfl) (Nat.le_of_ble_eq_true rfl) ?_
          refine nv_if_ne (tgt := 36) hx hb d_Md_sum_31 (by decide) (by decide) (fun c11 => absurd c11 (by decide)) (fun _ => ?_)
          refine nv_iconst (n := 0) hx hb d_Md_sum_34 ?_
          have hP9 := hP.sub (ws' := (wMd cI cJ cZ h0 h1 h2 h3 h4 h5 h6 h7 h8 h9 h10 h11 h12 h13 h14 h15 h16 h17 h18 h19 h20 h21 h22 h23 2 no ca ba nl xa sa da la ra fa ta ua uh uo ma mh ml nf fo fh fs rs ic mn bh bo ya np pa nc cp)) [0, 1, 2, 3, 4, 5, 6, 7, 8, 9, 10, 11, 12, 13, 14, 15, 16, 17, 18, 19, 20, 21, 22, 23] rfl
          have hD9 := hD.sub (ws' := (wMd cI cJ cZ h0 h1 h2 h3 h4 h5 h6 h7 h8 h9 h10 h11 h12 h13 h14 h15 h16 h17 h18 h19 h20 h21 h22 h23 2 no ca ba nl xa sa da la ra fa ta ua uh uo ma mh ml nf fo fh fs rs ic mn bh bo ya np pa nc cp)) [0, 1, 2, 3, 4, 5, 6, 7, 8, 9, 10, 11, 12, 13, 14, 15, 16, 17, 18, 19, 20, 21, 22, 23] (by decide) rfl
          exact W.iret hx hb hr (fun t ht hW => ⟨⟨_, ((2), (rs)), rfl, ⟨_, rfl, v⟩, by rw [ht]; exact hP9, va_K.moved hW.alike hK, hD9⟩, hS.F ht⟩) hS.2.2 d_Md_sum_35
        · replace v := v.2 c10
          refine nv_iconst (n := 1) hx hb d_Md_sum_22 ?_
          refine lv_goto (tgt := 27) hx hb d_Md_sum_23 (by decide) ?_
          refine nv_iconst (n := 1) hx hb d_Md_sum_27 ?_
          have hPc := hP.sub (ws' := (wMd cI cJ cZ h0 h1 h2 h3 h4 h5 h6 h7 h8 h9 h10 h11 h12 h13 h14 h15 h16 h17 h18 h19 h20 h21 h22 h23 th no ca ba nl xa sa da la ra fa ta ua uh uo ma mh ml nf fo fh fs rs ic mn bh bo ya np pa nc cp)) [0, 1, 2, 3, 4, 5, 6, 7, 8, 9, 10, 11, 12, 13, 14, 15, 16, 17, 18, 19, 20, 21, 22, 23] rfl
          have hDc := hD.sub (ws' := (wMd cI cJ cZ h0 h1 h2 h3 h4 h5 h6 h7 h8 h9 h10 h11 h12 h13 h14 h15 h16 h17 h18 h19 h20 h21 h22 h23 th no ca ba nl xa sa da la ra fa ta ua uh uo ma mh ml nf fo fh fs rs ic mn bh bo ya np pa nc cp)) [0, 1, 2, 3, 4, 5, 6, 7, 8, 9, 10, 11, 12, 13, 14, 15, 16, 17, 18, 19, 20, 21, 22, 23] (by decide) rfl
          have hFc := va_free (wc := (wMd cI cJ cZ h0 h1 h2 h3 h4 h5 h6 h7 h8 h9 h10 h11 h12 h13 h14 h15 h16 h17 h18 h19 h20 h21 h22 h23 th no ca ba nl xa sa da la ra fa ta ua uh uo ma mh ml nf fo fh fs rs ic mn bh bo ya np pa nc cp)) hD hS hA [0, 1, 2, 3, 4, 5, 6, 7, 8, 9, 10, 11, 12, 13, 14, 15, 16, 17, 18, 19, 20, 21, 22, 23] rfl
          refine va_calli (va_runV (As := [.int (iI 1), .int (iI 1), .int (iI 1)]) (rest := []) ⟨hx, hb, hml, hown, hts⟩ (m_Md_goes l D cI cJ cO cZ h0 h1 h2 h3 h4 h5 h6 h7 h8 h9 h10 h11 h12 h13 h14 h15 h16 h17 h18 h19 h20 h21 h22 h23 H.size th no ca ba nl xa sa da la ra fa ta ua uh uo ma mh ml nf fo fh fs rs ic mn bh bo ya np pa nc cp 1 1 1 (fun z t => z = 1 ∧ t = 0) (s_Md_goes_111 th no ca ba nl xa sa da la ra fa ta ua uh uo ma mh ml nf fo fh fs rs ic mn bh bo ya np pa nc cp)) (nv_cwV (n := 3) hts wd_812 wd_814 sl_17 wd_10 wd_815 (by decide +kernel) ⟨Nat.le_of_ble_eq_true rfl, Nat.le_of_ble_eq_true rfl⟩) ⟨blW, va_recv hK hPc (ci := 8) (q0 := 0) rfl rfl, fun U hU hW => ⟨rfl, by rw [hU], by rw [hU]; exact hPc, va_K.moved hW.alike hK, hDc.weaken (fun _ _ _ _ => trivial)⟩⟩ rfl rfl hl.1 rfl (lv_room (Nat.le_of_ble_eq_true rfl)) d_Md_sum_28 ⟨Nat.le_of_ble_eq_true rfl, Nat.le_of_ble_eq_true rfl⟩) hS (fun q _ h => hFc q h) hFc (fun r u t H1 locs ht hvm hw hB hz1 hk1 hS => ?_)
          obtain ⟨hP1, hK1, hD1⟩ := hB
          rw [ht] at hP1
          obtain ⟨_, rfl, rfl, rfl⟩ := hw
          obtain ⟨hP, hD⟩ := va_join (wr := []) (w1 := (wMd cI cJ cZ h0 h1 h2 h3 h4 h5 h6 h7 h8 h9 h10 h11 h12 h13 h14 h15 h16 h17 h18 h19 h20 h21 h22 h23 0 no ca ba nl xa sa da la ra fa ta ua uh uo ma mh ml nf fo fh fs rs ic mn bh bo ya np pa nc cp)) hP hD [0, 1, 2, 3, 4, 5, 6, 7, 8, 9, 10, 11, 12, 13, 14, 15, 16, 17, 18, 19, 20, 21, 22, 23] [] rfl rfl (by decide) (by decide) hk1 hFc hP1 hD1
          generalize H1 = H at hP hS ⊢
          have hP : va_P D vwCl (wMd cI cJ cZ h0 h1 h2 h3 h4 h5 h6 h7 h8 h9 h10 h11 h12 h13 h14 h15 h16 h17 h18 h19 h20 h21 h22 h23 0 no ca ba nl xa sa da la ra fa ta ua uh uo ma mh ml nf fo fh fs rs ic mn bh bo ya np pa nc cp) H := hP
          have hD : va_D A (wMd cI cJ cZ h0 h1 h2 h3 h4 h5 h6 h7 h8 h9 h10 h11 h12 h13 h14 h15 h16 h17 h18 h19 h20 h21 h22 h23 0 no ca ba nl xa sa da la ra fa ta ua uh uo ma mh ml nf fo fh fs rs ic mn bh bo ya np pa nc cp) := hD
          refine W.widen (k := 0) (n := 0) (Nat.le_of_ble_eq_true rfl) (Nat.le_of_ble_eq_true rfl) ?_
          refine nv_if_ne (tgt := 36) hx hb d_Md_sum_31 (by decide) (by decide) (fun _ => ?_) (fun c12 => absurd c12 (by decide))
          refine lv_aload_n hx hb d_Md_sum_36 rfl (lv_at hl 0 rfl) ?_
          refine lv_iload_n hx hb d_Md_sum_37 rfl (lv_at hl 1 rfl) ?_
          refine lv_iload_n hx hb d_Md_sum_38 rfl (lv_at hl 2 rfl) ?_
          refine lv_iload_n hx hb d_Md_sum_39 rfl (lv_at hl 3 rfl) ?_
          obtain ⟨P13, q15, v⟩ := v
          refine vp_callSl (nv_runV (wc := (wMd cI cJ cZ h0 h1 h2 h3 h4 h5 h6 h7 h8 h9 h10 h11 h12 h13 h14 h15 h16 h17 h18 h19 h20 h21 h22 h23 0 no ca ba nl xa sa da la ra fa ta ua uh uo ma mh ml nf fo fh fs rs ic mn bh bo ya np pa nc cp)) (As := [.int (iI ob), .int (iI from_), .int (iI to_)]) (rest := []) ⟨hx, hb, hml, hown, hts⟩ (m_Md_parts l D cI cJ cO cZ h0 h1 h2 h3 h4 h5 h6 h7 h8 h9 h10 h11 h12 h13 h14 h15 h16 h17 h18 h19 h20 h21 h22 h23 0 no ca ba nl xa sa da la ra fa ta ua uh uo ma mh ml nf fo fh fs rs ic mn bh bo ya np pa nc cp ob from_ to_ P13 q15) (nv_cwV (n := 3) hts wd_871 wd_873 sl_21 wd_10 wd_874 (by decide +kernel) ⟨Nat.le_of_ble_eq_true rfl, Nat.le_of_ble_eq_true rfl⟩) hK (hP.sub [0, 1, 2, 3, 4, 5, 6, 7, 8, 9, 10, 11, 12, 13, 14, 15, 16, 17, 18, 19, 20, 21, 22, 23] rfl) (va_recv hK hP (ci := 8) (q0 := 0) rfl rfl) rfl hl.1 rfl (Nat.le_of_ble_eq_true rfl) d_Md_sum_40 (Nat.le_of_ble_eq_true rfl) (Nat.le_of_ble_eq_true rfl)) (fun r hr => ?_)
          obtain ⟨z14, rfl, hz⟩ := hr
          replace v := v z14 hz
          refine lv_lstore (lv' := [(4, .long (lI z14)), (0, .ref h0), (1, .int (iI ob)), (2, .int (iI from_)), (3, .int (iI to_))]) hx hb d_Md_sum_43 hl (by decide) rfl (fun ls hl => ?_)
          refine lv_aload_n hx hb d_Md_sum_45 rfl (lv_at hl 1 rfl) ?_
          refine lv_lload hx hb d_Md_sum_46 (lv_at hl 0 rfl) ?_
          refine nv_ldc2 (z := 3600000) hx hb hown (hts _ wd_888) (by decide) d_Md_sum_48 ?_
          obtain ⟨k16, v⟩ := v
          obtain ⟨k17, v⟩ := v
          refine nv_lrem (z := z14 % 3600000) hx hb d_Md_sum_51 k16 (by decide) k17 (by decide) rfl ?_
          refine nv_l2i hx hb d_Md_sum_52 ?_
          refine va_put (D := D) (ci := 8) (v := .int (iI (z14 % 3600000))) (ty := .int) (C := "LightDosesModel") (T := T_Md) (N := 32) hx hb hts in_Md t_Md tok_Md n_Md hown hK hP hD hS 0 rfl rfl 22 (by decide) (hts _ wd_725) (fun _ h9 => h9) rfl (by decide +kernel) rfl rfl (Nat.le_of_ble_eq_true rfl) d_Md_sum_53 (fun H locs hP hD hS => ?_)
          have hP : va_P D vwCl (wMd cI cJ cZ h0 h1 h2 h3 h4 h5 h6 h7 h8 h9 h10 h11 h12 h13 h14 h15 h16 h17 h18 h19 h20 h21 h22 h23 0 no ca ba nl xa sa da la ra fa ta ua uh uo ma mh ml nf fo fh fs (z14 % 3600000) ic mn bh bo ya np pa nc cp) H := hP
          have hD : va_D A (wMd cI cJ cZ h0 h1 h2 h3 h4 h5 h6 h7 h8 h9 h10 h11 h12 h13 h14 h15 h16 h17 h18 h19 h20 h21 h22 h23 0 no ca ba nl xa sa da la ra fa ta ua uh uo ma mh ml nf fo fh fs (z14 % 3600000) ic mn bh bo ya np pa nc cp) := hD
          refine lv_lload hx hb d_Md_sum_56 (lv_at hl 0 rfl) ?_
          refine nv_ldc2 (z := 3600000) hx hb hown (hts _ wd_888) (by decide) d_Md_sum_58 ?_
          obtain ⟨k18, v⟩ := v
          refine nv_ldiv (z := z14 / 3600000) hx hb d_Md_sum_61 k16 (by decide) k18 (by decide) rfl ?_
          refine nv_l2i hx hb d_Md_sum_62 ?_
          have hP9 := hP.sub (ws' := (wMd cI cJ cZ h0 h1 h2 h3 h4 h5 h6 h7 h8 h9 h10 h11 h12 h13 h14 h15 h16 h17 h18 h19 h20 h21 h22 h23 0 no ca ba nl xa sa da la ra fa ta ua uh uo ma mh ml nf fo fh fs (z14 % 3600000) ic mn bh bo ya np pa nc cp)) [0, 1, 2, 3, 4, 5, 6, 7, 8, 9, 10, 11, 12, 13, 14, 15, 16, 17, 18, 19, 20, 21, 22, 23] rfl
          have hD9 := hD.sub (ws' := (wMd cI cJ cZ h0 h1 h2 h3 h4 h5 h6 h7 h8 h9 h10 h11 h12 h13 h14 h15 h16 h17 h18 h19 h20 h21 h22 h23 0 no ca ba nl xa sa da la ra fa ta ua uh uo ma mh ml nf fo fh fs (z14 % 3600000) ic mn bh bo ya np pa nc cp)) [0, 1, 2, 3, 4, 5, 6, 7, 8, 9, 10, 11, 12, 13, 14, 15, 16, 17, 18, 19, 20, 21, 22, 23] (by decide) rfl
          exact W.iret hx hb hr (fun t ht hW => ⟨⟨_, ((0), (z14 % 3600000)), rfl, ⟨_, rfl, v⟩, by rw [ht]; exact hP9, va_K.moved hW.alike hK, hD9⟩, hS.F ht⟩) hS.2.2 d_Md_sum_63
  · replace v := v.2 c3
    refine lv_iload_n hx hb d_Md_sum_6 rfl (lv_at hl 2 rfl) ?_
    obtain ⟨k19, v⟩ := v
    refine nv_if_lt (tgt := 26) hx hb d_Md_sum_7 (by decide) k19 (fun c20 => ?_) (fun c20 => ?_)
    · replace v := v.1 c20
      refine nv_iconst (n := 0) hx hb d_Md_sum_26 ?_
      refine nv_iconst (n := 1) hx hb d_Md_sum_27 ?_
      have hPc := hP.sub (ws' := (wMd cI cJ cZ h0 h1 h2 h3 h4 h5 h6 h7 h8 h9 h10 h11 h12 h13 h14 h15 h16 h17 h18 h19 h20 h21 h22 h23 th no ca ba nl xa sa da la ra fa ta ua uh uo ma mh ml nf fo fh fs rs ic mn bh bo ya np pa nc cp)) [0, 1, 2, 3, 4, 5, 6, 7, 8, 9, 10, 11, 12, 13, 14, 15, 16, 17, 18, 19, 20, 21, 22, 23] rfl
      have hDc := hD.sub (ws' := (wMd cI cJ cZ h0 h1 h2 h3 h4 h5 h6 h7 h8 h9 h10 h11 h12 h13 h14 h15 h16 h17 h18 h19 h20 h21 h22 h23 th no ca ba nl xa sa da la ra fa ta ua uh uo ma mh ml nf fo fh fs rs ic mn bh bo ya np pa nc cp)) [0, 1, 2, 3, 4, 5, 6, 7, 8, 9, 10, 11, 12, 13, 14, 15, 16, 17, 18, 19, 20, 21, 22, 23] (by decide) rfl
      have hFc := va_free (wc := (wMd cI cJ cZ h0 h1 h2 h3 h4 h5 h6 h7 h8 h9 h10 h11 h12 h13 h14 h15 h16 h17 h18 h19 h20 h21 h22 h23 th no ca ba nl xa sa da la ra fa ta ua uh uo ma mh ml nf fo fh fs rs ic mn bh bo ya np pa nc cp)) hD hS hA [0, 1, 2, 3, 4, 5, 6, 7, 8, 9, 10, 11, 12, 13, 14, 15, 16, 17, 18, 19, 20, 21, 22, 23] rfl
      refine va_calli (va_runV (As := [.int (iI 0), .int (iI 0), .int (iI 1)]) (rest := []) ⟨hx, hb, hml, hown, hts⟩ (m_Md_goes l D cI cJ cO cZ h0 h1 h2 h3 h4 h5 h6 h7 h8 h9 h10 h11 h12 h13 h14 h15 h16 h17 h18 h19 h20 h21 h22 h23 H.size th no ca ba nl xa sa da la ra fa ta ua uh uo ma mh ml nf fo fh fs rs ic mn bh bo ya np pa nc cp 0 0 1 (fun z t => z = 0 ∧ t = 1) (s_Md_goes_001 th no ca ba nl xa sa da la ra fa ta ua uh uo ma mh ml nf fo fh fs rs ic mn bh bo ya np pa nc cp)) (nv_cwV (n := 3) hts wd_812 wd_814 sl_17 wd_10 wd_815 (by decide +kernel) ⟨Nat.le_of_ble_eq_true rfl, Nat.le_of_ble_eq_true rfl⟩) ⟨blW, va_recv hK hPc (ci := 8) (q0 := 0) rfl rfl, fun U hU hW => ⟨rfl, by rw [hU], by rw [hU]; exact hPc, va_K.moved hW.alike hK, hDc.weaken (fun _ _ _ _ => trivial)⟩⟩ rfl rfl hl.1 rfl (lv_room (Nat.le_of_ble_eq_true rfl)) d_Md_sum_28 ⟨Nat.le_of_ble_eq_true rfl, Nat.le_of_ble_eq_true rfl⟩) hS (fun q _ h => hFc q h) hFc (fun r u t H1 locs ht hvm hw hB hz1 hk1 hS => ?_)
      obtain ⟨hP1, hK1, hD1⟩ := hB
      rw [ht] at hP1
      obtain ⟨_, rfl, rfl, rfl⟩ := hw
      obtain ⟨hP, hD⟩ := va_join (wr := []) (w1 := (wMd cI cJ cZ h0 h1 h2 h3 h4 h5 h6 h7 h8 h9 h10 h11 h12 h13 h14 h15 h16 h17 h18 h19 h20 h21 h22 h23 1 no ca ba nl xa sa da la ra fa ta ua uh uo ma mh ml nf fo fh fs rs ic mn bh bo ya np pa nc cp)) hP hD [0, 1, 2, 3, 4, 5, 6, 7, 8, 9, 10, 11, 12, 13, 14, 15, 16, 17, 18, 19, 20, 21, 22, 23] [] rfl rfl (by decide) (by decide) hk1 hFc hP1 hD1
      generalize H1 = H at hP hS ⊢
      have hP : va_P D vwCl (wMd cI cJ cZ h0 h1 h2 h3 h4 h5 h6 h7 h8 h9 h10 h11 h12 h13 h14 h15 h16 h17 h18 h19 h20 h21 h22 h23 1 no ca ba nl xa sa da la ra fa ta ua uh uo ma mh ml nf fo fh fs rs ic mn bh bo ya np pa nc cp) H := hP
      have hD : va_D A (wMd cI cJ cZ h0 h1 h2 h3 h4 h5 h6 h7 h8 h9 h10 h11 h12 h13 h14 h15 h16 h17 h18 h19 h20 h21 h22 h23 1 no ca ba nl xa sa da la ra fa ta ua uh uo ma mh ml nf fo fh fs rs ic mn bh bo ya np pa nc cp) := hD
      refine W.widen (k := 0) (n := 0) (Nat.le_of_ble_eq_true rfl) (Nat.le_of_ble_eq_true rfl) ?_
      refine nv_if_ne (tgt := 36) hx hb d_Md_sum_31 (by decide) (by decide) (fun c21 => absurd c21 (by decide)) (fun _ => ?_)
      refine nv_iconst (n := 0) hx hb d_Md_sum_34 ?_
      have hP9 := hP.sub (ws' := (wMd cI cJ cZ h0 h1 h2 h3 h4 h5 h6 h7 h8 h9 h10 h11 h12 h13 h14 h15 h16 h17 h18 h19 h20 h21 h22 h23 1 no ca ba nl xa sa da la ra fa ta ua uh uo ma mh ml nf fo fh fs rs ic mn bh bo ya np pa nc cp)) [0, 1, 2, 3, 4, 5, 6, 7, 8, 9, 10, 11, 12, 13, 14, 15, 16, 17, 18, 19, 20, 21, 22, 23] rfl
      have hD9 := hD.sub (ws' := (wMd cI cJ cZ h0 h1 h2 h3 h4 h5 h6 h7 h8 h9 h10 h11 h12 h13 h14 h15 h16 h17 h18 h19 h20 h21 h22 h23 1 no ca ba nl xa sa da la ra fa ta ua uh uo ma mh ml nf fo fh fs rs ic mn bh bo ya np pa nc cp)) [0, 1, 2, 3, 4, 5, 6, 7, 8, 9, 10, 11, 12, 13, 14, 15, 16, 17, 18, 19, 20, 21, 22, 23] (by decide) rfl
      exact W.iret hx hb hr (fun t ht hW => ⟨⟨_, ((1), (rs)), rfl, ⟨_, rfl, v⟩, by rw [ht]; exact hP9, va_K.moved hW.alike hK, hD9⟩, hS.F ht⟩) hS.2.2 d_Md_sum_35
    · replace v := v.2 c20
      refine lv_iload_n hx hb d_Md_sum_10 rfl (lv_at hl 3 rfl) ?_
      refine lv_iload_n hx hb d_Md_sum_11 rfl (lv_at hl 2 rfl) ?_
      obtain ⟨k22, v⟩ := v
      refine nv_icmp_lt (tgt := 26) hx hb d_Md_sum_12 (by decide) k22 k19 (fun c23 => ?_) (fun c23 => ?_)
      · replace v := v.1 c23
        refine nv_iconst (n := 0) hx hb d_Md_sum_26 ?_
        refine nv_iconst (n := 1) hx hb d_Md_sum_27 ?_
        have hPc := hP.sub (ws' := (wMd cI cJ cZ h0 h1 h2 h3 h4 h5 h6 h7 h8 h9 h10 h11 h12 h13 h14 h15 h16 h17 h18 h19 h20 h21 h22 h23 th no ca ba nl xa sa da la ra fa ta ua uh uo ma mh ml nf fo fh fs rs ic mn bh bo ya np pa nc cp)) [0, 1, 2, 3, 4, 5, 6, 7, 8, 9, 10, 11, 12, 13, 14, 15, 16, 17, 18, 19, 20, 21, 22, 23] rfl
        have hDc := hD.sub (ws' := (wMd cI cJ cZ h0 h1 h2 h3 h4 h5 h6 h7 h8 h9 h10 h11 h12 h13 h14 h15 h16 h17 h18 h19 h20 h21 h22 h23 th no ca ba nl xa sa da la ra fa ta ua uh uo ma mh ml nf fo fh fs rs ic mn bh bo ya np pa nc cp)) [0, 1, 2, 3, 4, 5, 6, 7, 8, 9, 10, 11, 12, 13, 14, 15, 16, 17, 18, 19, 20, 21, 22, 23] (by decide) rfl
        have hFc := va_free (wc := (wMd cI cJ cZ h0 h1 h2 h3 h4 h5 h6 h7 h8 h9 h10 h11 h12 h13 h14 h15 h16 h17 h18 h19 h20 h21 h22 h23 th no ca ba nl xa sa da la ra fa ta ua uh uo ma mh ml nf fo fh fs rs ic mn bh bo ya np pa nc cp)) hD hS hA [0, 1, 2, 3, 4, 5, 6, 7, 8, 9, 10, 11, 12, 13, 14, 15, 16, 17, 18, 19, 20, 21, 22, 23] rfl
        refine va_calli (va_runV (As := [.int (iI 0), .int (iI 0), .int (iI 1)]) (rest := []) ⟨hx, hb, hml, hown, hts⟩ (m_Md_goes l D cI cJ cO cZ h0 h1 h2 h3 h4 h5 h6 h7 h8 h9 h10 h11 h12 h13 h14 h15 h16 h17 h18 h19 h20 h21 h22 h23 H.size th no ca ba nl xa sa da la ra fa ta ua uh uo ma mh ml nf fo fh fs rs ic mn bh bo ya np pa nc cp 0 0 1 (fun z t => z = 0 ∧ t = 1) (s_Md_goes_001 th no ca ba nl xa sa da la ra fa ta ua uh uo ma mh ml nf fo fh fs rs ic mn bh bo ya np pa nc cp)) (nv_cwV (n := 3) hts wd_812 wd_814 sl_17 wd_10 wd_815 (by decide +kernel) ⟨Nat.le_of_ble_eq_true rfl, Nat.le_of_ble_eq_true rfl⟩) ⟨blW, va_recv hK hPc (ci := 8) (q0 := 0) rfl rfl, fun U hU hW => ⟨rfl, by rw [hU], by rw [hU]; exact hPc, va_K.moved hW.alike hK, hDc.weaken (fun _ _ _ _ => trivial)⟩⟩ rfl rfl hl.1 rfl (lv_room (Nat.le_of_ble_eq_true rfl)) d_Md_sum_28 ⟨Nat.le_of_ble_eq_true rfl, Nat.le_of_ble_eq_true rfl⟩) hS (fun q _ h => hFc q h) hFc (fun r u t H1 locs ht hvm hw hB hz1 hk1 hS => ?_)
        obtain ⟨hP1, hK1, hD1⟩ := hB
        rw [ht] at hP1
        obtain ⟨_, rfl, rfl, rfl⟩ := hw
        obtain ⟨hP, hD⟩ := va_join (wr := []) (w1 := (wMd cI cJ cZ h0 h1 h2 h3 h4 h5 h6 h7 h8 h9 h10 h11 h12 h13 h14 h15 h16 h17 h18 h19 h20 h21 h22 h23 1 no ca ba nl xa sa da la ra fa ta ua uh uo ma mh ml nf fo fh fs rs ic mn bh bo ya np pa nc cp)) hP hD [0, 1, 2, 3, 4, 5, 6, 7, 8, 9, 10, 11, 12, 13, 14, 15, 16, 17, 18, 19, 20, 21, 22, 23] [] rfl rfl (by decide) (by decide) hk1 hFc hP1 hD1
        generalize H1 = H at hP hS ⊢
        have hP : va_P D vwCl (wMd cI cJ cZ h0 h1 h2 h3 h4 h5 h6 h7 h8 h9 h10 h11 h12 h13 h14 h15 h16 h17 h18 h19 h20 h21 h22 h23 1 no ca ba nl xa sa da la ra fa ta ua uh uo ma mh ml nf fo fh fs rs ic mn bh bo ya np pa nc cp) H := hP
        have hD : va_D A (wMd cI cJ cZ h0 h1 h2 h3 h4 h5 h6 h7 h8 h9 h10 h11 h12 h13 h14 h15 h16 h17 h18 h19 h20 h21 h22 h23 1 no ca ba nl xa sa da la ra fa ta ua uh uo ma mh ml nf fo fh fs rs ic mn bh bo ya np pa nc cp) := hD
        refine W.widen (k := 0) (n := 0) (Nat.le_of_ble_eq_true rfl) (Nat.le_of_ble_eq_true rfl) ?_
        refine nv_if_ne (tgt := 36) hx hb d_Md_sum_31 (by decide) (by decide) (fun c24 => absurd c24 (by decide)) (fun _ => ?_)
        refine nv_iconst (n := 0) hx hb d_Md_sum_34 ?_
        have hP9 := hP.sub (ws' := (wMd cI cJ cZ h0 h1 h2 h3 h4 h5 h6 h7 h8 h9 h10 h11 h12 h13 h14 h15 h16 h17 h18 h19 h20 h21 h22 h23 1 no ca ba nl xa sa da la ra fa ta ua uh uo ma mh ml nf fo fh fs rs ic mn bh bo ya np pa nc cp)) [0, 1, 2, 3, 4, 5, 6, 7, 8, 9, 10, 11, 12, 13, 14, 15, 16, 17, 18, 19, 20, 21, 22, 23] rfl
        have hD9 := hD.sub (ws' := (wMd cI cJ cZ h0 h1 h2 h3 h4 h5 h6 h7 h8 h9 h10 h11 h12 h13 h14 h15 h16 h17 h18 h19 h20 h21 h22 h23 1 no ca ba nl xa sa da la ra fa ta ua uh uo ma mh ml nf fo fh fs rs ic mn bh bo ya np pa nc cp)) [0, 1, 2, 3, 4, 5, 6, 7, 8, 9, 10, 11, 12, 13, 14, 15, 16, 17, 18, 19, 20, 21, 22, 23] (by decide) rfl
        exact W.iret hx hb hr (fun t ht hW => ⟨⟨_, ((1), (rs)), rfl, ⟨_, rfl, v⟩, by rw [ht]; exact hP9, va_K.moved hW.alike hK, hD9⟩, hS.F ht⟩) hS.2.2 d_Md_sum_35
      · replace v := v.2 c23
        refine lv_iload_n hx hb d_Md_sum_15 rfl (lv_at hl 3 rfl) ?_
        refine nv_sipush (z := 26280) hx hb d_Md_sum_16 (by decide) ?_
        refine nv_icmp_gt (tgt := 26) hx hb d_Md_sum_19 (by decide) k22 (by decide) (fun c25 => ?_) (fun c25 => ?_)
        · replace v := v.1 c25
          refine nv_iconst (n := 0) hx hb d_Md_sum_26 ?_
          refine nv_iconst (n := 1) hx hb d_Md_sum_27 ?_
          have hPc := hP.sub (ws' := (wMd cI cJ cZ h0 h1 h2 h3 h4 h5 h6 h7 h8 h9 h10 h11 h12 h13 h14 h15 h16 h17 h18 h19 h20 h21 h22 h23 th no ca ba nl xa sa da la ra fa ta ua uh uo ma mh ml nf fo fh fs rs ic mn bh bo ya np pa nc cp)) [0, 1, 2, 3, 4, 5, 6, 7, 8, 9, 10, 11, 12, 13, 14, 15, 16, 17, 18, 19, 20, 21, 22, 23] rfl
          have hDc := hD.sub (ws' := (wMd cI cJ cZ h0 h1 h2 h3 h4 h5 h6 h7 h8 h9 h10 h11 h12 h13 h14 h15 h16 h17 h18 h19 h20 h21 h22 h23 th no ca ba nl xa sa da la ra fa ta ua uh uo ma mh ml nf fo fh fs rs ic mn bh bo ya np pa nc cp)) [0, 1, 2, 3, 4, 5, 6, 7, 8, 9, 10, 11, 12, 13, 14, 15, 16, 17, 18, 19, 20, 21, 22, 23] (by decide) rfl
          have hFc := va_free (wc := (wMd cI cJ cZ h0 h1 h2 h3 h4 h5 h6 h7 h8 h9 h10 h11 h12 h13 h14 h15 h16 h17 h18 h19 h20 h21 h22 h23 th no ca ba nl xa sa da la ra fa ta ua uh uo ma mh ml nf fo fh fs rs ic mn bh bo ya np pa nc cp)) hD hS hA [0, 1, 2, 3, 4, 5, 6, 7, 8, 9, 10, 11, 12, 13, 14, 15, 16, 17, 18, 19, 20, 21, 22, 23] rfl
          refine va_calli (va_runV (As := [.int (iI 0), .int (iI 0), .int (iI 1)]) (rest := []) ⟨hx, hb, hml, hown, hts⟩ (m_Md_goes l D cI cJ cO cZ h0 h1 h2 h3 h4 h5 h6 h7 h8 h9 h10 h11 h12 h13 h14 h15 h16 h17 h18 h19 h20 h21 h22 h23 H.size th no ca ba nl xa sa da la ra fa ta ua uh uo ma mh ml nf fo fh fs rs ic mn bh bo ya np pa nc cp 0 0 1 (fun z t => z = 0 ∧ t = 1) (s_Md_goes_001 th no ca ba nl xa sa da la ra fa ta ua uh uo ma mh ml nf fo fh fs rs ic mn bh bo ya np pa nc cp)) (nv_cwV (n := 3) hts wd_812 wd_814 sl_17 wd_10 wd_815 (by decide +kernel) ⟨Nat.le_of_ble_eq_true rfl, Nat.le_of_ble_eq_true rfl⟩) ⟨blW, va_recv hK hPc (ci := 8) (q0 := 0) rfl rfl, fun U hU hW => ⟨rfl, by rw [hU], by rw [hU]; exact hPc, va_K.moved hW.alike hK, hDc.weaken (fun _ _ _ _ => trivial)⟩⟩ rfl rfl hl.1 rfl (lv_room (Nat.le_of_ble_eq_true rfl)) d_Md_sum_28 ⟨Nat.le_of_ble_eq_true rfl, Nat.le_of_ble_eq_true rfl⟩) hS (fun q _ h => hFc q h) hFc (fun r u t H1 locs ht hvm hw hB hz1 hk1 hS => ?_)
          obtain ⟨hP1, hK1, hD1⟩ := hB
          rw [ht] at hP1
          obtain ⟨_, rfl, rfl, rfl⟩ := hw
          obtain ⟨hP, hD⟩ := va_join (wr := []) (w1 := (wMd cI cJ cZ h0 h1 h2 h3 h4 h5 h6 h7 h8 h9 h10 h11 h12 h13 h14 h15 h16 h17 h18 h19 h20 h21 h22 h23 1 no ca ba nl xa sa da la ra fa ta ua uh uo ma mh ml nf fo fh fs rs ic mn bh bo ya np pa nc cp)) hP hD [0, 1, 2, 3, 4, 5, 6, 7, 8, 9, 10, 11, 12, 13, 14, 15, 16, 17, 18, 19, 20, 21, 22, 23] [] rfl rfl (by decide) (by decide) hk1 hFc hP1 hD1
          generalize H1 = H at hP hS ⊢
          have hP : va_P D vwCl (wMd cI cJ cZ h0 h1 h2 h3 h4 h5 h6 h7 h8 h9 h10 h11 h12 h13 h14 h15 h16 h17 h18 h19 h20 h21 h22 h23 1 no ca ba nl xa sa da la ra fa ta ua uh uo ma mh ml nf fo fh fs rs ic mn bh bo ya np pa nc cp) H := hP
          have hD : va_D A (wMd cI cJ cZ h0 h1 h2 h3 h4 h5 h6 h7 h8 h9 h10 h11 h12 h13 h14 h15 h16 h17 h18 h19 h20 h21 h22 h23 1 no ca ba nl xa sa da la ra fa ta ua uh uo ma mh ml nf fo fh fs rs ic mn bh bo ya np pa nc cp) := hD
          refine W.widen (k := 0) (n := 0) (Nat.le_of_ble_eq_true rfl) (Nat.le_of_ble_eq_true rfl) ?_
          refine nv_if_ne (tgt := 36) hx hb d_Md_sum_31 (by decide) (by decide) (fun c26 => absurd c26 (by decide)) (fun _ => ?_)
          refine nv_iconst (n := 0) hx hb d_Md_sum_34 ?_
          have hP9 := hP.sub (ws' := (wMd cI cJ cZ h0 h1 h2 h3 h4 h5 h6 h7 h8 h9 h10 h11 h12 h13 h14 h15 h16 h17 h18 h19 h20 h21 h22 h23 1 no ca ba nl xa sa da la ra fa ta ua uh uo ma mh ml nf fo fh fs rs ic mn bh bo ya np pa nc cp)) [0, 1, 2, 3, 4, 5, 6, 7, 8, 9, 10, 11, 12, 13, 14, 15, 16, 17, 18, 19, 20, 21, 22, 23] rfl
          have hD9 := hD.sub (ws' := (wMd cI cJ cZ h0 h1 h2 h3 h4 h5 h6 h7 h8 h9 h10 h11 h12 h13 h14 h15 h16 h17 h18 h19 h20 h21 h22 h23 1 no ca ba nl xa sa da la ra fa ta ua uh uo ma mh ml nf fo fh fs rs ic mn bh bo ya np pa nc cp)) [0, 1, 2, 3, 4, 5, 6, 7, 8, 9, 10, 11, 12, 13, 14, 15, 16, 17, 18, 19, 20, 21, 22, 23] (by decide) rfl
          exact W.iret hx hb hr (fun t ht hW => ⟨⟨_, ((1), (rs)), rfl, ⟨_, rfl, v⟩, by rw [ht]; exact hP9, va_K.moved hW.alike hK, hD9⟩, hS.F ht⟩) hS.2.2 d_Md_sum_35
        · replace v := v.2 c25
          refine nv_iconst (n := 1) hx hb d_Md_sum_22 ?_
          refine lv_goto (tgt := 27) hx hb d_Md_sum_23 (by decide) ?_
          refine nv_iconst (n := 1) hx hb d_Md_sum_27 ?_
          have hPc := hP.sub (ws' := (wMd cI cJ cZ h0 h1 h2 h3 h4 h5 h6 h7 h8 h9 h10 h11 h12 h13 h14 h15 h16 h17 h18 h19 h20 h21 h22 h23 th no ca ba nl xa sa da la ra fa ta ua uh uo ma mh ml nf fo fh fs rs ic mn bh bo ya np pa nc cp)) [0, 1, 2, 3, 4, 5, 6, 7, 8, 9, 10, 11, 12, 13, 14, 15, 16, 17, 18, 19, 20, 21, 22, 23] rfl
          have hDc := hD.sub (ws' := (wMd cI cJ cZ h0 h1 h2 h3 h4 h5 h6 h7 h8 h9 h10 h11 h12 h13 h14 h15 h16 h17 h18 h19 h20 h21 h22 h23 th no ca ba nl xa sa da la ra fa ta ua uh uo ma mh ml nf fo fh fs rs ic mn bh bo ya np pa nc cp)) [0, 1, 2, 3, 4, 5, 6, 7, 8, 9, 10, 11, 12, 13, 14, 15, 16, 17, 18, 19, 20, 21, 22, 23] (by decide) rfl
          have hFc := va_free (wc := (wMd cI cJ cZ h0 h1 h2 h3 h4 h5 h6 h7 h8 h9 h10 h11 h12 h13 h14 h15 h16 h17 h18 h19 h20 h21 h22 h23 th no ca ba nl xa sa da la ra fa ta ua uh uo ma mh ml nf fo fh fs rs ic mn bh bo ya np pa nc cp)) hD hS hA [0, 1, 2, 3, 4, 5, 6, 7, 8, 9, 10, 11, 12, 13, 14, 15, 16, 17, 18, 19, 20, 21, 22, 23] rfl
          refine va_calli (va_runV (As := [.int (iI 0), .int (iI 1), .int (iI 1)]) (rest := []) ⟨hx, hb, hml, hown, hts⟩ (m_Md_goes l D cI cJ cO cZ h0 h1 h2 h3 h4 h5 h6 h7 h8 h9 h10 h11 h12 h13 h14 h15 h16 h17 h18 h19 h20 h21 h22 h23 H.size th no ca ba nl xa sa da la ra fa ta ua uh uo ma mh ml nf fo fh fs rs ic mn bh bo ya np pa nc cp 0 1 1 (fun z t => z = 0 ∧ t = 1) (s_Md_goes_011 th no ca ba nl xa sa da la ra fa ta ua uh uo ma mh ml nf fo fh fs rs ic mn bh bo ya np pa nc cp)) (nv_cwV (n := 3) hts wd_812 wd_814 sl_17 wd_10 wd_815 (by decide +kernel) ⟨Nat.le_of_ble_eq_true rfl, Nat.le_of_ble_eq_true rfl⟩) ⟨blW, va_recv hK hPc (ci := 8) (q0 := 0) rfl rfl, fun U hU hW => ⟨rfl, by rw [hU], by rw [hU]; exact hPc, va_K.moved hW.alike hK, hDc.weaken (fun _ _ _ _ => trivial)⟩⟩ rfl rfl hl.1 rfl (lv_room (Nat.le_of_ble_eq_true rfl)) d_Md_sum_28 ⟨Nat.le_of_ble_eq_true rfl, Nat.le_of_ble_eq_true rfl⟩) hS (fun q _ h => hFc q h) hFc (fun r u t H1 locs ht hvm hw hB hz1 hk1 hS => ?_)
          obtain ⟨hP1, hK1, hD1⟩ := hB
          rw [ht] at hP1
          obtain ⟨_, rfl, rfl, rfl⟩ := hw
          obtain ⟨hP, hD⟩ := va_join (wr := []) (w1 := (wMd cI cJ cZ h0 h1 h2 h3 h4 h5 h6 h7 h8 h9 h10 h11 h12 h13 h14 h15 h16 h17 h18 h19 h20 h21 h22 h23 1 no ca ba nl xa sa da la ra fa ta ua uh uo ma mh ml nf fo fh fs rs ic mn bh bo ya np pa nc cp)) hP hD [0, 1, 2, 3, 4, 5, 6, 7, 8, 9, 10, 11, 12, 13, 14, 15, 16, 17, 18, 19, 20, 21, 22, 23] [] rfl rfl (by decide) (by decide) hk1 hFc hP1 hD1
          generalize H1 = H at hP hS ⊢
          have hP : va_P D vwCl (wMd cI cJ cZ h0 h1 h2 h3 h4 h5 h6 h7 h8 h9 h10 h11 h12 h13 h14 h15 h16 h17 h18 h19 h20 h21 h22 h23 1 no ca ba nl xa sa da la ra fa ta ua uh uo ma mh ml nf fo fh fs rs ic mn bh bo ya np pa nc cp) H := hP
          have hD : va_D A (wMd cI cJ cZ h0 h1 h2 h3 h4 h5 h6 h7 h8 h9 h10 h11 h12 h13 h14 h15 h16 h17 h18 h19 h20 h21 h22 h23 1 no ca ba nl xa sa da la ra fa ta ua uh uo ma mh ml nf fo fh fs rs ic mn bh bo ya np pa nc cp) := hD
          refine W.widen (k := 0) (n := 0) (Nat.le_of_ble_eq_true rfl) (Nat.le_of_ble_eq_true rfl) ?_
          refine nv_if_ne (tgt := 36) hx hb d_Md_sum_31 (by decide) (by decide) (fun c27 => absurd c27 (by decide)) (fun _ => ?_)
          refine nv_iconst (n := 0) hx hb d_Md_sum_34 ?_
          have hP9 := hP.sub (ws' := (wMd cI cJ cZ h0 h1 h2 h3 h4 h5 h6 h7 h8 h9 h10 h11 h12 h13 h14 h15 h16 h17 h18 h19 h20 h21 h22 h23 1 no ca ba nl xa sa da la ra fa ta ua uh uo ma mh ml nf fo fh fs rs ic mn bh bo ya np pa nc cp)) [0, 1, 2, 3, 4, 5, 6, 7, 8, 9, 10, 11, 12, 13, 14, 15, 16, 17, 18, 19, 20, 21, 22, 23] rfl
          have hD9 := hD.sub (ws' := (wMd cI cJ cZ h0 h1 h2 h3 h4 h5 h6 h7 h8 h9 h10 h11 h12 h13 h14 h15 h16 h17 h18 h19 h20 h21 h22 h23 1 no ca ba nl xa sa da la ra fa ta ua uh uo ma mh ml nf fo fh fs rs ic mn bh bo ya np pa nc cp)) [0, 1, 2, 3, 4, 5, 6, 7, 8, 9, 10, 11, 12, 13, 14, 15, 16, 17, 18, 19, 20, 21, 22, 23] (by decide) rfl
          exact W.iret hx hb hr (fun t ht hW => ⟨⟨_, ((1), (rs)), rfl, ⟨_, rfl, v⟩, by rw [ht]; exact hP9, va_K.moved hW.alike hK, hD9⟩, hS.F ht⟩) hS.2.2 d_Md_sum_35

theorem d_Md_left_0 : decode prog_10_method_26_code 0 = .ok (.aload_n 0, 1) := by decide +kernel
theorem d_Md_left_1 : decode prog_10_method_26_code 1 = .ok (.aload_n 0, 1) := by decide +kernel
theorem d_Md_left_2 : decode prog_10_method_26_code 2 = .ok (.iload_n 1, 1) := by decide +kernel
theorem d_Md_left_3 : decode prog_10_method_26_code 3 = .ok (.invokevirtual 116, 3) := by decide +kernel
theorem d_Md_left_6 : decode prog_10_method_26_code 6 = .ok (.ifCond .eq 16, 3) := by decide +kernel
theorem d_Md_left_9 : decode prog_10_method_26_code 9 = .ok (.iload_n 2, 1) := by decide +kernel
theorem d_Md_left_10 : decode prog_10_method_26_code 10 = .ok (.iconst 0, 1) := by decide +kernel
theorem d_Md_left_11 : decode prog_10_method_26_code 11 = .ok (.iconst 2, 1) := by decide +kernel
theorem d_Md_left_12 : decode prog_10_method_26_code 12 = .ok (.invokestatic 92, 3) := by decide +kernel
theorem d_Md_left_15 : decode prog_10_method_26_code 15 = .ok (.ifCond .eq 7, 3) := by decide +kernel
theorem d_Md_left_18 : decode prog_10_method_26_code 18 = .ok (.iconst 1, 1) := by decide +kernel
theorem d_Md_left_19 : decode prog_10_method_26_code 19 = .ok (.goto 4, 3) := by decide +kernel
theorem d_Md_left_22 : decode prog_10_method_26_code 22 = .ok (.iconst 0, 1) := by decide +kernel
theorem d_Md_left_23 : decode prog_10_method_26_code 23 = .ok (.iconst 1, 1) := by decide +kernel
theorem d_Md_left_24 : decode prog_10_method_26_code 24 = .ok (.iconst 1, 1) := by decide +kernel
theorem d_Md_left_25 : decode prog_10_method_26_code 25 = .ok (.invokevirtual 96, 3) := by decide +kernel
theorem d_Md_left_28 : decode prog_10_method_26_code 28 = .ok (.ifCond .ne 5, 3) := by decide +kernel
theorem d_Md_left_31 : decode prog_10_method_26_code 31 = .ok (.iconst 0, 1) := by decide +kernel
theorem d_Md_left_32 : decode prog_10_method_26_code 32 = .ok (.ireturn, 1) := by decide +kernel
theorem d_Md_left_33 : decode prog_10_method_26_code 33 = .ok (.aload_n 0, 1) := by decide +kernel
theorem d_Md_left_34 : decode prog_10_method_26_code 34 = .ok (.getfield 13, 3) := by decide +kernel
theorem d_Md_left_37 : decode prog_10_method_26_code 37 = .ok (.aload_n 0, 1) := by decide +kernel
theorem d_Md_left_38 : decode prog_10_method_26_code 38 = .ok (.getfield 7, 3) := by decide +kernel
theorem d_Md_left_41 : decode prog_10_method_26_code 41 = .ok (.iload_n 1, 1) := by decide +kernel
theorem d_Md_left_42 : decode prog_10_method_26_code 42 = .ok (.iaload, 1) := by decide +kernel
theorem d_Md_left_43 : decode prog_10_method_26_code 43 = .ok (.iaload, 1) := by decide +kernel
theorem d_Md_left_44 : decode prog_10_method_26_code 44 = .ok (.iconst (-1), 1) := by decide +kernel
theorem d_Md_left_45 : decode prog_10_method_26_code 45 = .ok (.if_icmp .ne 6, 3) := by decide +kernel
theorem d_Md_left_48 : decode prog_10_method_26_code 48 = .ok (.ldc 149, 2) := by decide +kernel
theorem d_Md_left_50 : decode prog_10_method_26_code 50 = .ok (.ireturn, 1) := by decide +kernel
theorem d_Md_left_51 : decode prog_10_method_26_code 51 = .ok (.aload_n 0, 1) := by decide +kernel
theorem d_Md_left_52 : decode prog_10_method_26_code 52 = .ok (.iload_n 1, 1) := by decide +kernel
theorem d_Md_left_53 : decode prog_10_method_26_code 53 = .ok (.invokevirtual 150, 3) := by decide +kernel
theorem d_Md_left_56 : decode prog_10_method_26_code 56 = .ok (.aload_n 0, 1) := by decide +kernel
theorem d_Md_left_57 : decode prog_10_method_26_code 57 = .ok (.iload_n 1, 1) := by decide +kernel
theorem d_Md_left_58 : decode prog_10_method_26_code 58 = .ok (.sipush 8760, 3) := by decide +kernel
theorem d_Md_left_61 : decode prog_10_method_26_code 61 = .ok (.iload_n 2, 1) := by decide +kernel
theorem d_Md_left_62 : decode prog_10_method_26_code 62 = .ok (.imul, 1) := by decide +kernel
theorem d_Md_left_63 : decode prog_10_method_26_code 63 = .ok (.sipush 8760, 3) := by decide +kernel
theorem d_Md_left_66 : decode prog_10_method_26_code 66 = .ok (.iload_n 2, 1) := by decide +kernel
theorem d_Md_left_67 : decode prog_10_method_26_code 67 = .ok (.imul, 1) := by decide +kernel
theorem d_Md_left_68 : decode prog_10_method_26_code 68 = .ok (.sipush 8760, 3) := by decide +kernel
theorem d_Md_left_71 : decode prog_10_method_26_code 71 = .ok (.iadd, 1) := by decide +kernel
theorem d_Md_left_72 : decode prog_10_method_26_code 72 = .ok (.invokevirtual 143, 3) := by decide +kernel
theorem d_Md_left_75 : decode prog_10_method_26_code 75 = .ok (.lsub, 1) := by decide +kernel
theorem d_Md_left_76 : decode prog_10_method_26_code 76 = .ok (.lstore_n 3, 1) := by decide +kernel
theorem d_Md_left_77 : decode prog_10_method_26_code 77 = .ok (.lload_n 3, 1) := by decide +kernel
theorem d_Md_left_78 : decode prog_10_method_26_code 78 = .ok (.ldc2_w 125, 3) := by decide +kernel
theorem d_Md_left_81 : decode prog_10_method_26_code 81 = .ok (.ldiv, 1) := by decide +kernel
theorem d_Md_left_82 : decode prog_10_method_26_code 82 = .ok (.lstore 5, 2) := by decide +kernel
theorem d_Md_left_84 : decode prog_10_method_26_code 84 = .ok (.lload 5, 2) := by decide +kernel
theorem d_Md_left_86 : decode prog_10_method_26_code 86 = .ok (.ldc2_w 125, 3) := by decide +kernel
theorem d_Md_left_89 : decode prog_10_method_26_code 89 = .ok (.lmul, 1) := by decide +kernel
theorem d_Md_left_90 : decode prog_10_method_26_code 90 = .ok (.lload_n 3, 1) := by decide +kernel
theorem d_Md_left_91 : decode prog_10_method_26_code 91 = .ok (.lcmp, 1) := by decide +kernel
theorem d_Md_left_92 : decode prog_10_method_26_code 92 = .ok (.ifCond .le 10, 3) := by decide +kernel
theorem d_Md_left_95 : decode prog_10_method_26_code 95 = .ok (.lload 5, 2) := by decide +kernel
theorem d_Md_left_97 : decode prog_10_method_26_code 97 = .ok (.lconst 1, 1) := by decide +kernel
theorem d_Md_left_98 : decode prog_10_method_26_code 98 = .ok (.lsub, 1) := by decide +kernel
theorem d_Md_left_99 : decode prog_10_method_26_code 99 = .ok (.goto 5, 3) := by decide +kernel
theorem d_Md_left_102 : decode prog_10_method_26_code 102 = .ok (.lload 5, 2) := by decide +kernel
theorem d_Md_left_104 : decode prog_10_method_26_code 104 = .ok (.l2i, 1) := by decide +kernel
theorem d_Md_left_105 : decode prog_10_method_26_code 105 = .ok (.ireturn, 1) := by decide +kernel
def vc_Md_left (th : Int) (no : Int) (ca : Nat → Int) (ba : Nat → Int) (nl : Int) (xa : Nat → Int) (sa : Nat → Int) (da : Nat → Int) (la : Nat → Int) (ra : Nat → Int) (fa : Nat → Int) (ta : Nat → Int) (ua : Nat → Int) (uh : Nat → Int) (uo : Nat → Int) (ma : Nat → Int) (mh : Nat → Int) (ml : Nat → Int) (nf : Int) (fo : Nat → Int) (fh : Nat → Int) (fs : Nat → Int) (rs : Int) (ic : Int) (mn : Int) (bh : Nat → Int) (bo : Nat → Int) (ya : Nat → Int) (np : Int) (pa : Nat → Int) (nc : Int) (cp : Nat → Int) (ob : Int) (yr : Int) (post : Int → Int → Prop) : Prop := (r32 ob) ∧ ((r32 no) ∧ (((0 ≤ ob ∧ ob < no) → (r32 yr) ∧ (((0 ≤ yr ∧ yr ≤ 2) → (0 ≤ ob ∧ ob < 12) ∧ ((0 ≤ ca (ob).toNat ∧ ca (ob).toNat < 6) ∧ ((r32 (ba (ca (ob).toNat).toNat)) ∧ ((¬ ba (ca (ob).toNat).toNat = (-1) → ∃ P13 : Int → Prop, vc_Md_bound 0 no ca ba nl xa sa da la ra fa ta ua uh uo ma mh ml nf fo fh fs rs ic mn bh bo ya np pa nc cp ob P13 ∧ ∀ z14 : Int, P13 z14 → ∃ P16 : Int → Prop, vc_Md_parts 0 no ca ba nl xa sa da la ra fa ta ua uh uo ma mh ml nf fo fh fs rs ic mn bh bo ya np pa nc cp ob (8760 * yr) (8760 * yr + 8760) P16 ∧ ∀ z17 : Int, P16 z17 → (r64 (z14 - z17)) ∧ ((r64 ((Int.tdiv (z14 - z17) 3600000) * 3600000)) ∧ (((Int.tdiv (z14 - z17) 3600000) * 3600000 ≤ z14 - z17 → post (Int.tdiv (z14 - z17) 3600000) 0) ∧ (z14 - z17 < (Int.tdiv (z14 - z17) 3600000) * 3600000 → post (Int.tdiv (z14 - z17) 3600000 - 1) 0)))) ∧ (ba (ca (ob).toNat).toNat = (-1) → post (-2147483648) 0))))) ∧ (¬ (0 ≤ yr ∧ yr ≤ 2) → post 0 1))) ∧ (¬ (0 ≤ ob ∧ ob < no) → post 0 1)))
set_option maxHeartbeats 4000000 in
set_option maxRecDepth 100000 in
theorem m_Md_left (l : Launch) (D : va_G) (cI cJ cO cZ : ClassId) (h0 h1 h2 h3 h4 h5 h6 h7 h8 h9 h10 h11 h12 h13 h14 h15 h16 h17 h18 h19 h20 h21 h22 h23 : Nat) (sz : Nat) (th : Int) (no : Int) (ca : Nat → Int) (ba : Nat → Int) (nl : Int) (xa : Nat → Int) (sa : Nat → Int) (da : Nat → Int) (la : Nat → Int) (ra : Nat → Int) (fa : Nat → Int) (ta : Nat → Int) (ua : Nat → Int) (uh : Nat → Int) (uo : Nat → Int) (ma : Nat → Int) (mh : Nat → Int) (ml : Nat → Int) (nf : Int) (fo : Nat → Int) (fh : Nat → Int) (fs : Nat → Int) (rs : Int) (ic : Int) (mn : Int) (bh : Nat → Int) (bo : Nat → Int) (ya : Nat → Int) (np : Int) (pa : Nat → Int) (nc : Int) (cp : Nat → Int) (ob : Int) (yr : Int) (post : Int → Int → Prop) (v : vc_Md_left th no ca ba nl xa sa da la ra fa ta ua uh uo ma mh ml nf fo fh fs rs ic mn bh bo ya np pa nc cp ob yr post) : Met l ⟨"LightDosesModel", "left", "(II)I"⟩ (.code ⟨"LightDosesModel", "left", "(II)I"⟩ prog_10_method_26_code 7 (some .int) :: TG) { frames := 2, cells := 0, slots := 0, locals := 53 } (va_Pc [.ref h0, .int (iI ob), .int (iI yr)] (fun U => U.heap.size = sz ∧ va_P D vwCl (wMd cI cJ cZ h0 h1 h2 h3 h4 h5 h6 h7 h8 h9 h10 h11 h12 h13 h14 h15 h16 h17 h18 h19 h20 h21 h22 h23 th no ca ba nl xa sa da la ra fa ta ua uh uo ma mh ml nf fo fh fs rs ic mn bh bo ya np pa nc cp) U.heap ∧ va_K D vwCl (tyx cI cJ cO cZ) U ∧ va_D (fun _ => True) (wMd cI cJ cZ h0 h1 h2 h3 h4 h5 h6 h7 h8 h9 h10 h11 h12 h13 h14 h15 h16 h17 h18 h19 h20 h21 h22 h23 th no ca ba nl xa sa da la ra fa ta ua uh uo ma mh ml nf fo fh fs rs ic mn bh bo ya np pa nc cp))) (va_Qi (fun (r : Int32) (u : Int) => ∃ z : Int, r = iI z ∧ post z u) (fun u t => va_P D vwCl (wMd cI cJ cZ h0 h1 h2 h3 h4 h5 h6 h7 h8 h9 h10 h11 h12 h13 h14 h15 h16 h17 h18 h19 h20 h21 h22 h23 u no ca ba nl xa sa da la ra fa ta ua uh uo ma mh ml nf fo fh fs rs ic mn bh bo ya np pa nc cp) t.heap ∧ va_K D vwCl (tyx cI cJ cO cZ) t ∧ va_D (va_A (wMd cI cJ cZ h0 h1 h2 h3 h4 h5 h6 h7 h8 h9 h10 h11 h12 h13 h14 h15 h16 h17 h18 h19 h20 h21 h22 h23 th no ca ba nl xa sa da la ra fa ta ua uh uo ma mh ml nf fo fh fs rs ic mn bh bo ya np pa nc cp) sz) (wMd cI cJ cZ h0 h1 h2 h3 h4 h5 h6 h7 h8 h9 h10 h11 h12 h13 h14 h15 h16 h17 h18 h19 h20 h21 h22 h23 u no ca ba nl xa sa da la ra fa ta ua uh uo ma mh ml nf fo fh fs rs ic mn bh bo ya np pa nc cp)) (va_A (wMd cI cJ cZ h0 h1 h2 h3 h4 h5 h6 h7 h8 h9 h10 h11 h12 h13 h14 h15 h16 h17 h18 h19 h20 h21 h22 h23 th no ca ba nl xa sa da la ra fa ta ua uh uo ma mh ml nf fo fh fs rs ic mn bh bo ya np pa nc cp) sz)) 0 0 (va_A (wMd cI cJ cZ h0 h1 h2 h3 h4 h5 h6 h7 h8 h9 h10 h11 h12 h13 h14 h15 h16 h17 h18 h19 h20 h21 h22 h23 th no ca ba nl xa sa da la ra fa ta ua uh uo ma mh ml nf fo fh fs rs ic mn bh bo ya np pa nc cp) sz) := by
  refine Met.ofW (cc := prog_10_method_26_code) (maxL := 7) (ret := (some .int)) (by decide) rfl ?_
  intro p e s m args below meth c s₁ B hml hv
  obtain ⟨rfl, hsz, hP, hK, hD0⟩ := hv
  have hx := B.exec
  have hb := B.bytes
  have hr := B.returns
  have hts0 := atoms_spec (ws := (.code ⟨"LightDosesModel", "left", "(II)I"⟩ prog_10_method_26_code 7 (some .int) :: TG)) B.pre
  have hts : ∀ w ∈ TG, w.before _ s = true := fun w h => hts0 w (List.mem_cons_of_mem _ h)
  have hown : s.vm.findClass "LightDosesModel" = some m.cls := findClass_of_methodNamed B.named
  have hlocks := B.notSynchronized
  subst hsz
  have hD := hD0.self (sz := s.heap.size)
  generalize hAe : va_A (wMd cI cJ cZ h0 h1 h2 h3 h4 h5 h6 h7 h8 h9 h10 h11 h12 h13 h14 h15 h16 h17 h18 h19 h20 h21 h22 h23 th no ca ba nl xa sa da la ra fa ta ua uh uo ma mh ml nf fo fh fs rs ic mn bh bo ya np pa nc cp) s.heap.size = A at hD ⊢
  have hA : ∀ q : Nat, s.heap.size ≤ q → A q := fun q h => by rw [← hAe]; exact Or.inr h
  have hS : va_S A s.heap s.heap [] := va_S.rf
  have hP : va_P D vwCl (wMd cI cJ cZ h0 h1 h2 h3 h4 h5 h6 h7 h8 h9 h10 h11 h12 h13 h14 h15 h16 h17 h18 h19 h20 h21 h22 h23 th no ca ba nl xa sa da la ra fa ta ua uh uo ma mh ml nf fo fh fs rs ic mn bh bo ya np pa nc cp) s.heap := hP
  have hl := lv_entry ([Value.ref h0, Value.int (iI ob), Value.int (iI yr)]) (n := 7) (Nat.le_of_ble_eq_true rfl)
  rw [lg_entry_eq]
  generalize (lg_sl ([Value.ref h0, Value.int (iI ob), Value.int (iI yr)]) ++ List.replicate (7 - (lg_sl ([Value.ref h0, Value.int (iI ob), Value.int (iI yr)])).length) Slot.unset).toArray = ls at hl ⊢
  have hl : lv_has ls 7 [(0, .ref h0), (1, .int (iI ob)), (2, .int (iI yr))] := hl
  unfold vc_Md_left at v
  obtain ⟨H, hH⟩ : ∃ H, H = s.heap := ⟨_, rfl⟩
  obtain ⟨locs, hlc⟩ : ∃ L : List Loc, L = [] := ⟨_, rfl⟩
  rw [← hlc] at hS ⊢
  have hP : va_P D vwCl (wMd cI cJ cZ h0 h1 h2 h3 h4 h5 h6 h7 h8 h9 h10 h11 h12 h13 h14 h15 h16 h17 h18 h19 h20 h21 h22 h23 th no ca ba nl xa sa da la ra fa ta ua uh uo ma mh ml nf fo fh fs rs ic mn bh bo ya np pa nc cp) H := by rw [hH]; exact hP
  have hS : va_S A s.heap H locs := by rw [hH]; exact hS
  have hW0 : ∀ {X : Heap → Prop}, X H → X s.heap := fun h => by rw [← hH]; exact h
  refine hW0 (X := fun Z => W p l e _ s m _ below meth c Z locs 0 0 _ _) ?_
  refine lv_aload_n hx hb d_Md_left_0 rfl (lv_at hl 0 rfl) ?_
  refine lv_aload_n hx hb d_Md_left_1 rfl (lv_at hl 0 rfl) ?_
  refine lv_iload_n hx hb d_Md_left_2 rfl (lv_at hl 1 rfl) ?_
  obtain ⟨k1, v⟩ := v
  obtain ⟨k2, v⟩ := v
  refine vp_callSi (nv_runV (wc := (wMd cI cJ cZ h0 h1 h2 h3 h4 h5 h6 h7 h8 h9 h10 h11 h12 h13 h14 h15 h16 h17 h18 h19 h20 h21 h22 h23 th no ca ba nl xa sa da la ra fa ta ua uh uo ma mh ml nf fo fh fs rs ic mn bh bo ya np pa nc cp)) (As := [.int (iI ob)]) (rest := [.ref h0]) ⟨hx, hb, hml, hown, hts⟩ (m_Md_isObject l D cI cJ cO cZ h0 h1 h2 h3 h4 h5 h6 h7 h8 h9 h10 h11 h12 h13 h14 h15 h16 h17 h18 h19 h20 h21 h22 h23 th no ca ba nl xa sa da la ra fa ta ua uh uo ma mh ml nf fo fh fs rs ic mn bh bo ya np pa nc cp ob (fun z => (z = 1 ∧ (0 ≤ ob ∧ ob < no)) ∨ (z = 0 ∧ ¬ (0 ≤ ob ∧ ob < no))) (s_Md_isObject th no ca ba nl xa sa da la ra fa ta ua uh uo ma mh ml nf fo fh fs rs ic mn bh bo ya np pa nc cp ob k1 k2)) (nv_cwV (n := 1) hts wd_840 wd_842 sl_20 wd_10 wd_843 (by decide +kernel) ⟨Nat.le_of_ble_eq_true rfl, Nat.le_of_ble_eq_true rfl⟩) hK (hP.sub [0, 1, 2, 3, 4, 5, 6, 7, 8, 9, 10, 11, 12, 13, 14, 15, 16, 17, 18, 19, 20, 21, 22, 23] rfl) (va_recv hK hP (ci := 8) (q0 := 0) rfl rfl) rfl hl.1 rfl (Nat.le_of_ble_eq_true rfl) d_Md_left_3 (Nat.le_of_ble_eq_true rfl) (Nat.le_of_ble_eq_true rfl)) (fun r hr => ?_)
  rcases hr with ⟨_, rfl, ⟨rfl, c3⟩ | ⟨rfl, c3⟩⟩
  · replace v := v.1 c3
    refine nv_if_eq (tgt := 22) hx hb d_Md_left_6 (by decide) (by decide) (fun c4 => absurd c4 (by decide)) (fun _ => ?_)
    refine lv_iload_n hx hb d_Md_left_9 rfl (lv_at hl 2 rfl) ?_
    refine nv_iconst (n := 0) hx hb d_Md_left_10 ?_
    refine nv_iconst (n := 2) hx hb d_Md_left_11 ?_
    obtain ⟨k5, v⟩ := v
    refine vp_callSi (nv_runS (wc := []) (As := [.int (iI yr), .int (iI 0), .int (iI 2)]) (rest := [.ref h0]) ⟨hx, hb, hml, hown, hts⟩ (m_Md_within l D cI cJ cO cZ yr 0 2 (fun z => (z = 1 ∧ (0 ≤ yr ∧ yr ≤ 2)) ∨ (z = 0 ∧ ¬ (0 ≤ yr ∧ yr ≤ 2))) (s_Md_within yr 0 2 k5 (by decide) (by decide))) (nv_cwS (n := 3) hts wd_809 wd_810 wd_10 wd_811 (by decide +kernel) ⟨Nat.le_of_ble_eq_true rfl, Nat.le_of_ble_eq_true rfl⟩) hK (hP.sub [] rfl) rfl hl.1 rfl (Nat.le_of_ble_eq_true rfl) d_Md_left_12 (Nat.le_of_ble_eq_true rfl) (Nat.le_of_ble_eq_true rfl)) (fun r hr => ?_)
    rcases hr with ⟨_, rfl, ⟨rfl, c6⟩ | ⟨rfl, c6⟩⟩
    · replace v := v.1 c6
      refine nv_if_eq (tgt := 22) hx hb d_Md_left_15 (by decide) (by decide) (fun c7 => absurd c7 (by decide)) (fun _ => ?_)
      refine nv_iconst (n := 1) hx hb d_Md_left_18 ?_
      refine lv_goto (tgt := 23) hx hb d_Md_left_19 (by decide) ?_
      refine nv_iconst (n := 1) hx hb d_Md_left_23 ?_
      refine nv_iconst (n := 1) hx hb d_Md_left_24 ?_
      have hPc := hP.sub (ws' := (wMd cI cJ cZ h0 h1 h2 h3 h4 h5 h6 h7 h8 h9 h10 h11 h12 h13 h14 h15 h16 h17 h18 h19 h20 h21 h22 h23 th no ca ba nl xa sa da la ra fa ta ua uh uo ma mh ml nf fo fh fs rs ic mn bh bo ya np pa nc cp)) [0, 1, 2, 3, 4, 5, 6, 7, 8, 9, 10, 11, 12, 13, 14, 15, 16, 17, 18, 19, 20, 21, 22, 23] rfl
      have hDc := hD.sub (ws' := (wMd cI cJ cZ h0 h1 h2 h3 h4 h5 h6 h7 h8 h9 h10 h11 h12 h13 h14 h15 h16 h17 h18 h19 h20 h21 h22 h23 th no ca ba nl xa sa da la ra fa ta ua uh uo ma mh ml nf fo fh fs rs ic mn bh bo ya np pa nc cp)) [0, 1, 2, 3, 4, 5, 6, 7, 8, 9, 10, 11, 12, 13, 14, 15, 16, 17, 18, 19, 20, 21, 22, 23] (by decide) rfl
      have hFc := va_free (wc := (wMd cI cJ cZ h0 h1 h2 h3 h4 h5 h6 h7 h8 h9 h10 h11 h12 h13 h14 h15 h16 h17 h18 h19 h20 h21 h22 h23 th no ca ba nl xa sa da la ra fa ta ua uh uo ma mh ml nf fo fh fs rs ic mn bh bo ya np pa nc cp)) hD hS hA [0, 1, 2, 3, 4, 5, 6, 7, 8, 9, 10, 11, 12, 13, 14, 15, 16, 17, 18, 19, 20, 21, 22, 23] rfl
      refine va_calli (va_runV (As := [.int (iI 1), .int (iI 1), .int (iI 1)]) (rest := []) ⟨hx, hb, hml, hown, hts⟩ (m_Md_goes l D cI cJ cO cZ h0 h1 h2 h3 h4 h5 h6 h7 h8 h9 h10 h11 h12 h13 h14 h15 h16 h17 h18 h19 h20 h21 h22 h23 H.size th no ca ba nl xa sa da la ra fa ta ua uh uo ma mh ml nf fo fh fs rs ic mn bh bo ya np pa nc cp 1 1 1 (fun z t => z = 1 ∧ t = 0) (s_Md_goes_111 th no ca ba nl xa sa da la ra fa ta ua uh uo ma mh ml nf fo fh fs rs ic mn bh bo ya np pa nc cp)) (nv_cwV (n := 3) hts wd_812 wd_814 sl_17 wd_10 wd_815 (by decide +kernel) ⟨Nat.le_of_ble_eq_true rfl, Nat.le_of_ble_eq_true rfl⟩) ⟨blW, va_recv hK hPc (ci := 8) (q0 := 0) rfl rfl, fun U hU hW => ⟨rfl, by rw [hU], by rw [hU]; exact hPc, va_K.moved hW.alike hK, hDc.weaken (fun _ _ _ _ => trivial)⟩⟩ rfl rfl hl.1 rfl (lv_room (Nat.le_of_ble_eq_true rfl)) d_Md_left_25 ⟨Nat.le_of_ble_eq_true rfl, Nat.le_of_ble_eq_true rfl⟩) hS (fun q _ h => hFc q h) hFc (fun r u t H1 locs ht hvm hw hB hz1 hk1 hS => ?_)
      obtain ⟨hP1, hK1, hD1⟩ := hB
      rw [ht] at hP1
      obtain ⟨_, rfl, rfl, rfl⟩ := hw
      obtain ⟨hP, hD⟩ := va_join (wr := []) (w1 := (wMd cI cJ cZ h0 h1 h2 h3 h4 h5 h6 h7 h8 h9 h10 h11 h12 h13 h14 h15 h16 h17 h18 h19 h20 h21 h22 h23 0 no ca ba nl xa sa da la ra fa ta ua uh uo ma mh ml nf fo fh fs rs ic mn bh bo ya np pa nc cp)) hP hD [0, 1, 2, 3, 4, 5, 6, 7, 8, 9, 10, 11, 12, 13, 14, 15, 16, 17, 18, 19, 20, 21, 22, 23] [] rfl rfl (by decide) (by decide) hk1 hFc hP1 hD1
      generalize H1 = H at hP hS ⊢
      have hP : va_P D vwCl (wMd cI cJ cZ h0 h1 h2 h3 h4 h5 h6 h7 h8 h9 h10 h11 h12 h13 h14 h15 h16 h17 h18 h19 h20 h21 h22 h23 0 no ca ba nl xa sa da la ra fa ta ua uh uo ma mh ml nf fo fh fs rs ic mn bh bo ya np pa nc cp) H := hP
      have hD : va_D A (wMd cI cJ cZ h0 h1 h2 h3 h4 h5 h6 h7 h8 h9 h10 h11 h12 h13 h14 h15 h16 h17 h18 h19 h20 h21 h22 h23 0 no ca ba nl xa sa da la ra fa ta ua uh uo ma mh ml nf fo fh fs rs ic mn bh bo ya np pa nc cp) := hD
      refine W.widen (k := 0) (n := 0) (Nat.le_of_ble_eq_true rfl) (Nat.le_of_ble_eq_true rfl) ?_
      refine nv_if_ne (tgt := 33) hx hb d_Md_left_28 (by decide) (by decide) (fun _ => ?_) (fun c8 => absurd c8 (by decide))
      refine lv_aload_n hx hb d_Md_left_33 rfl (lv_at hl 0 rfl) ?_
      refine va_get (D := D) (ci := 8) (v := .ref h2) (C := "LightDosesModel") (T := T_Md) (N := 32) hx hb hts in_Md hown hK hP 0 rfl rfl 3 (by decide) (hts _ wd_706) (fun _ h9 => h9) rfl d_Md_left_34 ?_
      refine lv_aload_n hx hb d_Md_left_37 rfl (lv_at hl 0 rfl) ?_
      refine va_get (D := D) (ci := 8) (v := .ref h1) (C := "LightDosesModel") (T := T_Md) (N := 32) hx hb hts in_Md hown hK hP 0 rfl rfl 2 (by decide) (hts _ wd_705) (fun _ h9 => h9) rfl d_Md_left_38 ?_
      refine lv_iload_n hx hb d_Md_left_41 rfl (lv_at hl 1 rfl) ?_
      obtain ⟨k9, v⟩ := v
      refine nv_iald (f := ca) hx hb hK 0 (hP 1 _ rfl) rfl (ob).toNat (Int.toNat_of_nonneg k9.1).symm (by omega) (by decide) d_Md_left_42 ?_
      obtain ⟨k10, v⟩ := v
      refine nv_iald (f := ba) hx hb hK 0 (hP 2 _ rfl) rfl (ca (ob).toNat).toNat (Int.toNat_of_nonneg k10.1).symm (by omega) (by decide) d_Md_left_43 ?_
      refine nv_iconst (n := (-1)) hx hb d_Md_left_44 ?_
      obtain ⟨k11, v⟩ := v
      refine nv_icmp_ne (tgt := 51) hx hb d_Md_left_45 (by decide) k11 (by decide) (fun c12 => ?_) (fun c12 => ?_)
      · replace v := v.1 c12
        refine lv_aload_n hx hb d_Md_left_51 rfl (lv_at hl 0 rfl) ?_
        refine lv_iload_n hx hb d_Md_left_52 rfl (lv_at hl 1 rfl) ?_
        obtain ⟨P13, q15, v⟩ := v
        refine vp_callSl (nv_runV (wc := (wMd cI cJ cZ h0 h1 h2 h3 h4 h5 h6 h7 h8 h9 h10 h11 h12 h13 h14 h15 h16 h17 h18 h19 h20 h21 h22 h23 0 no ca ba nl xa sa da la ra fa ta ua uh uo ma mh ml nf fo fh fs rs ic mn bh bo ya np pa nc cp)) (As := [.int (iI ob)]) (rest := []) ⟨hx, hb, hml, hown, hts⟩ (m_Md_bound l D cI cJ cO cZ h0 h1 h2 h3 h4 h5 h6 h7 h8 h9 h10 h11 h12 h13 h14 h15 h16 h17 h18 h19 h20 h21 h22 h23 0 no ca ba nl xa sa da la ra fa ta ua uh uo ma mh ml nf fo fh fs rs ic mn bh bo ya np pa nc cp ob P13 q15) (nv_cwV (n := 1) hts wd_899 wd_901 sl_25 wd_10 wd_902 (by decide +kernel) ⟨Nat.le_of_ble_eq_true rfl, Nat.le_of_ble_eq_true rfl⟩) hK (hP.sub [0, 1, 2, 3, 4, 5, 6, 7, 8, 9, 10, 11, 12, 13, 14, 15, 16, 17, 18, 19, 20, 21, 22, 23] rfl) (va_recv hK hP (ci := 8) (q0 := 0) rfl rfl) rfl hl.1 rfl (Nat.le_of_ble_eq_true rfl) d_Md_left_53 (Nat.le_of_ble_eq_true rfl) (Nat.le_of_ble_eq_true rfl)) (fun r hr => ?_)
        obtain ⟨z14, rfl, hz⟩ := hr
        replace v := v z14 hz
        refine lv_aload_n hx hb d_Md_left_56 rfl (lv_at hl 0 rfl) ?_
        refine lv_iload_n hx hb d_Md_left_57 rfl (lv_at hl 1 rfl) ?_
        refine nv_sipush (z := 8760) hx hb d_Md_left_58 (by decide) ?_
        refine lv_iload_n hx hb d_Md_left_61 rfl (lv_at hl 2 rfl) ?_
        refine nv_imul (z := 8760 * yr) hx hb d_Md_left_62 (by first | rfl | omega) ?_
        refine nv_sipush (z := 8760) hx hb d_Md_left_63 (by decide) ?_
        refine lv_iload_n hx hb d_Md_left_66 rfl (lv_at hl 2 rfl) ?_
        refine nv_imul (z := 8760 * yr) hx hb d_Md_left_67 (by first | rfl | omega) ?_
        refine nv_sipush (z := 8760) hx hb d_Md_left_68 (by decide) ?_
        refine nv_iadd (z := 8760 * yr + 8760) hx hb d_Md_left_71 (by first | rfl | omega) ?_
        obtain ⟨P16, q18, v⟩ := v
        refine vp_callSl (nv_runV (wc := (wMd cI cJ cZ h0 h1 h2 h3 h4 h5 h6 h7 h8 h9 h10 h11 h12 h13 h14 h15 h16 h17 h18 h19 h20 h21 h22 h23 0 no ca ba nl xa sa da la ra fa ta ua uh uo ma mh ml nf fo fh fs rs ic mn bh bo ya np pa nc cp)) (As := [.int (iI ob), .int (iI (8760 * yr)), .int (iI (8760 * yr + 8760))]) (rest := [.long (lI z14)]) ⟨hx, hb, hml, hown, hts⟩ (m_Md_parts l D cI cJ cO cZ h0 h1 h2 h3 h4 h5 h6 h7 h8 h9 h10 h11 h12 h13 h14 h15 h16 h17 h18 h19 h20 h21 h22 h23 0 no ca ba nl xa sa da la ra fa ta ua uh uo ma mh ml nf fo fh fs rs ic mn bh bo ya np pa nc cp ob (8760 * yr) (8760 * yr + 8760) P16 q18) (nv_cwV (n := 3) hts wd_871 wd_873 sl_21 wd_10 wd_874 (by decide +kernel) ⟨Nat.le_of_ble_eq_true rfl, Nat.le_of_ble_eq_true rfl⟩) hK (hP.sub [0, 1, 2, 3, 4, 5, 6, 7, 8, 9, 10, 11, 12, 13, 14, 15, 16, 17, 18, 19, 20, 21, 22, 23] rfl) (va_recv hK hP (ci := 8) (q0 := 0) rfl rfl) rfl hl.1 rfl (Nat.le_of_ble_eq_true rfl) d_Md_left_72 (Nat.le_of_ble_eq_true rfl) (Nat.le_of_ble_eq_true rfl)) (fun r hr => ?_)
        obtain ⟨z17, rfl, hz⟩ := hr
        replace v := v z17 hz
        refine nv_lsub (z := z14 - z17) hx hb d_Md_left_75 (by first | rfl | omega) ?_
        refine lv_lstore_n (lv' := [(3, .long (lI (z14 - z17))), (0, .ref h0), (1, .int (iI ob)), (2, .int (iI yr))]) hx hb d_Md_left_76 rfl hl (by decide) rfl (fun ls hl => ?_)
        refine lv_lload_n hx hb d_Md_left_77 rfl (lv_at hl 0 rfl) ?_
        refine nv_ldc2 (z := 3600000) hx hb hown (hts _ wd_888) (by decide) d_Md_left_78 ?_
        obtain ⟨k19, v⟩ := v
        refine nv_ldivT (z := Int.tdiv (z14 - z17) 3600000) hx hb d_Md_left_81 k19 (by decide) (by decide) rfl ?_
        refine lv_lstore (lv' := [(5, .long (lI (Int.tdiv (z14 - z17) 3600000))), (3, .long (lI (z14 - z17))), (0, .ref h0), (1, .int (iI ob)), (2, .int (iI yr))]) hx hb d_Md_left_82 hl (by decide) rfl (fun ls hl => ?_)
        refine lv_lload hx hb d_Md_left_84 (lv_at hl 0 rfl) ?_
        refine nv_ldc2 (z := 3600000) hx hb hown (hts _ wd_888) (by decide) d_Md_left_86 ?_
        refine nv_lmul (z := (Int.tdiv (z14 - z17) 3600000) * 3600000) hx hb d_Md_left_89 (by first | rfl | omega) ?_
        refine lv_lload_n hx hb d_Md_left_90 rfl (lv_at hl 1 rfl) ?_
        obtain ⟨k20, v⟩ := v
        refine nv_lcmp_le (tgt := 102) hx hb d_Md_left_91 d_Md_left_92 (by decide) k20 k19 (fun c21 => ?_) (fun c21 => ?_)
        · replace v := v.1 c21
          refine lv_lload hx hb d_Md_left_102 (lv_at hl 0 rfl) ?_
          refine nv_l2i hx hb d_Md_left_104 ?_
          have hP9 := hP.sub (ws' := (wMd cI cJ cZ h0 h1 h2 h3 h4 h5 h6 h7 h8 h9 h10 h11 h12 h13 h14 h15 h16 h17 h18 h19 h20 h21 h22 h23 0 no ca ba nl xa sa da la ra fa ta ua uh uo ma mh ml nf fo fh fs rs ic mn bh bo ya np pa nc cp)) [0, 1, 2, 3, 4, 5, 6, 7, 8, 9, 10, 11, 12, 13, 14, 15, 16, 17, 18, 19, 20, 21, 22, 23] rfl
          have hD9 := hD.sub (ws' := (wMd cI cJ cZ h0 h1 h2 h3 h4 h5 h6 h7 h8 h9 h10 h11 h12 h13 h14 h15 h16 h17 h18 h19 h20 h21 h22 h23 0 no ca ba nl xa sa da la ra fa ta ua uh uo ma mh ml nf fo fh fs rs ic mn bh bo ya np pa nc cp)) [0, 1, 2, 3, 4, 5, 6, 7, 8, 9, 10, 11, 12, 13, 14, 15, 16, 17, 18, 19, 20, 21, 22, 23] (by decide) rfl
          exact W.iret hx hb hr (fun t ht hW => ⟨⟨_, ((0)), rfl, ⟨_, rfl, v⟩, by rw [ht]; exact hP9, va_K.moved hW.alike hK, hD9⟩, hS.F ht⟩) hS.2.2 d_Md_left_105
        · replace v := v.2 c21
          refine lv_lload hx hb d_Md_left_95 (lv_at hl 0 rfl) ?_
          refine lv_lconst (v := lI 1) hx hb d_Md_left_97 (by decide) ?_
          refine nv_lsub (z := Int.tdiv (z14 - z17) 3600000 - 1) hx hb d_Md_left_98 (by first | rfl | omega) ?_
          refine lv_goto (tgt := 104) hx hb d_Md_left_99 (by decide) ?_
          refine nv_l2i hx hb d_Md_left_104 ?_
          have hP9 := hP.sub (ws' := (wMd cI cJ cZ h0 h1 h2 h3 h4 h5 h6 h7 h8 h9 h10 h11 h12 h13 h14 h15 h16 h17 h18 h19 h20 h21 h22 h23 0 no ca ba nl xa sa da la ra fa ta ua uh uo ma mh ml nf fo fh fs rs ic mn bh bo ya np pa nc cp)) [0, 1, 2, 3, 4, 5, 6, 7, 8, 9, 10, 11, 12, 13, 14, 15, 16, 17, 18, 19, 20, 21, 22, 23] rfl
          have hD9 := hD.sub (ws' := (wMd cI cJ cZ h0 h1 h2 h3 h4 h5 h6 h7 h8 h9 h10 h11 h12 h13 h14 h15 h16 h17 h18 h19 h20 h21 h22 h23 0 no ca ba nl xa sa da la ra fa ta ua uh uo ma mh ml nf fo fh fs rs ic mn bh bo ya np pa nc cp)) [0, 1, 2, 3, 4, 5, 6, 7, 8, 9, 10, 11, 12, 13, 14, 15, 16, 17, 18, 19, 20, 21, 22, 23] (by decide) rfl
          exact W.iret hx hb hr (fun t ht hW => ⟨⟨_, ((0)), rfl, ⟨_, rfl, v⟩, by rw [ht]; exact hP9, va_K.moved hW.alike hK, hD9⟩, hS.F ht⟩) hS.2.2 d_Md_left_105
      · replace v := v.2 c12
        refine nv_ldc (z := (-2147483648)) hx hb hown (hts _ wd_898) (by decide) d_Md_left_48 ?_
        have hP9 := hP.sub (ws' := (wMd cI cJ cZ h0 h1 h2 h3 h4 h5 h6 h7 h8 h9 h10 h11 h12 h13 h14 h15 h16 h17 h18 h19 h20 h21 h22 h23 0 no ca ba nl xa sa da la ra fa ta ua uh uo ma mh ml nf fo fh fs rs ic mn bh bo ya np pa nc cp)) [0, 1, 2, 3, 4, 5, 6, 7, 8, 9, 10, 11, 12, 13, 14, 15, 16, 17, 18, 19, 20, 21, 22, 23] rfl
        have hD9 := hD.sub (ws' := (wMd cI cJ cZ h0 h1 h2 h3 h4 h5 h6 h7 h8 h9 h10 h11 h12 h13 h14 h15 h16 h17 h18 h19 h20 h21 h22 h23 0 no ca ba nl xa sa da la ra fa ta ua uh uo ma mh ml nf fo fh fs rs ic mn bh bo ya np pa nc cp)) [0, 1, 2, 3, 4, 5, 6, 7, 8, 9, 10, 11, 12, 13, 14, 15, 16, 17, 18, 19, 20, 21, 22, 23] (by decide) rfl
        exact W.iret hx hb hr (fun t ht hW => ⟨⟨_, ((0)), rfl, ⟨_, rfl, v⟩, by rw [ht]; exact hP9, va_K.moved hW.alike hK, hD9⟩, hS.F ht⟩) hS.2.2 d_Md_left_50
    · replace v := v.2 c6
      refine nv_if_eq (tgt := 22) hx hb d_Md_left_15 (by decide) (by decide) (fun _ => ?_) (fun c22 => absurd c22 (by decide))
      refine nv_iconst (n := 0) hx hb d_Md_left_22 ?_
      refine nv_iconst (n := 1) hx hb d_Md_left_23 ?_
      refine nv_iconst (n := 1) hx hb d_Md_left_24 ?_
      have hPc := hP.sub (ws' := (wMd cI cJ cZ h0 h1 h2 h3 h4 h5 h6 h7 h8 h9 h10 h11 h12 h13 h14 h15 h16 h17 h18 h19 h20 h21 h22 h23 th no ca ba nl xa sa da la ra fa ta ua uh uo ma mh ml nf fo fh fs rs ic mn bh bo ya np pa nc cp)) [0, 1, 2, 3, 4, 5, 6, 7, 8, 9, 10, 11, 12, 13, 14, 15, 16, 17, 18, 19, 20, 21, 22, 23] rfl
      have hDc := hD.sub (ws' := (wMd cI cJ cZ h0 h1 h2 h3 h4 h5 h6 h7 h8 h9 h10 h11 h12 h13 h14 h15 h16 h17 h18 h19 h20 h21 h22 h23 th no ca ba nl xa sa da la ra fa ta ua uh uo ma mh ml nf fo fh fs rs ic mn bh bo ya np pa nc cp)) [0, 1, 2, 3, 4, 5, 6, 7, 8, 9, 10, 11, 12, 13, 14, 15, 16, 17, 18, 19, 20, 21, 22, 23] (by decide) rfl
      have hFc := va_free (wc := (wMd cI cJ cZ h0 h1 h2 h3 h4 h5 h6 h7 h8 h9 h10 h11 h12 h13 h14 h15 h16 h17 h18 h19 h20 h21 h22 h23 th no ca ba nl xa sa da la ra fa ta ua uh uo ma mh ml nf fo fh fs rs ic mn bh bo ya np pa nc cp)) hD hS hA [0, 1, 2, 3, 4, 5, 6, 7, 8, 9, 10, 11, 12, 13, 14, 15, 16, 17, 18, 19, 20, 21, 22, 23] rfl
      refine va_calli (va_runV (As := [.int (iI 0), .int (iI 1), .int (iI 1)]) (rest := []) ⟨hx, hb, hml, hown, hts⟩ (m_Md_goes l D cI cJ cO cZ h0 h1 h2 h3 h4 h5 h6 h7 h8 h9 h10 h11 h12 h13 h14 h15 h16 h17 h18 h19 h20 h21 h22 h23 H.size th no ca ba nl xa sa da la ra fa ta ua uh uo ma mh ml nf fo fh fs rs ic mn bh bo ya np pa nc cp 0 1 1 (fun z t => z = 0 ∧ t = 1) (s_Md_goes_011 th no ca ba nl xa sa da la ra fa ta ua uh uo ma mh ml nf fo fh fs rs ic mn bh bo ya np pa nc cp)) (nv_cwV (n := 3) hts wd_812 wd_814 sl_17 wd_10 wd_815 (by decide +kernel) ⟨Nat.le_of_ble_eq_true rfl, Nat.le_of_ble_eq_true rfl⟩) ⟨blW, va_recv hK hPc (ci := 8) (q0 := 0) rfl rfl, fun U hU hW => ⟨rfl, by rw [hU], by rw [hU]; exact hPc, va_K.moved hW.alike hK, hDc.weaken (fun _ _ _ _ => trivial)⟩⟩ rfl rfl hl.1 rfl (lv_room (Nat.le_of_ble_eq_true rfl)) d_Md_left_25 ⟨Nat.le_of_ble_eq_true rfl, Nat.le_of_ble_eq_true rfl⟩) hS (fun q _ h => hFc q h) hFc (fun r u t H1 locs ht hvm hw hB hz1 hk1 hS => ?_)
      obtain ⟨hP1, hK1, hD1⟩ := hB
      rw [ht] at hP1
      obtain ⟨_, rfl, rfl, rfl⟩ := hw
      obtain ⟨hP, hD⟩ := va_join (wr := []) (w1 := (wMd cI cJ cZ h0 h1 h2 h3 h4 h5 h6 h7 h8 h9 h10 h11 h12 h13 h14 h15 h16 h17 h18 h19 h20 h21 h22 h23 1 no ca ba nl xa sa da la ra fa ta ua uh uo ma mh ml nf fo fh fs rs ic mn bh bo ya np pa nc cp)) hP hD [0, 1, 2, 3, 4, 5, 6, 7, 8, 9, 10, 11, 12, 13, 14, 15, 16, 17, 18, 19, 20, 21, 22, 23] [] rfl rfl (by decide) (by decide) hk1 hFc hP1 hD1
      generalize H1 = H at hP hS ⊢
      have hP : va_P D vwCl (wMd cI cJ cZ h0 h1 h2 h3 h4 h5 h6 h7 h8 h9 h10 h11 h12 h13 h14 h15 h16 h17 h18 h19 h20 h21 h22 h23 1 no ca ba nl xa sa da la ra fa ta ua uh uo ma mh ml nf fo fh fs rs ic mn bh bo ya np pa nc cp) H := hP
      have hD : va_D A (wMd cI cJ cZ h0 h1 h2 h3 h4 h5 h6 h7 h8 h9 h10 h11 h12 h13 h14 h15 h16 h17 h18 h19 h20 h21 h22 h23 1 no ca ba nl xa sa da la ra fa ta ua uh uo ma mh ml nf fo fh fs rs ic mn bh bo ya np pa nc cp) := hD
      refine W.widen (k := 0) (n := 0) (Nat.le_of_ble_eq_true rfl) (Nat.le_of_ble_eq_true rfl) ?_
      refine nv_if_ne (tgt := 33) hx hb d_Md_left_28 (by decide) (by decide) (fun c23 => absurd c23 (by decide)) (fun _ => ?_)
      refine nv_iconst (n := 0) hx hb d_Md_left_31 ?_
      have hP9 := hP.sub (ws' := (wMd cI cJ cZ h0 h1 h2 h3 h4 h5 h6 h7 h8 h9 h10 h11 h12 h13 h14 h15 h16 h17 h18 h19 h20 h21 h22 h23 1 no ca ba nl xa sa da la ra fa ta ua uh uo ma mh ml nf fo fh fs rs ic mn bh bo ya np pa nc cp)) [0, 1, 2, 3, 4, 5, 6, 7, 8, 9, 10, 11, 12, 13, 14, 15, 16, 17, 18, 19, 20, 21, 22, 23] rfl
      have hD9 := hD.sub (ws' := (wMd cI cJ cZ h0 h1 h2 h3 h4 h5 h6 h7 h8 h9 h10 h11 h12 h13 h14 h15 h16 h17 h18 h19 h20 h21 h22 h23 1 no ca ba nl xa sa da la ra fa ta ua uh uo ma mh ml nf fo fh fs rs ic mn bh bo ya np pa nc cp)) [0, 1, 2, 3, 4, 5, 6, 7, 8, 9, 10, 11, 12, 13, 14, 15, 16, 17, 18, 19, 20, 21, 22, 23] (by decide) rfl
      exact W.iret hx hb hr (fun t ht hW => ⟨⟨_, ((1)), rfl, ⟨_, rfl, v⟩, by rw [ht]; exact hP9, va_K.moved hW.alike hK, hD9⟩, hS.F ht⟩) hS.2.2 d_Md_left_32
  · replace v := v.2 c3
    refine nv_if_eq (tgt := 22) hx hb d_Md_left_6 (by decide) (by decide) (fun _ => ?_) (fun c24 => absurd c24 (by decide))
    refine nv_iconst (n := 0) hx hb d_Md_left_22 ?_
    refine nv_iconst (n := 1) hx hb d_Md_left_23 ?_
    refine nv_iconst (n := 1) hx hb d_Md_left_24 ?_
    have hPc := hP.sub (ws' := (wMd cI cJ cZ h0 h1 h2 h3 h4 h5 h6 h7 h8 h9 h10 h11 h12 h13 h14 h15 h16 h17 h18 h19 h20 h21 h22 h23 th no ca ba nl xa sa da la ra fa ta ua uh uo ma mh ml nf fo fh fs rs ic mn bh bo ya np pa nc cp)) [0, 1, 2, 3, 4, 5, 6, 7, 8, 9, 10, 11, 12, 13, 14, 15, 16, 17, 18, 19, 20, 21, 22, 23] rfl
    have hDc := hD.sub (ws' := (wMd cI cJ cZ h0 h1 h2 h3 h4 h5 h6 h7 h8 h9 h10 h11 h12 h13 h14 h15 h16 h17 h18 h19 h20 h21 h22 h23 th no ca ba nl xa sa da la ra fa ta ua uh uo ma mh ml nf fo fh fs rs ic mn bh bo ya np pa nc cp)) [0, 1, 2, 3, 4, 5, 6, 7, 8, 9, 10, 11, 12, 13, 14, 15, 16, 17, 18, 19, 20, 21, 22, 23] (by decide) rfl
    have hFc := va_free (wc := (wMd cI cJ cZ h0 h1 h2 h3 h4 h5 h6 h7 h8 h9 h10 h11 h12 h13 h14 h15 h16 h17 h18 h19 h20 h21 h22 h23 th no ca ba nl xa sa da la ra fa ta ua uh uo ma mh ml nf fo fh fs rs ic mn bh bo ya np pa nc cp)) hD hS hA [0, 1, 2, 3, 4, 5, 6, 7, 8, 9, 10, 11, 12, 13, 14, 15, 16, 17, 18, 19, 20, 21, 22, 23] rfl
    refine va_calli (va_runV (As := [.int (iI 0), .int (iI 1), .int (iI 1)]) (rest := []) ⟨hx, hb, hml, hown, hts⟩ (m_Md_goes l D cI cJ cO cZ h0 h1 h2 h3 h4 h5 h6 h7 h8 h9 h10 h11 h12 h13 h14 h15 h16 h17 h18 h19 h20 h21 h22 h23 H.size th no ca ba nl xa sa da la ra fa ta ua uh uo ma mh ml nf fo fh fs rs ic mn bh bo ya np pa nc cp 0 1 1 (fun z t => z = 0 ∧ t = 1) (s_Md_goes_011 th no ca ba nl xa sa da la ra fa ta ua uh uo ma mh ml nf fo fh fs rs ic mn bh bo ya np pa nc cp)) (nv_cwV (n := 3) hts wd_812 wd_814 sl_17 wd_10 wd_815 (by decide +kernel) ⟨Nat.le_of_ble_eq_true rfl, Nat.le_of_ble_eq_true rfl⟩) ⟨blW, va_recv hK hPc (ci := 8) (q0 := 0) rfl rfl, fun U hU hW => ⟨rfl, by rw [hU], by rw [hU]; exact hPc, va_K.moved hW.alike hK, hDc.weaken (fun _ _ _ _ => trivial)⟩⟩ rfl rfl hl.1 rfl (lv_room (Nat.le_of_ble_eq_true rfl)) d_Md_left_25 ⟨Nat.le_of_ble_eq_true rfl, Nat.le_of_ble_eq_true rfl⟩) hS (fun q _ h => hFc q h) hFc (fun r u t H1 locs ht hvm hw hB hz1 hk1 hS => ?_)
    obtain ⟨hP1, hK1, hD1⟩ := hB
    rw [ht] at hP1
    obtain ⟨_, rfl, rfl, rfl⟩ := hw
    obtain ⟨hP, hD⟩ := va_join (wr := []) (w1 := (wMd cI cJ cZ h0 h1 h2 h3 h4 h5 h6 h7 h8 h9 h10 h11 h12 h13 h14 h15 h16 h17 h18 h19 h20 h21 h22 h23 1 no ca ba nl xa sa da la ra fa ta ua uh uo ma mh ml nf fo fh fs rs ic mn bh bo ya np pa nc cp)) hP hD [0, 1, 2, 3, 4, 5, 6, 7, 8, 9, 10, 11, 12, 13, 14, 15, 16, 17, 18, 19, 20, 21, 22, 23] [] rfl rfl (by decide) (by decide) hk1 hFc hP1 hD1
    generalize H1 = H at hP hS ⊢
    have hP : va_P D vwCl (wMd cI cJ cZ h0 h1 h2 h3 h4 h5 h6 h7 h8 h9 h10 h11 h12 h13 h14 h15 h16 h17 h18 h19 h20 h21 h22 h23 1 no ca ba nl xa sa da la ra fa ta ua uh uo ma mh ml nf fo fh fs rs ic mn bh bo ya np pa nc cp) H := hP
    have hD : va_D A (wMd cI cJ cZ h0 h1 h2 h3 h4 h5 h6 h7 h8 h9 h10 h11 h12 h13 h14 h15 h16 h17 h18 h19 h20 h21 h22 h23 1 no ca ba nl xa sa da la ra fa ta ua uh uo ma mh ml nf fo fh fs rs ic mn bh bo ya np pa nc cp) := hD
    refine W.widen (k := 0) (n := 0) (Nat.le_of_ble_eq_true rfl) (Nat.le_of_ble_eq_true rfl) ?_
    refine nv_if_ne (tgt := 33) hx hb d_Md_left_28 (by decide) (by decide) (fun c25 => absurd c25 (by decide)) (fun _ => ?_)
    refine nv_iconst (n := 0) hx hb d_Md_left_31 ?_
    have hP9 := hP.sub (ws' := (wMd cI cJ cZ h0 h1 h2 h3 h4 h5 h6 h7 h8 h9 h10 h11 h12 h13 h14 h15 h16 h17 h18 h19 h20 h21 h22 h23 1 no ca ba nl xa sa da la ra fa ta ua uh uo ma mh ml nf fo fh fs rs ic mn bh bo ya np pa nc cp)) [0, 1, 2, 3, 4, 5, 6, 7, 8, 9, 10, 11, 12, 13, 14, 15, 16, 17, 18, 19, 20, 21, 22, 23] rfl
    have hD9 := hD.sub (ws' := (wMd cI cJ cZ h0 h1 h2 h3 h4 h5 h6 h7 h8 h9 h10 h11 h12 h13 h14 h15 h16 h17 h18 h19 h20 h21 h22 h23 1 no ca ba nl xa sa da la ra fa ta ua uh uo ma mh ml nf fo fh fs rs ic mn bh bo ya np pa nc cp)) [0, 1, 2, 3, 4, 5, 6, 7, 8, 9, 10, 11, 12, 13, 14, 15, 16, 17, 18, 19, 20, 21, 22, 23] (by decide) rfl
    exact W.iret hx hb hr (fun t ht hW => ⟨⟨_, ((1)), rfl, ⟨_, rfl, v⟩, by rw [ht]; exact hP9, va_K.moved hW.alike hK, hD9⟩, hS.F ht⟩) hS.2.2 d_Md_left_32

theorem d_Md_plan_0 : decode prog_10_method_27_code 0 = .ok (.aload_n 0, 1) := by decide +kernel
theorem d_Md_plan_1 : decode prog_10_method_27_code 1 = .ok (.aload_n 0, 1) := by decide +kernel
theorem d_Md_plan_2 : decode prog_10_method_27_code 2 = .ok (.iload_n 1, 1) := by decide +kernel
theorem d_Md_plan_3 : decode prog_10_method_27_code 3 = .ok (.invokevirtual 116, 3) := by decide +kernel
theorem d_Md_plan_6 : decode prog_10_method_27_code 6 = .ok (.ifCond .eq 14, 3) := by decide +kernel
theorem d_Md_plan_9 : decode prog_10_method_27_code 9 = .ok (.iload_n 2, 1) := by decide +kernel
theorem d_Md_plan_10 : decode prog_10_method_27_code 10 = .ok (.invokestatic 119, 3) := by decide +kernel
theorem d_Md_plan_13 : decode prog_10_method_27_code 13 = .ok (.ifCond .eq 7, 3) := by decide +kernel
theorem d_Md_plan_16 : decode prog_10_method_27_code 16 = .ok (.iconst 1, 1) := by decide +kernel
theorem d_Md_plan_17 : decode prog_10_method_27_code 17 = .ok (.goto 4, 3) := by decide +kernel
theorem d_Md_plan_20 : decode prog_10_method_27_code 20 = .ok (.iconst 0, 1) := by decide +kernel
theorem d_Md_plan_21 : decode prog_10_method_27_code 21 = .ok (.iload_n 3, 1) := by decide +kernel
theorem d_Md_plan_22 : decode prog_10_method_27_code 22 = .ok (.iload_n 2, 1) := by decide +kernel
theorem d_Md_plan_23 : decode prog_10_method_27_code 23 = .ok (.if_icmp .le 14, 3) := by decide +kernel
theorem d_Md_plan_26 : decode prog_10_method_27_code 26 = .ok (.iload_n 3, 1) := by decide +kernel
theorem d_Md_plan_27 : decode prog_10_method_27_code 27 = .ok (.sipush 26280, 3) := by decide +kernel
theorem d_Md_plan_30 : decode prog_10_method_27_code 30 = .ok (.if_icmp .gt 7, 3) := by decide +kernel
theorem d_Md_plan_33 : decode prog_10_method_27_code 33 = .ok (.iconst 1, 1) := by decide +kernel
theorem d_Md_plan_34 : decode prog_10_method_27_code 34 = .ok (.goto 4, 3) := by decide +kernel
theorem d_Md_plan_37 : decode prog_10_method_27_code 37 = .ok (.iconst 0, 1) := by decide +kernel
theorem d_Md_plan_38 : decode prog_10_method_27_code 38 = .ok (.iconst 1, 1) := by decide +kernel
theorem d_Md_plan_39 : decode prog_10_method_27_code 39 = .ok (.invokevirtual 96, 3) := by decide +kernel
theorem d_Md_plan_42 : decode prog_10_method_27_code 42 = .ok (.ifCond .ne 5, 3) := by decide +kernel
theorem d_Md_plan_45 : decode prog_10_method_27_code 45 = .ok (.iconst 0, 1) := by decide +kernel
theorem d_Md_plan_46 : decode prog_10_method_27_code 46 = .ok (.ireturn, 1) := by decide +kernel
theorem d_Md_plan_47 : decode prog_10_method_27_code 47 = .ok (.aload_n 0, 1) := by decide +kernel
theorem d_Md_plan_48 : decode prog_10_method_27_code 48 = .ok (.getfield 13, 3) := by decide +kernel
theorem d_Md_plan_51 : decode prog_10_method_27_code 51 = .ok (.aload_n 0, 1) := by decide +kernel
theorem d_Md_plan_52 : decode prog_10_method_27_code 52 = .ok (.getfield 7, 3) := by decide +kernel
theorem d_Md_plan_55 : decode prog_10_method_27_code 55 = .ok (.iload_n 1, 1) := by decide +kernel
theorem d_Md_plan_56 : decode prog_10_method_27_code 56 = .ok (.iaload, 1) := by decide +kernel
theorem d_Md_plan_57 : decode prog_10_method_27_code 57 = .ok (.iaload, 1) := by decide +kernel
theorem d_Md_plan_58 : decode prog_10_method_27_code 58 = .ok (.iconst (-1), 1) := by decide +kernel
theorem d_Md_plan_59 : decode prog_10_method_27_code 59 = .ok (.if_icmp .ne 7, 3) := by decide +kernel
theorem d_Md_plan_62 : decode prog_10_method_27_code 62 = .ok (.iload_n 3, 1) := by decide +kernel
theorem d_Md_plan_63 : decode prog_10_method_27_code 63 = .ok (.iload_n 2, 1) := by decide +kernel
theorem d_Md_plan_64 : decode prog_10_method_27_code 64 = .ok (.isub, 1) := by decide +kernel
theorem d_Md_plan_65 : decode prog_10_method_27_code 65 = .ok (.ireturn, 1) := by decide +kernel
theorem d_Md_plan_66 : decode prog_10_method_27_code 66 = .ok (.iconst 0, 1) := by decide +kernel
theorem d_Md_plan_67 : decode prog_10_method_27_code 67 = .ok (.istore 4, 2) := by decide +kernel
theorem d_Md_plan_69 : decode prog_10_method_27_code 69 = .ok (.iload 4, 2) := by decide +kernel
theorem d_Md_plan_71 : decode prog_10_method_27_code 71 = .ok (.iconst 3, 1) := by decide +kernel
theorem d_Md_plan_72 : decode prog_10_method_27_code 72 = .ok (.if_icmp .ge 77, 3) := by decide +kernel
theorem d_Md_plan_75 : decode prog_10_method_27_code 75 = .ok (.sipush 8760, 3) := by decide +kernel
theorem d_Md_plan_78 : decode prog_10_method_27_code 78 = .ok (.iload 4, 2) := by decide +kernel
theorem d_Md_plan_80 : decode prog_10_method_27_code 80 = .ok (.imul, 1) := by decide +kernel
theorem d_Md_plan_81 : decode prog_10_method_27_code 81 = .ok (.iload_n 3, 1) := by decide +kernel
theorem d_Md_plan_82 : decode prog_10_method_27_code 82 = .ok (.if_icmp .ge 21, 3) := by decide +kernel
theorem d_Md_plan_85 : decode prog_10_method_27_code 85 = .ok (.sipush 8760, 3) := by decide +kernel
theorem d_Md_plan_88 : decode prog_10_method_27_code 88 = .ok (.iload 4, 2) := by decide +kernel
theorem d_Md_plan_90 : decode prog_10_method_27_code 90 = .ok (.imul, 1) := by decide +kernel
theorem d_Md_plan_91 : decode prog_10_method_27_code 91 = .ok (.sipush 8760, 3) := by decide +kernel
theorem d_Md_plan_94 : decode prog_10_method_27_code 94 = .ok (.iadd, 1) := by decide +kernel
theorem d_Md_plan_95 : decode prog_10_method_27_code 95 = .ok (.iload_n 2, 1) := by decide +kernel
theorem d_Md_plan_96 : decode prog_10_method_27_code 96 = .ok (.if_icmp .le 7, 3) := by decide +kernel
theorem d_Md_plan_99 : decode prog_10_method_27_code 99 = .ok (.iconst 1, 1) := by decide +kernel
theorem d_Md_plan_100 : decode prog_10_method_27_code 100 = .ok (.goto 4, 3) := by decide +kernel
theorem d_Md_plan_103 : decode prog_10_method_27_code 103 = .ok (.iconst 0, 1) := by decide +kernel
theorem d_Md_plan_104 : decode prog_10_method_27_code 104 = .ok (.istore 5, 2) := by decide +kernel
theorem d_Md_plan_106 : decode prog_10_method_27_code 106 = .ok (.aload_n 0, 1) := by decide +kernel
theorem d_Md_plan_107 : decode prog_10_method_27_code 107 = .ok (.getfield 72, 3) := by decide +kernel
theorem d_Md_plan_110 : decode prog_10_method_27_code 110 = .ok (.iload 4, 2) := by decide +kernel
theorem d_Md_plan_112 : decode prog_10_method_27_code 112 = .ok (.iload 5, 2) := by decide +kernel
theorem d_Md_plan_114 : decode prog_10_method_27_code 114 = .ok (.ifCond .eq 27, 3) := by decide +kernel
theorem d_Md_plan_117 : decode prog_10_method_27_code 117 = .ok (.aload_n 0, 1) := by decide +kernel
theorem d_Md_plan_118 : decode prog_10_method_27_code 118 = .ok (.iload_n 1, 1) := by decide +kernel
theorem d_Md_plan_119 : decode prog_10_method_27_code 119 = .ok (.sipush 8760, 3) := by decide +kernel
theorem d_Md_plan_122 : decode prog_10_method_27_code 122 = .ok (.iload 4, 2) := by decide +kernel
theorem d_Md_plan_124 : decode prog_10_method_27_code 124 = .ok (.imul, 1) := by decide +kernel
theorem d_Md_plan_125 : decode prog_10_method_27_code 125 = .ok (.sipush 8760, 3) := by decide +kernel
theorem d_Md_plan_128 : decode prog_10_method_27_code 128 = .ok (.iload 4, 2) := by decide +kernel
theorem d_Md_plan_130 : decode prog_10_method_27_code 130 = .ok (.imul, 1) := by decide +kernel
theorem d_Md_plan_131 : decode prog_10_method_27_code 131 = .ok (.sipush 8760, 3) := by decide +kernel
theorem d_Md_plan_134 : decode prog_10_method_27_code 134 = .ok (.iadd, 1) := by decide +kernel
theorem d_Md_plan_135 : decode prog_10_method_27_code 135 = .ok (.invokevirtual 143, 3) := by decide +kernel
theorem d_Md_plan_138 : decode prog_10_method_27_code 138 = .ok (.goto 4, 3) := by decide +kernel
theorem d_Md_plan_141 : decode prog_10_method_27_code 141 = .ok (.lconst 0, 1) := by decide +kernel
theorem d_Md_plan_142 : decode prog_10_method_27_code 142 = .ok (.lastore, 1) := by decide +kernel
theorem d_Md_plan_143 : decode prog_10_method_27_code 143 = .ok (.iinc 4 1, 3) := by decide +kernel
theorem d_Md_plan_146 : decode prog_10_method_27_code 146 = .ok (.goto (-77), 3) := by decide +kernel
theorem d_Md_plan_149 : decode prog_10_method_27_code 149 = .ok (.iconst 0, 1) := by decide +kernel
theorem d_Md_plan_150 : decode prog_10_method_27_code 150 = .ok (.istore 4, 2) := by decide +kernel
theorem d_Md_plan_152 : decode prog_10_method_27_code 152 = .ok (.iload_n 2, 1) := by decide +kernel
theorem d_Md_plan_153 : decode prog_10_method_27_code 153 = .ok (.istore 5, 2) := by decide +kernel
theorem d_Md_plan_155 : decode prog_10_method_27_code 155 = .ok (.iload 5, 2) := by decide +kernel
theorem d_Md_plan_157 : decode prog_10_method_27_code 157 = .ok (.iload_n 3, 1) := by decide +kernel
theorem d_Md_plan_158 : decode prog_10_method_27_code 158 = .ok (.if_icmp .ge 81, 3) := by decide +kernel
theorem d_Md_plan_161 : decode prog_10_method_27_code 161 = .ok (.iload 5, 2) := by decide +kernel
theorem d_Md_plan_163 : decode prog_10_method_27_code 163 = .ok (.sipush 8760, 3) := by decide +kernel
theorem d_Md_plan_166 : decode prog_10_method_27_code 166 = .ok (.idiv, 1) := by decide +kernel
theorem d_Md_plan_167 : decode prog_10_method_27_code 167 = .ok (.istore 6, 2) := by decide +kernel
theorem d_Md_plan_169 : decode prog_10_method_27_code 169 = .ok (.aload_n 0, 1) := by decide +kernel
theorem d_Md_plan_170 : decode prog_10_method_27_code 170 = .ok (.getfield 72, 3) := by decide +kernel
theorem d_Md_plan_173 : decode prog_10_method_27_code 173 = .ok (.iload 6, 2) := by decide +kernel
theorem d_Md_plan_175 : decode prog_10_method_27_code 175 = .ok (.aload_n 0, 1) := by decide +kernel
theorem d_Md_plan_176 : decode prog_10_method_27_code 176 = .ok (.iload_n 1, 1) := by decide +kernel
theorem d_Md_plan_177 : decode prog_10_method_27_code 177 = .ok (.iload 5, 2) := by decide +kernel
theorem d_Md_plan_179 : decode prog_10_method_27_code 179 = .ok (.invokevirtual 135, 3) := by decide +kernel
theorem d_Md_plan_182 : decode prog_10_method_27_code 182 = .ok (.ifCond .eq 13, 3) := by decide +kernel
theorem d_Md_plan_185 : decode prog_10_method_27_code 185 = .ok (.aload_n 0, 1) := by decide +kernel
theorem d_Md_plan_186 : decode prog_10_method_27_code 186 = .ok (.getfield 72, 3) := by decide +kernel
theorem d_Md_plan_189 : decode prog_10_method_27_code 189 = .ok (.iload 6, 2) := by decide +kernel
theorem d_Md_plan_191 : decode prog_10_method_27_code 191 = .ok (.laload, 1) := by decide +kernel
theorem d_Md_plan_192 : decode prog_10_method_27_code 192 = .ok (.goto 18, 3) := by decide +kernel
theorem d_Md_plan_195 : decode prog_10_method_27_code 195 = .ok (.aload_n 0, 1) := by decide +kernel
theorem d_Md_plan_196 : decode prog_10_method_27_code 196 = .ok (.getfield 72, 3) := by decide +kernel
theorem d_Md_plan_199 : decode prog_10_method_27_code 199 = .ok (.iload 6, 2) := by decide +kernel
theorem d_Md_plan_201 : decode prog_10_method_27_code 201 = .ok (.laload, 1) := by decide +kernel
theorem d_Md_plan_202 : decode prog_10_method_27_code 202 = .ok (.aload_n 0, 1) := by decide +kernel
theorem d_Md_plan_203 : decode prog_10_method_27_code 203 = .ok (.iload_n 1, 1) := by decide +kernel
theorem d_Md_plan_204 : decode prog_10_method_27_code 204 = .ok (.iload 5, 2) := by decide +kernel
theorem d_Md_plan_206 : decode prog_10_method_27_code 206 = .ok (.invokevirtual 139, 3) := by decide +kernel
theorem d_Md_plan_209 : decode prog_10_method_27_code 209 = .ok (.ladd, 1) := by decide +kernel
theorem d_Md_plan_210 : decode prog_10_method_27_code 210 = .ok (.lastore, 1) := by decide +kernel
theorem d_Md_plan_211 : decode prog_10_method_27_code 211 = .ok (.aload_n 0, 1) := by decide +kernel
theorem d_Md_plan_212 : decode prog_10_method_27_code 212 = .ok (.getfield 72, 3) := by decide +kernel
theorem d_Md_plan_215 : decode prog_10_method_27_code 215 = .ok (.iload 6, 2) := by decide +kernel
theorem d_Md_plan_217 : decode prog_10_method_27_code 217 = .ok (.laload, 1) := by decide +kernel
theorem d_Md_plan_218 : decode prog_10_method_27_code 218 = .ok (.aload_n 0, 1) := by decide +kernel
theorem d_Md_plan_219 : decode prog_10_method_27_code 219 = .ok (.iload_n 1, 1) := by decide +kernel
theorem d_Md_plan_220 : decode prog_10_method_27_code 220 = .ok (.invokevirtual 150, 3) := by decide +kernel
theorem d_Md_plan_223 : decode prog_10_method_27_code 223 = .ok (.lcmp, 1) := by decide +kernel
theorem d_Md_plan_224 : decode prog_10_method_27_code 224 = .ok (.ifCond .le 6, 3) := by decide +kernel
theorem d_Md_plan_227 : decode prog_10_method_27_code 227 = .ok (.iload 4, 2) := by decide +kernel
theorem d_Md_plan_229 : decode prog_10_method_27_code 229 = .ok (.ireturn, 1) := by decide +kernel
theorem d_Md_plan_230 : decode prog_10_method_27_code 230 = .ok (.iinc 4 1, 3) := by decide +kernel
theorem d_Md_plan_233 : decode prog_10_method_27_code 233 = .ok (.iinc 5 1, 3) := by decide +kernel
theorem d_Md_plan_236 : decode prog_10_method_27_code 236 = .ok (.goto (-81), 3) := by decide +kernel
theorem d_Md_plan_239 : decode prog_10_method_27_code 239 = .ok (.iload 4, 2) := by decide +kernel
theorem d_Md_plan_241 : decode prog_10_method_27_code 241 = .ok (.ireturn, 1) := by decide +kernel
def vc_Md_plan (th : Int) (no : Int) (ca : Nat → Int) (ba : Nat → Int) (nl : Int) (xa : Nat → Int) (sa : Nat → Int) (da : Nat → Int) (la : Nat → Int) (ra : Nat → Int) (fa : Nat → Int) (ta : Nat → Int) (ua : Nat → Int) (uh : Nat → Int) (uo : Nat → Int) (ma : Nat → Int) (mh : Nat → Int) (ml : Nat → Int) (nf : Int) (fo : Nat → Int) (fh : Nat → Int) (fs : Nat → Int) (rs : Int) (ic : Int) (mn : Int) (bh : Nat → Int) (bo : Nat → Int) (ya : Nat → Int) (np : Int) (pa : Nat → Int) (nc : Int) (cp : Nat → Int) (ob : Int) (from_ : Int) (to_ : Int) (post : Int → Int → (Nat → Int) → Prop) : Prop := (r32 ob) ∧ ((r32 no) ∧ (((0 ≤ ob ∧ ob < no) → (r32 from_) ∧ (((0 ≤ from_ ∧ from_ < 26280) → (r32 to_) ∧ ((to_ ≤ from_ → post 0 2 ya) ∧ (from_ < to_ → (26280 < to_ → post 0 2 ya) ∧ (to_ ≤ 26280 → (0 ≤ ob ∧ ob < 12) ∧ ((0 ≤ ca (ob).toNat ∧ ca (ob).toNat < 6) ∧ ((r32 (ba (ca (ob).toNat).toNat)) ∧ ((¬ ba (ca (ob).toNat).toNat = (-1) → ∃ (I18 : Int → (Nat → Int) → Prop) (μ19 : Int → (Nat → Int) → Nat), I18 0 ya ∧ ∀ (y_ : Int) (g1 : Nat → Int), I18 y_ g1 → (r32 y_) ∧ ((3 ≤ y_ → ∃ (I24 : Int → Int → (Nat → Int) → Prop) (μ25 : Int → Int → (Nat → Int) → Nat), I24 0 from_ g1 ∧ ∀ (n_ : Int) (h_ : Int) (g2 : Nat → Int), I24 n_ h_ g2 → (r32 h_) ∧ ((to_ ≤ h_ → post n_ 0 g2) ∧ (h_ < to_ → (0 ≤ h_) ∧ (∃ P31 : Int → Prop, vc_Md_isShown 0 no ca ba nl xa sa da la ra fa ta ua uh uo ma mh ml nf fo fh fs rs ic mn bh bo g2 np pa nc cp ob h_ P31 ∧ ∀ z32 : Int, P31 z32 → (r32 z32) ∧ ((z32 = 0 → (0 ≤ h_ / 8760 ∧ h_ / 8760 < 3) ∧ (∃ P37 : Int → Prop, vc_Md_bright 0 no ca ba nl xa sa da la ra fa ta ua uh uo ma mh ml nf fo fh fs rs ic mn bh bo g2 np pa nc cp ob h_ P37 ∧ ∀ z38 : Int, P37 z38 → (0 ≤ h_ / 8760 ∧ h_ / 8760 < 3) ∧ ((0 ≤ h_ / 8760 ∧ h_ / 8760 < 3) ∧ (∃ P42 : Int → Prop, vc_Md_bound 0 no ca ba nl xa sa da la ra fa ta ua uh uo ma mh ml nf fo fh fs rs ic mn bh bo (va_up g2 (h_ / 8760).toNat (g2 (h_ / 8760).toNat + z38)) np pa nc cp ob P42 ∧ ∀ z43 : Int, P42 z43 → (r64 ((va_up g2 (h_ / 8760).toNat (g2 (h_ / 8760).toNat + z38)) (h_ / 8760).toNat)) ∧ ((r64 z43) ∧ (((va_up g2 (h_ / 8760).toNat (g2 (h_ / 8760).toNat + z38)) (h_ / 8760).toNat ≤ z43 → I24 (n_ + 1) (h_ + 1) (va_up g2 (h_ / 8760).toNat (g2 (h_ / 8760).toNat + z38)) ∧ μ25 (n_ + 1) (h_ + 1) (va_up g2 (h_ / 8760).toNat (g2 (h_ / 8760).toNat + z38)) < μ25 n_ h_ g2) ∧ (z43 < (va_up g2 (h_ / 8760).toNat (g2 (h_ / 8760).toNat + z38)) (h_ / 8760).toNat → post n_ 0 (va_up g2 (h_ / 8760).toNat (g2 (h_ / 8760).toNat + z38))))))))) ∧ (¬ z32 = 0 → (0 ≤ h_ / 8760 ∧ h_ / 8760 < 3) ∧ ((0 ≤ h_ / 8760 ∧ h_ / 8760 < 3) ∧ ((0 ≤ h_ / 8760 ∧ h_ / 8760 < 3) ∧ (∃ P51 : Int → Prop, vc_Md_bound 0 no ca ba nl xa sa da la ra fa ta ua uh uo ma mh ml nf fo fh fs rs ic mn bh bo (va_up g2 (h_ / 8760).toNat (g2 (h_ / 8760).toNat)) np pa nc cp ob P51 ∧ ∀ z52 : Int, P51 z52 → (r64 ((va_up g2 (h_ / 8760).toNat (g2 (h_ / 8760).toNat)) (h_ / 8760).toNat)) ∧ ((r64 z52) ∧ (((va_up g2 (h_ / 8760).toNat (g2 (h_ / 8760).toNat)) (h_ / 8760).toNat ≤ z52 → I24 (n_ + 1) (h_ + 1) (va_up g2 (h_ / 8760).toNat (g2 (h_ / 8760).toNat)) ∧ μ25 (n_ + 1) (h_ + 1) (va_up g2 (h_ / 8760).toNat (g2 (h_ / 8760).toNat)) < μ25 n_ h_ g2) ∧ (z52 < (va_up g2 (h_ / 8760).toNat (g2 (h_ / 8760).toNat)) (h_ / 8760).toNat → post n_ 0 (va_up g2 (h_ / 8760).toNat (g2 (h_ / 8760).toNat)))))))))))))) ∧ (y_ < 3 → (r32 (8760 * y_)) ∧ ((to_ ≤ 8760 * y_ → (0 ≤ y_ ∧ y_ < 3) ∧ (I18 (y_ + 1) (va_up g1 (y_).toNat 0) ∧ μ19 (y_ + 1) (va_up g1 (y_).toNat 0) < μ19 y_ g1)) ∧ (8760 * y_ < to_ → (r32 (8760 * y_ + 8760)) ∧ ((8760 * y_ + 8760 ≤ from_ → (0 ≤ y_ ∧ y_ < 3) ∧ (I18 (y_ + 1) (va_up g1 (y_).toNat 0) ∧ μ19 (y_ + 1) (va_up g1 (y_).toNat 0) < μ19 y_ g1)) ∧ (from_ < 8760 * y_ + 8760 → ∃ P69 : Int → Prop, vc_Md_parts 0 no ca ba nl xa sa da la ra fa ta ua uh uo ma mh ml nf fo fh fs rs ic mn bh bo g1 np pa nc cp ob (8760 * y_) (8760 * y_ + 8760) P69 ∧ ∀ z70 : Int, P69 z70 → (0 ≤ y_ ∧ y_ < 3) ∧ (I18 (y_ + 1) (va_up g1 (y_).toNat z70) ∧ μ19 (y_ + 1) (va_up g1 (y_).toNat z70) < μ19 y_ g1)))))))) ∧ (ba (ca (ob).toNat).toNat = (-1) → post (to_ - from_) 0 ya)))))))) ∧ (¬ (0 ≤ from_ ∧ from_ < 26280) → (r32 to_) ∧ ((to_ ≤ from_ → post 0 1 ya) ∧ (from_ < to_ → (26280 < to_ → post 0 1 ya) ∧ (to_ ≤ 26280 → post 0 1 ya)))))) ∧ (¬ (0 ≤ ob ∧ ob < no) → (r32 to_) ∧ ((r32 from_) ∧ ((to_ ≤ from_ → post 0 1 ya) ∧ (from_ < to_ → (26280 < to_ → post 0 1 ya) ∧ (to_ ≤ 26280 → post 0 1 ya)))))))
set_option maxHeartbeats 4000000 in
set_option maxRecDepth 100000 in
theorem m_Md_plan (l : Launch) (D : va_G) (cI cJ cO cZ : ClassId) (h0 h1 h2 h3 h4 h5 h6 h7 h8 h9 h10 h11 h12 h13 h14 h15 h16 h17 h18 h19 h20 h21 h22 h23 : Nat) (sz : Nat) (th : Int) (no : Int) (ca : Nat → Int) (ba : Nat → Int) (nl : Int) (xa : Nat → Int) (sa : Nat → Int) (da : Nat → Int) (la : Nat → Int) (ra : Nat → Int) (fa : Nat → Int) (ta : Nat → Int) (ua : Nat → Int) (uh : Nat → Int) (uo : Nat → Int) (ma : Nat → Int) (mh : Nat → Int) (ml : Nat → Int) (nf : Int) (fo : Nat → Int) (fh : Nat → Int) (fs : Nat → Int) (rs : Int) (ic : Int) (mn : Int) (bh : Nat → Int) (bo : Nat → Int) (ya : Nat → Int) (np : Int) (pa : Nat → Int) (nc : Int) (cp : Nat → Int) (ob : Int) (from_ : Int) (to_ : Int) (post : Int → Int → (Nat → Int) → Prop) (v : vc_Md_plan th no ca ba nl xa sa da la ra fa ta ua uh uo ma mh ml nf fo fh fs rs ic mn bh bo ya np pa nc cp ob from_ to_ post) : Met l ⟨"LightDosesModel", "plan", "(III)I"⟩ (.code ⟨"LightDosesModel", "plan", "(III)I"⟩ prog_10_method_27_code 7 (some .int) :: TG) { frames := 2, cells := 0, slots := 0, locals := 53 } (va_Pc [.ref h0, .int (iI ob), .int (iI from_), .int (iI to_)] (fun U => U.heap.size = sz ∧ va_P D vwCl (wMd cI cJ cZ h0 h1 h2 h3 h4 h5 h6 h7 h8 h9 h10 h11 h12 h13 h14 h15 h16 h17 h18 h19 h20 h21 h22 h23 th no ca ba nl xa sa da la ra fa ta ua uh uo ma mh ml nf fo fh fs rs ic mn bh bo ya np pa nc cp) U.heap ∧ va_K D vwCl (tyx cI cJ cO cZ) U ∧ va_D (fun _ => True) (wMd cI cJ cZ h0 h1 h2 h3 h4 h5 h6 h7 h8 h9 h10 h11 h12 h13 h14 h15 h16 h17 h18 h19 h20 h21 h22 h23 th no ca ba nl xa sa da la ra fa ta ua uh uo ma mh ml nf fo fh fs rs ic mn bh bo ya np pa nc cp))) (va_Qi (fun (r : Int32) (u : Int × (Nat → Int)) => ∃ z : Int, r = iI z ∧ post z u.1 u.2) (fun u t => va_P D vwCl (wMd cI cJ cZ h0 h1 h2 h3 h4 h5 h6 h7 h8 h9 h10 h11 h12 h13 h14 h15 h16 h17 h18 h19 h20 h21 h22 h23 u.1 no ca ba nl xa sa da la ra fa ta ua uh uo ma mh ml nf fo fh fs rs ic mn bh bo u.2 np pa nc cp) t.heap ∧ va_K D vwCl (tyx cI cJ cO cZ) t ∧ va_D (va_A (wMd cI cJ cZ h0 h1 h2 h3 h4 h5 h6 h7 h8 h9 h10 h11 h12 h13 h14 h15 h16 h17 h18 h19 h20 h21 h22 h23 th no ca ba nl xa sa da la ra fa ta ua uh uo ma mh ml nf fo fh fs rs ic mn bh bo ya np pa nc cp) sz) (wMd cI cJ cZ h0 h1 h2 h3 h4 h5 h6 h7 h8 h9 h10 h11 h12 h13 h14 h15 h16 h17 h18 h19 h20 h21 h22 h23 u.1 no ca ba nl xa sa da la ra fa ta ua uh uo ma mh ml nf fo fh fs rs ic mn bh bo u.2 np pa nc cp)) (va_A (wMd cI cJ cZ h0 h1 h2 h3 h4 h5 h6 h7 h8 h9 h10 h11 h12 h13 h14 h15 h16 h17 h18 h19 h20 h21 h22 h23 th no ca ba nl xa sa da la ra fa ta ua uh uo ma mh ml nf fo fh fs rs ic mn bh bo ya np pa nc cp) sz)) 0 0 (va_A (wMd cI cJ cZ h0 h1 h2 h3 h4 h5 h6 h7 h8 h9 h10 h11 h12 h13 h14 h15 h16 h17 h18 h19 h20 h21 h22 h23 th no ca ba nl xa sa da la ra fa ta ua uh uo ma mh ml nf fo fh fs rs ic mn bh bo ya np pa nc cp) sz) := by
  refine Met.ofW (cc := prog_10_method_27_code) (maxL := 7) (ret := (some .int)) (by decide) rfl ?_
  intro p e s m args below meth c s₁ B hml hv
  obtain ⟨rfl, hsz, hP, hK, hD0⟩ := hv
  have hx := B.exec
  have hb := B.bytes
  have hr := B.returns
  have hts0 := atoms_spec (ws := (.code ⟨"LightDosesModel", "plan", "(III)I"⟩ prog_10_method_27_code 7 (some .int) :: TG)) B.pre
  have hts : ∀ w ∈ TG, w.before _ s = true := fun w h => hts0 w (List.mem_cons_of_mem _ h)
  have hown : s.vm.findClass "LightDosesModel" = some m.cls := findClass_of_methodNamed B.named
  have hlocks := B.notSynchronized
  subst hsz
  have hD := hD0.self (sz := s.heap.size)
  generalize hAe : va_A (wMd cI cJ cZ h0 h1 h2 h3 h4 h5 h6 h7 h8 h9 h10 h11 h12 h13 h14 h15 h16 h17 h18 h19 h20 h21 h22 h23 th no ca ba nl xa sa da la ra fa ta ua uh uo ma mh ml nf fo fh fs rs ic mn bh bo ya np pa nc cp) s.heap.size = A at hD ⊢
  have hA : ∀ q : Nat, s.heap.size ≤ q → A q := fun q h => by rw [← hAe]; exact Or.inr h
  have hS : va_S A s.heap s.heap [] := va_S.rf
  have hP : va_P D vwCl (wMd cI cJ cZ h0 h1 h2 h3 h4 h5 h6 h7 h8 h9 h10 h11 h12 h13 h14 h15 h16 h17 h18 h19 h20 h21 h22 h23 th no ca ba nl xa sa da la ra fa ta ua uh uo ma mh ml nf fo fh fs rs ic mn bh bo ya np pa nc cp) s.heap := hP
  have hl := lv_entry ([Value.ref h0, Value.int (iI ob), Value.int (iI from_), Value.int (iI to_)]) (n := 7) (Nat.le_of_ble_eq_true rfl)
  rw [lg_entry_eq]
  generalize (lg_sl ([Value.ref h0, Value.int (iI ob), Value.int (iI from_), Value.int (iI to_)]) ++ List.replicate (7 - (lg_sl ([Value.ref h0, Value.int (iI ob), Value.int (iI from_), Value.int (iI to_)])).length) Slot.unset).toArray = ls at hl ⊢
  have hl : lv_has ls 7 [(0, .ref h0), (1, .int (iI ob)), (2, .int (iI from_)), (3, .int (iI to_))] := hl
  unfold vc_Md_plan at v
  obtain ⟨H, hH⟩ : ∃ H, H = s.heap := ⟨_, rfl⟩
  obtain ⟨locs, hlc⟩ : ∃ L : List Loc, L = [] := ⟨_, rfl⟩
  rw [← hlc] at hS ⊢
  have hP : va_P D vwCl (wMd cI cJ cZ h0 h1 h2 h3 h4 h5 h6 h7 h8 h9 h10 h11 h12 h13 h14 h15 h16 h17 h18 h19 h20 h21 h22 h23 th no ca ba nl xa sa da la ra fa ta ua uh uo ma mh ml nf fo fh fs rs ic mn bh bo ya np pa nc cp) H := by rw [hH]; exact hP
  have hS : va_S A s.heap H locs := by rw [hH]; exact hS
  have hW0 : ∀ {X : Heap → Prop}, X H → X s.heap := fun h => by rw [← hH]; exact h
  refine hW0 (X := fun Z => W p l e _ s m _ below meth c Z locs 0 0 _ _) ?_
  refine lv_aload_n hx hb d_Md_plan_0 rfl (lv_at hl 0 rfl) ?_
  refine lv_aload_n hx hb d_Md_plan_1 rfl (lv_at hl 0 rfl) ?_
  refine lv_iload_n hx hb d_Md_plan_2 rfl (lv_at hl 1 rfl) ?_
  obtain ⟨k1, v⟩ := v
  obtain ⟨k2, v⟩ := v
  refine vp_callSi (nv_runV (wc := (wMd cI cJ cZ h0 h1 h2 h3 h4 h5 h6 h7 h8 h9 h10 h11 h12 h13 h14 h15 h16 h17 h18 h19 h20 h21 h22 h23 th no ca ba nl xa sa da la ra fa ta ua uh uo ma mh ml nf fo fh fs rs ic mn bh bo ya np pa nc cp)) (As := [.int (iI ob)]) (rest := [.ref h0]) ⟨hx, hb, hml, hown, hts⟩ (m_Md_isObject l D cI cJ cO cZ h0 h1 h2 h3 h4 h5 h6 h7 h8 h9 h10 h11 h12 h13 h14 h15 h16 h17 h18 h19 h20 h21 h22 h23 th no ca ba nl xa sa da la ra fa ta ua uh uo ma mh ml nf fo fh fs rs ic mn bh bo ya np pa nc cp ob (fun z => (z = 1 ∧ (0 ≤ ob ∧ ob < no)) ∨ (z = 0 ∧ ¬ (0 ≤ ob ∧ ob < no))) (s_Md_isObject th no ca ba nl xa sa da la ra fa ta ua uh uo ma mh ml nf fo fh fs rs ic mn bh bo ya np pa nc cp ob k1 k2)) (nv_cwV (n := 1) hts wd_840 wd_842 sl_20 wd_10 wd_843 (by decide +kernel) ⟨Nat.le_of_ble_eq_true rfl, Nat.le_of_ble_eq_true rfl⟩) hK (hP.sub [0, 1, 2, 3, 4, 5, 6, 7, 8, 9, 10, 11, 12, 13, 14, 15, 16, 17, 18, 19, 20, 21, 22, 23] rfl) (va_recv hK hP (ci := 8) (q0 := 0) rfl rfl) rfl hl.1 rfl (Nat.le_of_ble_eq_true rfl) d_Md_plan_3 (Nat.le_of_ble_eq_true rfl) (Nat.le_of_ble_eq_true rfl)) (fun r hr => ?_)
  rcases hr with ⟨_, rfl, ⟨rfl, c3⟩ | ⟨rfl, c3⟩⟩
  · replace v := v.1 c3
    refine nv_if_eq (tgt := 20) hx hb d_Md_plan_6 (by decide) (by decide) (fun c4 => absurd c4 (by decide)) (fun _ => ?_)
    refine lv_iload_n hx hb d_Md_plan_9 rfl (lv_at hl 2 rfl) ?_
    obtain ⟨k5, v⟩ := v
    refine vp_callSi (nv_runS (wc := []) (As := [.int (iI from_)]) (rest := [.ref h0]) ⟨hx, hb, hml, hown, hts⟩ (m_Md_isHour l D cI cJ cO cZ from_ (fun z => (z = 1 ∧ (0 ≤ from_ ∧ from_ < 26280)) ∨ (z = 0 ∧ ¬ (0 ≤ from_ ∧ from_ < 26280))) (s_Md_isHour from_ k5)) (nv_cwS (n := 1) hts wd_852 wd_853 wd_10 wd_854 (by decide +kernel) ⟨Nat.le_of_ble_eq_true rfl, Nat.le_of_ble_eq_true rfl⟩) hK (hP.sub [] rfl) rfl hl.1 rfl (Nat.le_of_ble_eq_true rfl) d_Md_plan_10 (Nat.le_of_ble_eq_true rfl) (Nat.le_of_ble_eq_true rfl)) (fun r hr => ?_)
    rcases hr with ⟨_, rfl, ⟨rfl, c6⟩ | ⟨rfl, c6⟩⟩
    · replace v := v.1 c6
      refine nv_if_eq (tgt := 20) hx hb d_Md_plan_13 (by decide) (by decide) (fun c7 => absurd c7 (by decide)) (fun _ => ?_)
      refine nv_iconst (n := 1) hx hb d_Md_plan_16 ?_
      refine lv_goto (tgt := 21) hx hb d_Md_plan_17 (by decide) ?_
      refine lv_iload_n hx hb d_Md_plan_21 rfl (lv_at hl 3 rfl) ?_
      refine lv_iload_n hx hb d_Md_plan_22 rfl (lv_at hl 2 rfl) ?_
      obtain ⟨k8, v⟩ := v
      refine nv_icmp_le (tgt := 37) hx hb d_Md_plan_23 (by decide) k8 k5 (fun c9 => ?_) (fun c9 => ?_)
      · replace v := v.1 c9
        refine nv_iconst (n := 0) hx hb d_Md_plan_37 ?_
        refine nv_iconst (n := 1) hx hb d_Md_plan_38 ?_
        have hPc := hP.sub (ws' := (wMd cI cJ cZ h0 h1 h2 h3 h4 h5 h6 h7 h8 h9 h10 h11 h12 h13 h14 h15 h16 h17 h18 h19 h20 h21 h22 h23 th no ca ba nl xa sa da la ra fa ta ua uh uo ma mh ml nf fo fh fs rs ic mn bh bo ya np pa nc cp)) [0, 1, 2, 3, 4, 5, 6, 7, 8, 9, 10, 11, 12, 13, 14, 15, 16, 17, 18, 19, 20, 21, 22, 23] rfl
        have hDc := hD.sub (ws' := (wMd cI cJ cZ h0 h1 h2 h3 h4 h5 h6 h7 h8 h9 h10 h11 h12 h13 h14 h15 h16 h17 h18 h19 h20 h21 h22 h23 th no ca ba nl xa sa da la ra fa ta ua uh uo ma mh ml nf fo fh fs rs ic mn bh bo ya np pa nc cp)) [0, 1, 2, 3, 4, 5, 6, 7, 8, 9, 10, 11, 12, 13, 14, 15, 16, 17, 18, 19, 20, 21, 22, 23] (by decide) rfl
        have hFc := va_free (wc := (wMd cI cJ cZ h0 h1 h2 h3 h4 h5 h6 h7 h8 h9 h10 h11 h12 h13 h14 h15 h16 h17 h18 h19 h20 h21 h22 h23 th no ca ba nl xa sa da la ra fa ta ua uh uo ma mh ml nf fo fh fs rs ic mn bh bo ya np pa nc cp)) hD hS hA [0, 1, 2, 3, 4, 5, 6, 7, 8, 9, 10, 11, 12, 13, 14, 15, 16, 17, 18, 19, 20, 21, 22, 23] rfl
        refine va_calli (va_runV (As := [.int (iI 1), .int (iI 0), .int (iI 1)]) (rest := []) ⟨hx, hb, hml, hown, hts⟩ (m_Md_goes l D cI cJ cO cZ h0 h1 h2 h3 h4 h5 h6 h7 h8 h9 h10 h11 h12 h13 h14 h15 h16 h17 h18 h19 h20 h21 h22 h23 H.size th no ca ba nl xa sa da la ra fa ta ua uh uo ma mh ml nf fo fh fs rs ic mn bh bo ya np pa nc cp 1 0 1 (fun z t => z = 0 ∧ t = 2) (s_Md_goes_101 th no ca ba nl xa sa da la ra fa ta ua uh uo ma mh ml nf fo fh fs rs ic mn bh bo ya np pa nc cp)) (nv_cwV (n := 3) hts wd_812 wd_814 sl_17 wd_10 wd_815 (by decide +kernel) ⟨Nat.le_of_ble_eq_true rfl, Nat.le_of_ble_eq_true rfl⟩) ⟨blW, va_recv hK hPc (ci := 8) (q0 := 0) rfl rfl, fun U hU hW => ⟨rfl, by rw [hU], by rw [hU]; exact hPc, va_K.moved hW.alike hK, hDc.weaken (fun _ _ _ _ => trivial)⟩⟩ rfl rfl hl.1 rfl (lv_room (Nat.le_of_ble_eq_true rfl)) d_Md_plan_39 ⟨Nat.le_of_ble_eq_true rfl, Nat.le_of_ble_eq_true rfl⟩) hS (fun q _ h => hFc q h) hFc (fun r u t H1 locs ht hvm hw hB hz1 hk1 hS => ?_)
        obtain ⟨hP1, hK1, hD1⟩ := hB
        rw [ht] at hP1
        obtain ⟨_, rfl, rfl, rfl⟩ := hw
        obtain ⟨hP, hD⟩ := va_join (wr := []) (w1 := (wMd cI cJ cZ h0 h1 h2 h3 h4 h5 h6 h7 h8 h9 h10 h11 h12 h13 h14 h15 h16 h17 h18 h19 h20 h21 h22 h23 2 no ca ba nl xa sa da la ra fa ta ua uh uo ma mh ml nf fo fh fs rs ic mn bh bo ya np pa nc cp)) hP hD [0, 1, 2, 3, 4, 5, 6, 7, 8, 9, 10, 11, 12, 13, 14, 15, 16, 17, 18, 19, 20, 21, 22, 23] [] rfl rfl (by decide) (by decide) hk1 hFc hP1 hD1
        generalize H1 = H at hP hS ⊢
        have hP : va_P D vwCl (wMd cI cJ cZ h0 h1 h2 h3 h4 h5 h6 h7 h8 h9 h10 h11 h12 h13 h14 h15 h16 h17 h18 h19 h20 h21 h22 h23 2 no ca ba nl xa sa da la ra fa ta ua uh uo ma mh ml nf fo fh fs rs ic mn bh bo ya np pa nc cp) H := hP
        have hD : va_D A (wMd cI cJ cZ h0 h1 h2 h3 h4 h5 h6 h7 h8 h9 h10 h11 h12 h13 h14 h15 h16 h17 h18 h19 h20 h21 h22 h23 2 no ca ba nl xa sa da la ra fa ta ua uh uo ma mh ml nf fo fh fs rs ic mn bh bo ya np pa nc cp) := hD
        refine W.widen (k := 0) (n := 0) (Nat.le_of_ble_eq_true rfl) (Nat.le_of_ble_eq_true rfl) ?_
        refine nv_if_ne (tgt := 47) hx hb d_Md_plan_42 (by decide) (by decide) (fun c10 => absurd c10 (by decide)) (fun _ => ?_)
        refine nv_iconst (n := 0) hx hb d_Md_plan_45 ?_
        have hP9 := hP.sub (ws' := (wMd cI cJ cZ h0 h1 h2 h3 h4 h5 h6 h7 h8 h9 h10 h11 h12 h13 h14 h15 h16 h17 h18 h19 h20 h21 h22 h23 2 no ca ba nl xa sa da la ra fa ta ua uh uo ma mh ml nf fo fh fs rs ic mn bh bo ya np pa nc cp)) [0, 1, 2, 3, 4, 5, 6, 7, 8, 9, 10, 11, 12, 13, 14, 15, 16, 17, 18, 19, 20, 21, 22, 23] rfl
        have hD9 := hD.sub (ws' := (wMd cI cJ cZ h0 h1 h2 h3 h4 h5 h6 h7 h8 h9 h10 h11 h12 h13 h14 h15 h16 h17 h18 h19 h20 h21 h22 h23 2 no ca ba nl xa sa da la ra fa ta ua uh uo ma mh ml nf fo fh fs rs ic mn bh bo ya np pa nc cp)) [0, 1, 2, 3, 4, 5, 6, 7, 8, 9, 10, 11, 12, 13, 14, 15, 16, 17, 18, 19, 20, 21, 22, 23] (by decide) rfl
        exact W.iret hx hb hr (fun t ht hW => ⟨⟨_, ((2), (ya)), rfl, ⟨_, rfl, v⟩, by rw [ht]; exact hP9, va_K.moved hW.alike hK, hD9⟩, hS.F ht⟩) hS.2.2 d_Md_plan_46
      · replace v := v.2 c9
        refine lv_iload_n hx hb d_Md_plan_26 rfl (lv_at hl 3 rfl) ?_
        refine nv_sipush (z := 26280) hx hb d_Md_plan_27 (by decide) ?_
        refine nv_icmp_gt (tgt := 37) hx hb d_Md_plan_30 (by decide) k8 (by decide) (fun c11 => ?_) (fun c11 => ?_)
        · replace v := v.1 c11
          refine nv_iconst (n := 0) hx hb d_Md_plan_37 ?_
          refine nv_iconst (n := 1) hx hb d_Md_plan_38 ?_
          have hPc := hP.sub (ws' := (wMd cI cJ cZ h0 h1 h2 h3 h4 h5 h6 h7 h8 h9 h10 h11 h12 h13 h14 h15 h16 h17 h18 h19 h20 h21 h22 h23 th no ca ba nl xa sa da la ra fa ta ua uh uo ma mh ml nf fo fh fs rs ic mn bh bo ya np pa nc cp)) [0, 1, 2, 3, 4, 5, 6, 7, 8, 9, 10, 11, 12, 13, 14, 15, 16, 17, 18, 19, 20, 21, 22, 23] rfl
          have hDc := hD.sub (ws' := (wMd cI cJ cZ h0 h1 h2 h3 h4 h5 h6 h7 h8 h9 h10 h11 h12 h13 h14 h15 h16 h17 h18 h19 h20 h21 h22 h23 th no ca ba nl xa sa da la ra fa ta ua uh uo ma mh ml nf fo fh fs rs ic mn bh bo ya np pa nc cp)) [0, 1, 2, 3, 4, 5, 6, 7, 8, 9, 10, 11, 12, 13, 14, 15, 16, 17, 18, 19, 20, 21, 22, 23] (by decide) rfl
          have hFc := va_free (wc := (wMd cI cJ cZ h0 h1 h2 h3 h4 h5 h6 h7 h8 h9 h10 h11 h12 h13 h14 h15 h16 h17 h18 h19 h20 h21 h22 h23 th no ca ba nl xa sa da la ra fa ta ua uh uo ma mh ml nf fo fh fs rs ic mn bh bo ya np pa nc cp)) hD hS hA [0, 1, 2, 3, 4, 5, 6, 7, 8, 9, 10, 11, 12, 13, 14, 15, 16, 17, 18, 19, 20, 21, 22, 23] rfl
          refine va_calli (va_runV (As := [.int (iI 1), .int (iI 0), .int (iI 1)]) (rest := []) ⟨hx, hb, hml, hown, hts⟩ (m_Md_goes l D cI cJ cO cZ h0 h1 h2 h3 h4 h5 h6 h7 h8 h9 h10 h11 h12 h13 h14 h15 h16 h17 h18 h19 h20 h21 h22 h23 H.size th no ca ba nl xa sa da la ra fa ta ua uh uo ma mh ml nf fo fh fs rs ic mn bh bo ya np pa nc cp 1 0 1 (fun z t => z = 0 ∧ t = 2) (s_Md_goes_101 th no ca ba nl xa sa da la ra fa ta ua uh uo ma mh ml nf fo fh fs rs ic mn bh bo ya np pa nc cp)) (nv_cwV (n := 3) hts wd_812 wd_814 sl_17 wd_10 wd_815 (by decide +kernel) ⟨Nat.le_of_ble_eq_true rfl, Nat.le_of_ble_eq_true rfl⟩) ⟨blW, va_recv hK hPc (ci := 8) (q0 := 0) rfl rfl, fun U hU hW => ⟨rfl, by rw [hU], by rw [hU]; exact hPc, va_K.moved hW.alike hK, hDc.weaken (fun _ _ _ _ => trivial)⟩⟩ rfl rfl hl.1 rfl (lv_room (Nat.le_of_ble_eq_true rfl)) d_Md_plan_39 ⟨Nat.le_of_ble_eq_true rfl, Nat.le_of_ble_eq_true rfl⟩) hS (fun q _ h => hFc q h) hFc (fun r u t H1 locs ht hvm hw hB hz1 hk1 hS => ?_)
          obtain ⟨hP1, hK1, hD1⟩ := hB
          rw [ht] at hP1
          obtain ⟨_, rfl, rfl, rfl⟩ := hw
          obtain ⟨hP, hD⟩ := va_join (wr := []) (w1 := (wMd cI cJ cZ h0 h1 h2 h3 h4 h5 h6 h7 h8 h9 h10 h11 h12 h13 h14 h15 h16 h17 h18 h19 h20 h21 h22 h23 2 no ca ba nl xa sa da la ra fa ta ua uh uo ma mh ml nf fo fh fs rs ic mn bh bo ya np pa nc cp)) hP hD [0, 1, 2, 3, 4, 5, 6, 7, 8, 9, 10, 11, 12, 13, 14, 15, 16, 17, 18, 19, 20, 21, 22, 23] [] rfl rfl (by decide) (by decide) hk1 hFc hP1 hD1
          generalize H1 = H at hP hS ⊢
          have hP : va_P D vwCl (wMd cI cJ cZ h0 h1 h2 h3 h4 h5 h6 h7 h8 h9 h10 h11 h12 h13 h14 h15 h16 h17 h18 h19 h20 h21 h22 h23 2 no ca ba nl xa sa da la ra fa ta ua uh uo ma mh ml nf fo fh fs rs ic mn bh bo ya np pa nc cp) H := hP
          have hD : va_D A (wMd cI cJ cZ h0 h1 h2 h3 h4 h5 h6 h7 h8 h9 h10 h11 h12 h13 h14 h15 h16 h17 h18 h19 h20 h21 h22 h23 2 no ca ba nl xa sa da la ra fa ta ua uh uo ma mh ml nf fo fh fs rs ic mn bh bo ya np pa nc cp) := hD
          refine W.widen (k := 0) (n := 0) (Nat.le_of_ble_eq_true rfl) (Nat.le_of_ble_eq_true rfl) ?_
          refine nv_if_ne (tgt := 47) hx hb d_Md_plan_42 (by decide) (by decide) (fun c12 => absurd c12 (by decide)) (fun _ => ?_)
          refine nv_iconst (n := 0) hx hb d_Md_plan_45 ?_
          have hP9 := hP.sub (ws' := (wMd cI cJ cZ h0 h1 h2 h3 h4 h5 h6 h7 h8 h9 h10 h11 h12 h13 h14 h15 h16 h17 h18 h19 h20 h21 h22 h23 2 no ca ba nl xa sa da la ra fa ta ua uh uo ma mh ml nf fo fh fs rs ic mn bh bo ya np pa nc cp)) [0, 1, 2, 3, 4, 5, 6, 7, 8, 9, 10, 11, 12, 13, 14, 15, 16, 17, 18, 19, 20, 21, 22, 23] rfl
          have hD9 := hD.sub (ws' := (wMd cI cJ cZ h0 h1 h2 h3 h4 h5 h6 h7 h8 h9 h10 h11 h12 h13 h14 h15 h16 h17 h18 h19 h20 h21 h22 h23 2 no ca ba nl xa sa da la ra fa ta ua uh uo ma mh ml nf fo fh fs rs ic mn bh bo ya np pa nc cp)) [0, 1, 2, 3, 4, 5, 6, 7, 8, 9, 10, 11, 12, 13, 14, 15, 16, 17, 18, 19, 20, 21, 22, 23] (by decide) rfl
          exact W.iret hx hb hr (fun t ht hW => ⟨⟨_, ((2), (ya)), rfl, ⟨_, rfl, v⟩, by rw [ht]; exact hP9, va_K.moved hW.alike hK, hD9⟩, hS.F ht⟩) hS.2.2 d_Md_plan_46
        · replace v := v.2 c11
          refine nv_iconst (n := 1) hx hb d_Md_plan_33 ?_
          refine lv_goto (tgt := 38) hx hb d_Md_plan_34 (by decide) ?_
          refine nv_iconst (n := 1) hx hb d_Md_plan_38 ?_
          have hPc := hP.sub (ws' := (wMd cI cJ cZ h0 h1 h2 h3 h4 h5 h6 h7 h8 h9 h10 h11 h12 h13 h14 h15 h16 h17 h18 h19 h20 h21 h22 h23 th no ca ba nl xa sa da la ra fa ta ua uh uo ma mh ml nf fo fh fs rs ic mn bh bo ya np pa nc cp)) [0, 1, 2, 3, 4, 5, 6, 7, 8, 9, 10, 11, 12, 13, 14, 15, 16, 17, 18, 19, 20, 21, 22, 23] rfl
          have hDc := hD.sub (ws' := (wMd cI cJ cZ h0 h1 h2 h3 h4 h5 h6 h7 h8 h9 h10 h11 h12 h13 h14 h15 h16 h17 h18 h19 h20 h21 h22 h23 th no ca ba nl xa sa da la ra fa ta ua uh uo ma mh ml nf fo fh fs rs ic mn bh bo ya np pa nc cp)) [0, 1, 2, 3, 4, 5, 6, 7, 8, 9, 10, 11, 12, 13, 14, 15, 16, 17, 18, 19, 20, 21, 22, 23] (by decide) rfl
          have hFc := va_free (wc := (wMd cI cJ cZ h0 h1 h2 h3 h4 h5 h6 h7 h8 h9 h10 h11 h12 h13 h14 h15 h16 h17 h18 h19 h20 h21 h22 h23 th no ca ba nl xa sa da la ra fa ta ua uh uo ma mh ml nf fo fh fs rs ic mn bh bo ya np pa nc cp)) hD hS hA [0, 1, 2, 3, 4, 5, 6, 7, 8, 9, 10, 11, 12, 13, 14, 15, 16, 17, 18, 19, 20, 21, 22, 23] rfl
          refine va_calli (va_runV (As := [.int (iI 1), .int (iI 1), .int (iI 1)]) (rest := []) ⟨hx, hb, hml, hown, hts⟩ (m_Md_goes l D cI cJ cO cZ h0 h1 h2 h3 h4 h5 h6 h7 h8 h9 h10 h11 h12 h13 h14 h15 h16 h17 h18 h19 h20 h21 h22 h23 H.size th no ca ba nl xa sa da la ra fa ta ua uh uo ma mh ml nf fo fh fs rs ic mn bh bo ya np pa nc cp 1 1 1 (fun z t => z = 1 ∧ t = 0) (s_Md_goes_111 th no ca ba nl xa sa da la ra fa ta ua uh uo ma mh ml nf fo fh fs rs ic mn bh bo ya np pa nc cp)) (nv_cwV (n := 3) hts wd_812 wd_814 sl_17 wd_10 wd_815 (by decide +kernel) ⟨Nat.le_of_ble_eq_true rfl, Nat.le_of_ble_eq_true rfl⟩) ⟨blW, va_recv hK hPc (ci := 8) (q0 := 0) rfl rfl, fun U hU hW => ⟨rfl, by rw [hU], by rw [hU]; exact hPc, va_K.moved hW.alike hK, hDc.weaken (fun _ _ _ _ => trivial)⟩⟩ rfl rfl hl.1 rfl (lv_room (Nat.le_of_ble_eq_true rfl)) d_Md_plan_39 ⟨Nat.le_of_ble_eq_true rfl, Nat.le_of_ble_eq_true rfl⟩) hS (fun q _ h => hFc q h) hFc (fun r u t H1 locs ht hvm hw hB hz1 hk1 hS => ?_)
          obtain ⟨hP1, hK1, hD1⟩ := hB
          rw [ht] at hP1
          obtain ⟨_, rfl, rfl, rfl⟩ := hw
          obtain ⟨hP, hD⟩ := va_join (wr := []) (w1 := (wMd cI cJ cZ h0 h1 h2 h3 h4 h5 h6 h7 h8 h9 h10 h11 h12 h13 h14 h15 h16 h17 h18 h19 h20 h21 h22 h23 0 no ca ba nl xa sa da la ra fa ta ua uh uo ma mh ml nf fo fh fs rs ic mn bh bo ya np pa nc cp)) hP hD [0, 1, 2, 3, 4, 5, 6, 7, 8, 9, 10, 11, 12, 13, 14, 15, 16, 17, 18, 19, 20, 21, 22, 23] [] rfl rfl (by decide) (by decide) hk1 hFc hP1 hD1
          generalize H1 = H at hP hS ⊢
          have hP : va_P D vwCl (wMd cI cJ cZ h0 h1 h2 h3 h4 h5 h6 h7 h8 h9 h10 h11 h12 h13 h14 h15 h16 h17 h18 h19 h20 h21 h22 h23 0 no ca ba nl xa sa da la ra fa ta ua uh uo ma mh ml nf fo fh fs rs ic mn bh bo ya np pa nc cp) H := hP
          have hD : va_D A (wMd cI cJ cZ h0 h1 h2 h3 h4 h5 h6 h7 h8 h9 h10 h11 h12 h13 h14 h15 h16 h17 h18 h19 h20 h21 h22 h23 0 no ca ba nl xa sa da la ra fa ta ua uh uo ma mh ml nf fo fh fs rs ic mn bh bo ya np pa nc cp) := hD
          refine W.widen (k := 0) (n := 0) (Nat.le_of_ble_eq_true rfl) (Nat.le_of_ble_eq_true rfl) ?_
          refine nv_if_ne (tgt := 47) hx hb d_Md_plan_42 (by decide) (by decide) (fun _ => ?_) (fun c13 => absurd c13 (by decide))
          refine lv_aload_n hx hb d_Md_plan_47 rfl (lv_at hl 0 rfl) ?_
          refine va_get (D := D) (ci := 8) (v := .ref h2) (C := "LightDosesModel") (T := T_Md) (N := 32) hx hb hts in_Md hown hK hP 0 rfl rfl 3 (by decide) (hts _ wd_706) (fun _ h9 => h9) rfl d_Md_plan_48 ?_
          refine lv_aload_n hx hb d_Md_plan_51 rfl (lv_at hl 0 rfl) ?_
          refine va_get (D := D) (ci := 8) (v := .ref h1) (C := "LightDosesModel") (T := T_Md) (N := 32) hx hb hts in_Md hown hK hP 0 rfl rfl 2 (by decide) (hts _ wd_705) (fun _ h9 => h9) rfl d_Md_plan_52 ?_
          refine lv_iload_n hx hb d_Md_plan_55 rfl (lv_at hl 1 rfl) ?_
          obtain ⟨k14, v⟩ := v
          refine nv_iald (f := ca) hx hb hK 0 (hP 1 _ rfl) rfl (ob).toNat (Int.toNat_of_nonneg k14.1).symm (by omega) (by decide) d_Md_plan_56 ?_
          obtain ⟨k15, v⟩ := v
          refine nv_iald (f := ba) hx hb hK 0 (hP 2 _ rfl) rfl (ca (ob).toNat).toNat (Int.toNat_of_nonneg k15.1).symm (by omega) (by decide) d_Md_plan_57 ?_
          refine nv_iconst (n := (-1)) hx hb d_Md_plan_58 ?_
          obtain ⟨k16, v⟩ := v
          refine nv_icmp_ne (tgt := 66) hx hb d_Md_plan_59 (by decide) k16 (by decide) (fun c17 => ?_) (fun c17 => ?_)
          · replace v := v.1 c17
            refine nv_iconst (n := 0) hx hb d_Md_plan_66 ?_
            refine lv_istore (lv' := [(4, .int (iI 0)), (0, .ref h0), (1, .int (iI ob)), (2, .int (iI from_)), (3, .int (iI to_))]) hx hb d_Md_plan_67 hl (by decide) rfl (fun ls hl => ?_)
            obtain ⟨I18, μ19, v73, v74⟩ := v
            have L75 : ∀ (N : Nat) (y_ : Int) (g1 : Nat → Int) (H : Heap) (locs : List Loc) (ls : Array Slot), μ19 y_ g1 < N → I18 y_ g1 → va_P D vwCl (wMd cI cJ cZ h0 h1 h2 h3 h4 h5 h6 h7 h8 h9 h10 h11 h12 h13 h14 h15 h16 h17 h18 h19 h20 h21 h22 h23 0 no ca ba nl xa sa da la ra fa ta ua uh uo ma mh ml nf fo fh fs rs ic mn bh bo g1 np pa nc cp) H → va_D A (wMd cI cJ cZ h0 h1 h2 h3 h4 h5 h6 h7 h8 h9 h10 h11 h12 h13 h14 h15 h16 h17 h18 h19 h20 h21 h22 h23 0 no ca ba nl xa sa da la ra fa ta ua uh uo ma mh ml nf fo fh fs rs ic mn bh bo g1 np pa nc cp) → va_S A s.heap H locs → lv_has ls 7 [(0, .ref h0), (1, .int (iI ob)), (2, .int (iI from_)), (3, .int (iI to_)), (4, .int (iI y_))] → W p l e (headSpec (.code ⟨"LightDosesModel", "plan", "(III)I"⟩ prog_10_method_27_code 7 (some .int) :: TG) { frames := 2, cells := 0, slots := 0, locals := 53 }).room s m ([Value.ref h0, Value.int (iI ob), Value.int (iI from_), Value.int (iI to_)] : List Value).toArray below meth c H locs 0 0 (MQ below (va_Qi (fun (r : Int32) (u : Int × (Nat → Int)) => ∃ z : Int, r = iI z ∧ post z u.1 u.2) (fun u t => va_P D vwCl (wMd cI cJ cZ h0 h1 h2 h3 h4 h5 h6 h7 h8 h9 h10 h11 h12 h13 h14 h15 h16 h17 h18 h19 h20 h21 h22 h23 u.1 no ca ba nl xa sa da la ra fa ta ua uh uo ma mh ml nf fo fh fs rs ic mn bh bo u.2 np pa nc cp) t.heap ∧ va_K D vwCl (tyx cI cJ cO cZ) t ∧ va_D A (wMd cI cJ cZ h0 h1 h2 h3 h4 h5 h6 h7 h8 h9 h10 h11 h12 h13 h14 h15 h16 h17 h18 h19 h20 h21 h22 h23 u.1 no ca ba nl xa sa da la ra fa ta ua uh uo ma mh ml nf fo fh fs rs ic mn bh bo u.2 np pa nc cp)) A) ([Value.ref h0, Value.int (iI ob), Value.int (iI from_), Value.int (iI to_)] : List Value).toArray s 0 0 A) (F0 m 69 ls []) := by
              intro N
              induction N with
              | zero => intro y_ g1 H locs ls hN; exact absurd hN (Nat.not_lt_zero _)
              | succ N ih20 =>
                intro y_ g1 H locs ls hN21 hI hP hD hS hl
                have v := v74 y_ g1 hI
                refine lv_iload hx hb d_Md_plan_69 (lv_at hl 4 rfl) ?_
                refine nv_iconst (n := 3) hx hb d_Md_plan_71 ?_
                obtain ⟨k22, v⟩ := v
                refine nv_icmp_ge (tgt := 149) hx hb d_Md_plan_72 (by decide) k22 (by decide) (fun c23 => ?_) (fun c23 => ?_)
                · replace v := v.1 c23
                  refine nv_iconst (n := 0) hx hb d_Md_plan_149 ?_
                  refine lv_istore (lv' := [(4, .int (iI 0)), (0, .ref h0), (1, .int (iI ob)), (2, .int (iI from_)), (3, .int (iI to_))]) hx hb d_Md_plan_150 hl (by decide) rfl (fun ls hl => ?_)
                  refine lv_iload_n hx hb d_Md_plan_152 rfl (lv_at hl 3 rfl) ?_
                  refine lv_istore (lv' := [(5, .int (iI from_)), (4, .int (iI 0)), (0, .ref h0), (1, .int (iI ob)), (2, .int (iI from_)), (3, .int (iI to_))]) hx hb d_Md_plan_153 hl (by decide) rfl (fun ls hl => ?_)
                  obtain ⟨I24, μ25, v57, v58⟩ := v
                  have L59 : ∀ (N : Nat) (n_ : Int) (h_ : Int) (g2 : Nat → Int) (H : Heap) (locs : List Loc) (ls : Array Slot), μ25 n_ h_ g2 < N → I24 n_ h_ g2 → va_P D vwCl (wMd cI cJ cZ h0 h1 h2 h3 h4 h5 h6 h7 h8 h9 h10 h11 h12 h13 h14 h15 h16 h17 h18 h19 h20 h21 h22 h23 0 no ca ba nl xa sa da la ra fa ta ua uh uo ma mh ml nf fo fh fs rs ic mn bh bo g2 np pa nc cp) H → va_D A (wMd cI cJ cZ h0 h1 h2 h3 h4 h5 h6 h7 h8 h9 h10 h11 h12 h13 h14 h15 h16 h17 h18 h19 h20 h21 h22 h23 0 no ca ba nl xa sa da la ra fa ta ua uh uo ma mh ml nf fo fh fs rs ic mn bh bo g2 np pa nc cp) → va_S A s.heap H locs → lv_has ls 7 [(0, .ref h0), (1, .int (iI ob)), (2, .int (iI from_)), (3, .int (iI to_)), (4, .int (iI n_)), (5, .int (iI h_))] → W p l e (headSpec (.code ⟨"LightDosesModel", "plan", "(III)I"⟩ prog_10_method_27_code 7 (some .int) :: TG) { frames := 2, cells := 0, slots := 0, locals := 53 }).room s m ([Value.ref h0, Value.int (iI ob), Value.int (iI from_), Value.int (iI to_)] : List Value).toArray below meth c H locs 0 0 (MQ below (va_Qi (fun (r : Int32) (u : Int × (Nat → Int)) => ∃ z : Int, r = iI z ∧ post z u.1 u.2) (fun u t => va_P D vwCl (wMd cI cJ cZ h0 h1 h2 h3 h4 h5 h6 h7 h8 h9 h10 h11 h12 h13 h14 h15 h16 h17 h18 h19 h20 h21 h22 h23 u.1 no ca ba nl xa sa da la ra fa ta ua uh uo ma mh ml nf fo fh fs rs ic mn bh bo u.2 np pa nc cp) t.heap ∧ va_K D vwCl (tyx cI cJ cO cZ) t ∧ va_D A (wMd cI cJ cZ h0 h1 h2 h3 h4 h5 h6 h7 h8 h9 h10 h11 h12 h13 h14 h15 h16 h17 h18 h19 h20 h21 h22 h23 u.1 no ca ba nl xa sa da la ra fa ta ua uh uo ma mh ml nf fo fh fs rs ic mn bh bo u.2 np pa nc cp)) A) ([Value.ref h0, Value.int (iI ob), Value.int (iI from_), Value.int (iI to_)] : List Value).toArray s 0 0 A) (F0 m 155 ls []) := by
                    intro N
                    induction N with
                    | zero => intro n_ h_ g2 H locs ls hN; exact absurd hN (Nat.not_lt_zero _)
                    | succ N ih26 =>
                      intro n_ h_ g2 H locs ls hN27 hI hP hD hS hl
                      have v := v58 n_ h_ g2 hI
                      refine lv_iload hx hb d_Md_plan_155 (lv_at hl 5 rfl) ?_
                      refine lv_iload_n hx hb d_Md_plan_157 rfl (lv_at hl 3 rfl) ?_
                      obtain ⟨k28, v⟩ := v
                      refine nv_icmp_ge (tgt := 239) hx hb d_Md_plan_158 (by decide) k28 k8 (fun c29 => ?_) (fun c29 => ?_)
                      · replace v := v.1 c29
                        refine lv_iload hx hb d_Md_plan_239 (lv_at hl 4 rfl) ?_
                        have hP9 := hP.sub (ws' := (wMd cI cJ cZ h0 h1 h2 h3 h4 h5 h6 h7 h8 h9 h10 h11 h12 h13 h14 h15 h16 h17 h18 h19 h20 h21 h22 h23 0 no ca ba nl xa sa da la ra fa ta ua uh uo ma mh ml nf fo fh fs rs ic mn bh bo g2 np pa nc cp)) [0, 1, 2, 3, 4, 5, 6, 7, 8, 9, 10, 11, 12, 13, 14, 15, 16, 17, 18, 19, 20, 21, 22, 23] rfl
                        have hD9 := hD.sub (ws' := (wMd cI cJ cZ h0 h1 h2 h3 h4 h5 h6 h7 h8 h9 h10 h11 h12 h13 h14 h15 h16 h17 h18 h19 h20 h21 h22 h23 0 no ca ba nl xa sa da la ra fa ta ua uh uo ma mh ml nf fo fh fs rs ic mn bh bo g2 np pa nc cp)) [0, 1, 2, 3, 4, 5, 6, 7, 8, 9, 10, 11, 12, 13, 14, 15, 16, 17, 18, 19, 20, 21, 22, 23] (by decide) rfl
                        exact W.iret hx hb hr (fun t ht hW => ⟨⟨_, ((0), (g2)), rfl, ⟨_, rfl, v⟩, by rw [ht]; exact hP9, va_K.moved hW.alike hK, hD9⟩, hS.F ht⟩) hS.2.2 d_Md_plan_241
                      · replace v := v.2 c29
                        refine lv_iload hx hb d_Md_plan_161 (lv_at hl 5 rfl) ?_
                        refine nv_sipush (z := 8760) hx hb d_Md_plan_163 (by decide) ?_
                        obtain ⟨k30, v⟩ := v
                        refine nv_idiv (z := h_ / 8760) hx hb d_Md_plan_166 k28 (by decide) k30 (by decide) rfl ?_
                        refine lv_istore (lv' := [(6, .int (iI (h_ / 8760))), (0, .ref h0), (1, .int (iI ob)), (2, .int (iI from_)), (3, .int (iI to_)), (4, .int (iI n_)), (5, .int (iI h_))]) hx hb d_Md_plan_167 hl (by decide) rfl (fun ls hl => ?_)
                        refine lv_aload_n hx hb d_Md_plan_169 rfl (lv_at hl 1 rfl) ?_
                        refine va_get (D := D) (ci := 8) (v := .ref h21) (C := "LightDosesModel") (T := T_Md) (N := 32) hx hb hts in_Md hown hK hP 0 rfl rfl 27 (by decide) (hts _ wd_730) (fun _ h9 => h9) rfl d_Md_plan_170 ?_
                        refine lv_iload hx hb d_Md_plan_173 (lv_at hl 0 rfl) ?_
                        refine lv_aload_n hx hb d_Md_plan_175 rfl (lv_at hl 1 rfl) ?_
                        refine lv_iload_n hx hb d_Md_plan_176 rfl (lv_at hl 2 rfl) ?_
                        refine lv_iload hx hb d_Md_plan_177 (lv_at hl 6 rfl) ?_
                        obtain ⟨P31, q33, v⟩ := v
                        refine vp_callSi (nv_runV (wc := (wMd cI cJ cZ h0 h1 h2 h3 h4 h5 h6 h7 h8 h9 h10 h11 h12 h13 h14 h15 h16 h17 h18 h19 h20 h21 h22 h23 0 no ca ba nl xa sa da la ra fa ta ua uh uo ma mh ml nf fo fh fs rs ic mn bh bo g2 np pa nc cp)) (As := [.int (iI ob), .int (iI h_)]) (rest := [.int (iI (h_ / 8760)), .ref h21]) ⟨hx, hb, hml, hown, hts⟩ (m_Md_isShown l D cI cJ cO cZ h0 h1 h2 h3 h4 h5 h6 h7 h8 h9 h10 h11 h12 h13 h14 h15 h16 h17 h18 h19 h20 h21 h22 h23 0 no ca ba nl xa sa da la ra fa ta ua uh uo ma mh ml nf fo fh fs rs ic mn bh bo g2 np pa nc cp ob h_ P31 q33) (nv_cwV (n := 2) hts wd_880 wd_882 sl_23 wd_10 wd_883 (by decide +kernel) ⟨Nat.le_of_ble_eq_true rfl, Nat.le_of_ble_eq_true rfl⟩) hK (hP.sub [0, 1, 2, 3, 4, 5, 6, 7, 8, 9, 10, 11, 12, 13, 14, 15, 16, 17, 18, 19, 20, 21, 22, 23] rfl) (va_recv hK hP (ci := 8) (q0 := 0) rfl rfl) rfl hl.1 rfl (Nat.le_of_ble_eq_true rfl) d_Md_plan_179 (Nat.le_of_ble_eq_true rfl) (Nat.le_of_ble_eq_true rfl)) (fun r hr => ?_)
                        obtain ⟨z32, rfl, hz⟩ := hr
                        replace v := v z32 hz
                        obtain ⟨k34, v⟩ := v
                        refine nv_if_eq (tgt := 195) hx hb d_Md_plan_182 (by decide) k34 (fun c35 => ?_) (fun c35 => ?_)
                        · replace v := v.1 c35
                          refine lv_aload_n hx hb d_Md_plan_195 rfl (lv_at hl 1 rfl) ?_
                          refine va_get (D := D) (ci := 8) (v := .ref h21) (C := "LightDosesModel") (T := T_Md) (N := 32) hx hb hts in_Md hown hK hP 0 rfl rfl 27 (by decide) (hts _ wd_730) (fun _ h9 => h9) rfl d_Md_plan_196 ?_
                          refine lv_iload hx hb d_Md_plan_199 (lv_at hl 0 rfl) ?_
                          obtain ⟨k36, v⟩ := v
                          refine nv_lald (f := g2) hx hb hK 1 (hP 21 _ rfl) rfl (h_ / 8760).toNat (Int.toNat_of_nonneg k36.1).symm (by omega) (by decide) d_Md_plan_201 ?_
                          refine lv_aload_n hx hb d_Md_plan_202 rfl (lv_at hl 1 rfl) ?_
                          refine lv_iload_n hx hb d_Md_plan_203 rfl (lv_at hl 2 rfl) ?_
                          refine lv_iload hx hb d_Md_plan_204 (lv_at hl 6 rfl) ?_
                          obtain ⟨P37, q39, v⟩ := v
                          refine vp_callSl (nv_runV (wc := (wMd cI cJ cZ h0 h1 h2 h3 h4 h5 h6 h7 h8 h9 h10 h11 h12 h13 h14 h15 h16 h17 h18 h19 h20 h21 h22 h23 0 no ca ba nl xa sa da la ra fa ta ua uh uo ma mh ml nf fo fh fs rs ic mn bh bo g2 np pa nc cp)) (As := [.int (iI ob), .int (iI h_)]) (rest := [.long (lI (g2 (h_ / 8760).toNat)), .int (iI (h_ / 8760)), .ref h21]) ⟨hx, hb, hml, hown, hts⟩ (m_Md_bright l D cI cJ cO cZ h0 h1 h2 h3 h4 h5 h6 h7 h8 h9 h10 h11 h12 h13 h14 h15 h16 h17 h18 h19 h20 h21 h22 h23 0 no ca ba nl xa sa da la ra fa ta ua uh uo ma mh ml nf fo fh fs rs ic mn bh bo g2 np pa nc cp ob h_ P37 q39) (nv_cwV (n := 2) hts wd_884 wd_886 sl_24 wd_10 wd_887 (by decide +kernel) ⟨Nat.le_of_ble_eq_true rfl, Nat.le_of_ble_eq_true rfl⟩) hK (hP.sub [0, 1, 2, 3, 4, 5, 6, 7, 8, 9, 10, 11, 12, 13, 14, 15, 16, 17, 18, 19, 20, 21, 22, 23] rfl) (va_recv hK hP (ci := 8) (q0 := 0) rfl rfl) rfl hl.1 rfl (Nat.le_of_ble_eq_true rfl) d_Md_plan_206 (Nat.le_of_ble_eq_true rfl) (Nat.le_of_ble_eq_true rfl)) (fun r hr => ?_)
                          obtain ⟨z38, rfl, hz⟩ := hr
                          replace v := v z38 hz
                          refine nv_ladd (z := g2 (h_ / 8760).toNat + z38) hx hb d_Md_plan_209 (by first | rfl | omega) ?_
                          obtain ⟨k40, v⟩ := v
                          refine nv_last (f := g2) hx hb hK hP hD hS 21 1 rfl rfl (h_ / 8760).toNat (Int.toNat_of_nonneg k40.1).symm (by omega) (by decide) d_Md_plan_210 (fun H locs hP hD hS => ?_)
                          have hP : va_P D vwCl (wMd cI cJ cZ h0 h1 h2 h3 h4 h5 h6 h7 h8 h9 h10 h11 h12 h13 h14 h15 h16 h17 h18 h19 h20 h21 h22 h23 0 no ca ba nl xa sa da la ra fa ta ua uh uo ma mh ml nf fo fh fs rs ic mn bh bo (va_up g2 (h_ / 8760).toNat (g2 (h_ / 8760).toNat + z38)) np pa nc cp) H := hP
                          have hD : va_D A (wMd cI cJ cZ h0 h1 h2 h3 h4 h5 h6 h7 h8 h9 h10 h11 h12 h13 h14 h15 h16 h17 h18 h19 h20 h21 h22 h23 0 no ca ba nl xa sa da la ra fa ta ua uh uo ma mh ml nf fo fh fs rs ic mn bh bo (va_up g2 (h_ / 8760).toNat (g2 (h_ / 8760).toNat + z38)) np pa nc cp) := hD
                          refine lv_aload_n hx hb d_Md_plan_211 rfl (lv_at hl 1 rfl) ?_
                          refine va_get (D := D) (ci := 8) (v := .ref h21) (C := "LightDosesModel") (T := T_Md) (N := 32) hx hb hts in_Md hown hK hP 0 rfl rfl 27 (by decide) (hts _ wd_730) (fun _ h9 => h9) rfl d_Md_plan_212 ?_
                          refine lv_iload hx hb d_Md_plan_215 (lv_at hl 0 rfl) ?_
                          obtain ⟨k41, v⟩ := v
                          refine nv_lald (f := va_up g2 (h_ / 8760).toNat (g2 (h_ / 8760).toNat + z38)) hx hb hK 1 (hP 21 _ rfl) rfl (h_ / 8760).toNat (Int.toNat_of_nonneg k41.1).symm (by omega) (by decide) d_Md_plan_217 ?_
                          refine lv_aload_n hx hb d_Md_plan_218 rfl (lv_at hl 1 rfl) ?_
                          refine lv_iload_n hx hb d_Md_plan_219 rfl (lv_at hl 2 rfl) ?_
                          obtain ⟨P42, q44, v⟩ := v
                          refine vp_callSl (nv_runV (wc := (wMd cI cJ cZ h0 h1 h2 h3 h4 h5 h6 h7 h8 h9 h10 h11 h12 h13 h14 h15 h16 h17 h18 h19 h20 h21 h22 h23 0 no ca ba nl xa sa da la ra fa ta ua uh uo ma mh ml nf fo fh fs rs ic mn bh bo (va_up g2 (h_ / 8760).toNat (g2 (h_ / 8760).toNat + z38)) np pa nc cp)) (As := [.int (iI ob)]) (rest := [.long (lI ((va_up g2 (h_ / 8760).toNat (g2 (h_ / 8760).toNat + z38)) (h_ / 8760).toNat))]) ⟨hx, hb, hml, hown, hts⟩ (m_Md_bound l D cI cJ cO cZ h0 h1 h2 h3 h4 h5 h6 h7 h8 h9 h10 h11 h12 h13 h14 h15 h16 h17 h18 h19 h20 h21 h22 h23 0 no ca ba nl xa sa da la ra fa ta ua uh uo ma mh ml nf fo fh fs rs ic mn bh bo (va_up g2 (h_ / 8760).toNat (g2 (h_ / 8760).toNat + z38)) np pa nc cp ob P42 q44) (nv_cwV (n := 1) hts wd_899 wd_901 sl_25 wd_10 wd_902 (by decide +kernel) ⟨Nat.le_of_ble_eq_true rfl, Nat.le_of_ble_eq_true rfl⟩) hK (hP.sub [0, 1, 2, 3, 4, 5, 6, 7, 8, 9, 10, 11, 12, 13, 14, 15, 16, 17, 18, 19, 20, 21, 22, 23] rfl) (va_recv hK hP (ci := 8) (q0 := 0) rfl rfl) rfl hl.1 rfl (Nat.le_of_ble_eq_true rfl) d_Md_plan_220 (Nat.le_of_ble_eq_true rfl) (Nat.le_of_ble_eq_true rfl)) (fun r hr => ?_)
                          obtain ⟨z43, rfl, hz⟩ := hr
                          replace v := v z43 hz
                          obtain ⟨k45, v⟩ := v
                          obtain ⟨k46, v⟩ := v
                          refine nv_lcmp_le (tgt := 230) hx hb d_Md_plan_223 d_Md_plan_224 (by decide) k45 k46 (fun c47 => ?_) (fun c47 => ?_)
                          · replace v := v.1 c47
                            refine nv_iinc (k := 5) (z := n_ + 1) (lv' := [(4, .int (iI (n_ + 1))), (6, .int (iI (h_ / 8760))), (0, .ref h0), (1, .int (iI ob)), (2, .int (iI from_)), (3, .int (iI to_)), (5, .int (iI h_))]) hx hb d_Md_plan_230 hl rfl (by omega) (by decide) rfl (fun ls hl => ?_)
                            refine nv_iinc (k := 6) (z := h_ + 1) (lv' := [(5, .int (iI (h_ + 1))), (4, .int (iI (n_ + 1))), (6, .int (iI (h_ / 8760))), (0, .ref h0), (1, .int (iI ob)), (2, .int (iI from_)), (3, .int (iI to_))]) hx hb d_Md_plan_233 hl rfl (by omega) (by decide) rfl (fun ls hl => ?_)
                            refine lv_goto (tgt := 155) hx hb d_Md_plan_236 (by decide) ?_
                            exact ih26 (n_ + 1) (h_ + 1) (va_up g2 (h_ / 8760).toNat (g2 (h_ / 8760).toNat + z38)) H locs ls (Nat.lt_of_lt_of_le v.2 (Nat.le_of_lt_succ hN27)) v.1 hP hD hS (lv_sub hl [3, 4, 5, 6, 1, 0] rfl)
                          · replace v := v.2 c47
                            refine lv_iload hx hb d_Md_plan_227 (lv_at hl 5 rfl) ?_
                            have hP9 := hP.sub (ws' := (wMd cI cJ cZ h0 h1 h2 h3 h4 h5 h6 h7 h8 h9 h10 h11 h12 h13 h14 h15 h16 h17 h18 h19 h20 h21 h22 h23 0 no ca ba nl xa sa da la ra fa ta ua uh uo ma mh ml nf fo fh fs rs ic mn bh bo (va_up g2 (h_ / 8760).toNat (g2 (h_ / 8760).toNat + z38)) np pa nc cp)) [0, 1, 2, 3, 4, 5, 6, 7, 8, 9, 10, 11, 12, 13, 14, 15, 16, 17, 18, 19, 20, 21, 22, 23] rfl
                            have hD9 := hD.sub (ws' := (wMd cI cJ cZ h0 h1 h2 h3 h4 h5 h6 h7 h8 h9 h10 h11 h12 h13 h14 h15 h16 h17 h18 h19 h20 h21 h22 h23 0 no ca ba nl xa sa da la ra fa ta ua uh uo ma mh ml nf fo fh fs rs ic mn bh bo (va_up g2 (h_ / 8760).toNat (g2 (h_ / 8760).toNat + z38)) np pa nc cp)) [0, 1, 2, 3, 4, 5, 6, 7, 8, 9, 10, 11, 12, 13, 14, 15, 16, 17, 18, 19, 20, 21, 22, 23] (by decide) rfl
                            exact W.iret hx hb hr (fun t ht hW => ⟨⟨_, ((0), (va_up g2 (h_ / 8760).toNat (g2 (h_ / 8760).toNat + z38))), rfl, ⟨_, rfl, v⟩, by rw [ht]; exact hP9, va_K.moved hW.alike hK, hD9⟩, hS.F ht⟩) hS.2.2 d_Md_plan_229
                        · replace v := v.2 c35
                          refine lv_aload_n hx hb d_Md_plan_185 rfl (lv_at hl 1 rfl) ?_
                          refine va_get (D := D) (ci := 8) (v := .ref h21) (C := "LightDosesModel") (T := T_Md) (N := 32) hx hb hts in_Md hown hK hP 0 rfl rfl 27 (by decide) (hts _ wd_730) (fun _ h9 => h9) rfl d_Md_plan_186 ?_
                          refine lv_iload hx hb d_Md_plan_189 (lv_at hl 0 rfl) ?_
                          obtain ⟨k48, v⟩ := v
                          refine nv_lald (f := g2) hx hb hK 1 (hP 21 _ rfl) rfl (h_ / 8760).toNat (Int.toNat_of_nonneg k48.1).symm (by omega) (by decide) d_Md_plan_191 ?_
                          refine lv_goto (tgt := 210) hx hb d_Md_plan_192 (by decide) ?_
                          obtain ⟨k49, v⟩ := v
                          refine nv_last (f := g2) hx hb hK hP hD hS 21 1 rfl rfl (h_ / 8760).toNat (Int.toNat_of_nonneg k49.1).symm (by omega) (by decide) d_Md_plan_210 (fun H locs hP hD hS => ?_)
                          have hP : va_P D vwCl (wMd cI cJ cZ h0 h1 h2 h3 h4 h5 h6 h7 h8 h9 h10 h11 h12 h13 h14 h15 h16 h17 h18 h19 h20 h21 h22 h23 0 no ca ba nl xa sa da la ra fa ta ua uh uo ma mh ml nf fo fh fs rs ic mn bh bo (va_up g2 (h_ / 8760).toNat (g2 (h_ / 8760).toNat)) np pa nc cp) H := hP
                          have hD : va_D A (wMd cI cJ cZ h0 h1 h2 h3 h4 h5 h6 h7 h8 h9 h10 h11 h12 h13 h14 h15 h16 h17 h18 h19 h20 h21 h22 h23 0 no ca ba nl xa sa da la ra fa ta ua uh uo ma mh ml nf fo fh fs rs ic mn bh bo (va_up g2 (h_ / 8760).toNat (g2 (h_ / 8760).toNat)) np pa nc cp) := hD
                          refine lv_aload_n hx hb d_Md_plan_211 rfl (lv_at hl 1 rfl) ?_
                          refine va_get (D := D) (ci := 8) (v := .ref h21) (C := "LightDosesModel") (T := T_Md) (N := 32) hx hb hts in_Md hown hK hP 0 rfl rfl 27 (by decide) (hts _ wd_730) (fun _ h9 => h9) rfl d_Md_plan_212 ?_
                          refine lv_iload hx hb d_Md_plan_215 (lv_at hl 0 rfl) ?_
                          obtain ⟨k50, v⟩ := v
                          refine nv_lald (f := va_up g2 (h_ / 8760).toNat (g2 (h_ / 8760).toNat)) hx hb hK 1 (hP 21 _ rfl) rfl (h_ / 8760).toNat (Int.toNat_of_nonneg k50.1).symm (by omega) (by decide) d_Md_plan_217 ?_
                          refine lv_aload_n hx hb d_Md_plan_218 rfl (lv_at hl 1 rfl) ?_
                          refine lv_iload_n hx hb d_Md_plan_219 rfl (lv_at hl 2 rfl) ?_
                          obtain ⟨P51, q53, v⟩ := v
                          refine vp_callSl (nv_runV (wc := (wMd cI cJ cZ h0 h1 h2 h3 h4 h5 h6 h7 h8 h9 h10 h11 h12 h13 h14 h15 h16 h17 h18 h19 h20 h21 h22 h23 0 no ca ba nl xa sa da la ra fa ta ua uh uo ma mh ml nf fo fh fs rs ic mn bh bo (va_up g2 (h_ / 8760).toNat (g2 (h_ / 8760).toNat)) np pa nc cp)) (As := [.int (iI ob)]) (rest := [.long (lI ((va_up g2 (h_ / 8760).toNat (g2 (h_ / 8760).toNat)) (h_ / 8760).toNat))]) ⟨hx, hb, hml, hown, hts⟩ (m_Md_bound l D cI cJ cO cZ h0 h1 h2 h3 h4 h5 h6 h7 h8 h9 h10 h11 h12 h13 h14 h15 h16 h17 h18 h19 h20 h21 h22 h23 0 no ca ba nl xa sa da la ra fa ta ua uh uo ma mh ml nf fo fh fs rs ic mn bh bo (va_up g2 (h_ / 8760).toNat (g2 (h_ / 8760).toNat)) np pa nc cp ob P51 q53) (nv_cwV (n := 1) hts wd_899 wd_901 sl_25 wd_10 wd_902 (by decide +kernel) ⟨Nat.le_of_ble_eq_true rfl, Nat.le_of_ble_eq_true rfl⟩) hK (hP.sub [0, 1, 2, 3, 4, 5, 6, 7, 8, 9, 10, 11, 12, 13, 14, 15, 16, 17, 18, 19, 20, 21, 22, 23] rfl) (va_recv hK hP (ci := 8) (q0 := 0) rfl rfl) rfl hl.1 rfl (Nat.le_of_ble_eq_true rfl) d_Md_plan_220 (Nat.le_of_ble_eq_true rfl) (Nat.le_of_ble_eq_true rfl)) (fun r hr => ?_)
                          obtain ⟨z52, rfl, hz⟩ := hr
                          replace v := v z52 hz
                          obtain ⟨k54, v⟩ := v
                          obtain ⟨k55, v⟩ := v
                          refine nv_lcmp_le (tgt := 230) hx hb d_Md_plan_223 d_Md_plan_224 (by decide) k54 k55 (fun c56 => ?_) (fun c56 => ?_)
                          · replace v := v.1 c56
                            refine nv_iinc (k := 5) (z := n_ + 1) (lv' := [(4, .int (iI (n_ + 1))), (6, .int (iI (h_ / 8760))), (0, .ref h0), (1, .int (iI ob)), (2, .int (iI from_)), (3, .int (iI to_)), (5, .int (iI h_))]) hx hb d_Md_plan_230 hl rfl (by omega) (by decide) rfl (fun ls hl => ?_)
                            refine nv_iinc (k := 6) (z := h_ + 1) (lv' := [(5, .int (iI (h_ + 1))), (4, .int (iI (n_ + 1))), (6, .int (iI (h_ / 8760))), (0, .ref h0), (1, .int (iI ob)), (2, .int (iI from_)), (3, .int (iI to_))]) hx hb d_Md_plan_233 hl rfl (by omega) (by decide) rfl (fun ls hl => ?_)
                            refine lv_goto (tgt := 155) hx hb d_Md_plan_236 (by decide) ?_
                            exact ih26 (n_ + 1) (h_ + 1) (va_up g2 (h_ / 8760).toNat (g2 (h_ / 8760).toNat)) H locs ls (Nat.lt_of_lt_of_le v.2 (Nat.le_of_lt_succ hN27)) v.1 hP hD hS (lv_sub hl [3, 4, 5, 6, 1, 0] rfl)
                          · replace v := v.2 c56
                            refine lv_iload hx hb d_Md_plan_227 (lv_at hl 5 rfl) ?_
                            have hP9 := hP.sub (ws' := (wMd cI cJ cZ h0 h1 h2 h3 h4 h5 h6 h7 h8 h9 h10 h11 h12 h13 h14 h15 h16 h17 h18 h19 h20 h21 h22 h23 0 no ca ba nl xa sa da la ra fa ta ua uh uo ma mh ml nf fo fh fs rs ic mn bh bo (va_up g2 (h_ / 8760).toNat (g2 (h_ / 8760).toNat)) np pa nc cp)) [0, 1, 2, 3, 4, 5, 6, 7, 8, 9, 10, 11, 12, 13, 14, 15, 16, 17, 18, 19, 20, 21, 22, 23] rfl
                            have hD9 := hD.sub (ws' := (wMd cI cJ cZ h0 h1 h2 h3 h4 h5 h6 h7 h8 h9 h10 h11 h12 h13 h14 h15 h16 h17 h18 h19 h20 h21 h22 h23 0 no ca ba nl xa sa da la ra fa ta ua uh uo ma mh ml nf fo fh fs rs ic mn bh bo (va_up g2 (h_ / 8760).toNat (g2 (h_ / 8760).toNat)) np pa nc cp)) [0, 1, 2, 3, 4, 5, 6, 7, 8, 9, 10, 11, 12, 13, 14, 15, 16, 17, 18, 19, 20, 21, 22, 23] (by decide) rfl
                            exact W.iret hx hb hr (fun t ht hW => ⟨⟨_, ((0), (va_up g2 (h_ / 8760).toNat (g2 (h_ / 8760).toNat))), rfl, ⟨_, rfl, v⟩, by rw [ht]; exact hP9, va_K.moved hW.alike hK, hD9⟩, hS.F ht⟩) hS.2.2 d_Md_plan_229
                  exact L59 _ 0 from_ g1 H locs ls (Nat.lt_succ_self _) v57 hP hD hS (lv_sub hl [2, 3, 4, 5, 1, 0] rfl)
                · replace v := v.2 c23
                  refine nv_sipush (z := 8760) hx hb d_Md_plan_75 (by decide) ?_
                  refine lv_iload hx hb d_Md_plan_78 (lv_at hl 4 rfl) ?_
                  refine nv_imul (z := 8760 * y_) hx hb d_Md_plan_80 (by first | rfl | omega) ?_
                  refine lv_iload_n hx hb d_Md_plan_81 rfl (lv_at hl 3 rfl) ?_
                  obtain ⟨k60, v⟩ := v
                  refine nv_icmp_ge (tgt := 103) hx hb d_Md_plan_82 (by decide) k60 k8 (fun c61 => ?_) (fun c61 => ?_)
                  · replace v := v.1 c61
                    refine nv_iconst (n := 0) hx hb d_Md_plan_103 ?_
                    refine lv_istore (lv' := [(5, .int (iI 0)), (0, .ref h0), (1, .int (iI ob)), (2, .int (iI from_)), (3, .int (iI to_)), (4, .int (iI y_))]) hx hb d_Md_plan_104 hl (by decide) rfl (fun ls hl => ?_)
                    refine lv_aload_n hx hb d_Md_plan_106 rfl (lv_at hl 1 rfl) ?_
                    refine va_get (D := D) (ci := 8) (v := .ref h21) (C := "LightDosesModel") (T := T_Md) (N := 32) hx hb hts in_Md hown hK hP 0 rfl rfl 27 (by decide) (hts _ wd_730) (fun _ h9 => h9) rfl d_Md_plan_107 ?_
                    refine lv_iload hx hb d_Md_plan_110 (lv_at hl 5 rfl) ?_
                    refine lv_iload hx hb d_Md_plan_112 (lv_at hl 0 rfl) ?_
                    refine nv_if_eq (tgt := 141) hx hb d_Md_plan_114 (by decide) (by decide) (fun _ => ?_) (fun c62 => absurd c62 (by decide))
                    refine lv_lconst (v := lI 0) hx hb d_Md_plan_141 (by decide) ?_
                    obtain ⟨k63, v⟩ := v
                    refine nv_last (f := g1) hx hb hK hP hD hS 21 1 rfl rfl (y_).toNat (Int.toNat_of_nonneg k63.1).symm (by omega) (by decide) d_Md_plan_142 (fun H locs hP hD hS => ?_)
                    have hP : va_P D vwCl (wMd cI cJ cZ h0 h1 h2 h3 h4 h5 h6 h7 h8 h9 h10 h11 h12 h13 h14 h15 h16 h17 h18 h19 h20 h21 h22 h23 0 no ca ba nl xa sa da la ra fa ta ua uh uo ma mh ml nf fo fh fs rs ic mn bh bo (va_up g1 (y_).toNat 0) np pa nc cp) H := hP
                    have hD : va_D A (wMd cI cJ cZ h0 h1 h2 h3 h4 h5 h6 h7 h8 h9 h10 h11 h12 h13 h14 h15 h16 h17 h18 h19 h20 h21 h22 h23 0 no ca ba nl xa sa da la ra fa ta ua uh uo ma mh ml nf fo fh fs rs ic mn bh bo (va_up g1 (y_).toNat 0) np pa nc cp) := hD
                    refine nv_iinc (k := 5) (z := y_ + 1) (lv' := [(4, .int (iI (y_ + 1))), (5, .int (iI 0)), (0, .ref h0), (1, .int (iI ob)), (2, .int (iI from_)), (3, .int (iI to_))]) hx hb d_Md_plan_143 hl rfl (by omega) (by decide) rfl (fun ls hl => ?_)
                    refine lv_goto (tgt := 69) hx hb d_Md_plan_146 (by decide) ?_
                    exact ih20 (y_ + 1) (va_up g1 (y_).toNat 0) H locs ls (Nat.lt_of_lt_of_le v.2 (Nat.le_of_lt_succ hN21)) v.1 hP hD hS (lv_sub hl [2, 3, 4, 5, 0] rfl)
                  · replace v := v.2 c61
                    refine nv_sipush (z := 8760) hx hb d_Md_plan_85 (by decide) ?_
                    refine lv_iload hx hb d_Md_plan_88 (lv_at hl 4 rfl) ?_
                    refine nv_imul (z := 8760 * y_) hx hb d_Md_plan_90 (by first | rfl | omega) ?_
                    refine nv_sipush (z := 8760) hx hb d_Md_plan_91 (by decide) ?_
                    refine nv_iadd (z := 8760 * y_ + 8760) hx hb d_Md_plan_94 (by first | rfl | omega) ?_
                    refine lv_iload_n hx hb d_Md_plan_95 rfl (lv_at hl 2 rfl) ?_
                    obtain ⟨k64, v⟩ := v
                    refine nv_icmp_le (tgt := 103) hx hb d_Md_plan_96 (by decide) k64 k5 (fun c65 => ?_) (fun c65 => ?_)
                    · replace v := v.1 c65
                      refine nv_iconst (n := 0) hx hb d_Md_plan_103 ?_
                      refine lv_istore (lv' := [(5, .int (iI 0)), (0, .ref h0), (1, .int (iI ob)), (2, .int (iI from_)), (3, .int (iI to_)), (4, .int (iI y_))]) hx hb d_Md_plan_104 hl (by decide) rfl (fun ls hl => ?_)
                      refine lv_aload_n hx hb d_Md_plan_106 rfl (lv_at hl 1 rfl) ?_
                      refine va_get (D := D) (ci := 8) (v := .ref h21) (C := "LightDosesModel") (T := T_Md) (N := 32) hx hb hts in_Md hown hK hP 0 rfl rfl 27 (by decide) (hts _ wd_730) (fun _ h9 => h9) rfl d_Md_plan_107 ?_
                      refine lv_iload hx hb d_Md_plan_110 (lv_at hl 5 rfl) ?_
                      refine lv_iload hx hb d_Md_plan_112 (lv_at hl 0 rfl) ?_
                      refine nv_if_eq (tgt := 141) hx hb d_Md_plan_114 (by decide) (by decide) (fun _ => ?_) (fun c66 => absurd c66 (by decide))
                      refine lv_lconst (v := lI 0) hx hb d_Md_plan_141 (by decide) ?_
                      obtain ⟨k67, v⟩ := v
                      refine nv_last (f := g1) hx hb hK hP hD hS 21 1 rfl rfl (y_).toNat (Int.toNat_of_nonneg k67.1).symm (by omega) (by decide) d_Md_plan_142 (fun H locs hP hD hS => ?_)
                      have hP : va_P D vwCl (wMd cI cJ cZ h0 h1 h2 h3 h4 h5 h6 h7 h8 h9 h10 h11 h12 h13 h14 h15 h16 h17 h18 h19 h20 h21 h22 h23 0 no ca ba nl xa sa da la ra fa ta ua uh uo ma mh ml nf fo fh fs rs ic mn bh bo (va_up g1 (y_).toNat 0) np pa nc cp) H := hP
                      have hD : va_D A (wMd cI cJ cZ h0 h1 h2 h3 h4 h5 h6 h7 h8 h9 h10 h11 h12 h13 h14 h15 h16 h17 h18 h19 h20 h21 h22 h23 0 no ca ba nl xa sa da la ra fa ta ua uh uo ma mh ml nf fo fh fs rs ic mn bh bo (va_up g1 (y_).toNat 0) np pa nc cp) := hD
                      refine nv_iinc (k := 5) (z := y_ + 1) (lv' := [(4, .int (iI (y_ + 1))), (5, .int (iI 0)), (0, .ref h0), (1, .int (iI ob)), (2, .int (iI from_)), (3, .int (iI to_))]) hx hb d_Md_plan_143 hl rfl (by omega) (by decide) rfl (fun ls hl => ?_)
                      refine lv_goto (tgt := 69) hx hb d_Md_plan_146 (by decide) ?_
                      exact ih20 (y_ + 1) (va_up g1 (y_).toNat 0) H locs ls (Nat.lt_of_lt_of_le v.2 (Nat.le_of_lt_succ hN21)) v.1 hP hD hS (lv_sub hl [2, 3, 4, 5, 0] rfl)
                    · replace v := v.2 c65
                      refine nv_iconst (n := 1) hx hb d_Md_plan_99 ?_
                      refine lv_goto (tgt := 104) hx hb d_Md_plan_100 (by decide) ?_
                      refine lv_istore (lv' := [(5, .int (iI 1)), (0, .ref h0), (1, .int (iI ob)), (2, .int (iI from_)), (3, .int (iI to_)), (4, .int (iI y_))]) hx hb d_Md_plan_104 hl (by decide) rfl (fun ls hl => ?_)
                      refine lv_aload_n hx hb d_Md_plan_106 rfl (lv_at hl 1 rfl) ?_
                      refine va_get (D := D) (ci := 8) (v := .ref h21) (C := "LightDosesModel") (T := T_Md) (N := 32) hx hb hts in_Md hown hK hP 0 rfl rfl 27 (by decide) (hts _ wd_730) (fun _ h9 => h9) rfl d_Md_plan_107 ?_
                      refine lv_iload hx hb d_Md_plan_110 (lv_at hl 5 rfl) ?_
                      refine lv_iload hx hb d_Md_plan_112 (lv_at hl 0 rfl) ?_
                      refine nv_if_eq (tgt := 141) hx hb d_Md_plan_114 (by decide) (by decide) (fun c68 => absurd c68 (by decide)) (fun _ => ?_)
                      refine lv_aload_n hx hb d_Md_plan_117 rfl (lv_at hl 1 rfl) ?_
                      refine lv_iload_n hx hb d_Md_plan_118 rfl (lv_at hl 2 rfl) ?_
                      refine nv_sipush (z := 8760) hx hb d_Md_plan_119 (by decide) ?_
                      refine lv_iload hx hb d_Md_plan_122 (lv_at hl 5 rfl) ?_
                      refine nv_imul (z := 8760 * y_) hx hb d_Md_plan_124 (by first | rfl | omega) ?_
                      refine nv_sipush (z := 8760) hx hb d_Md_plan_125 (by decide) ?_
                      refine lv_iload hx hb d_Md_plan_128 (lv_at hl 5 rfl) ?_
                      refine nv_imul (z := 8760 * y_) hx hb d_Md_plan_130 (by first | rfl | omega) ?_
                      refine nv_sipush (z := 8760) hx hb d_Md_plan_131 (by decide) ?_
                      refine nv_iadd (z := 8760 * y_ + 8760) hx hb d_Md_plan_134 (by first | rfl | omega) ?_
                      obtain ⟨P69, q71, v⟩ := v
                      refine vp_callSl (nv_runV (wc := (wMd cI cJ cZ h0 h1 h2 h3 h4 h5 h6 h7 h8 h9 h10 h11 h12 h13 h14 h15 h16 h17 h18 h19 h20 h21 h22 h23 0 no ca ba nl xa sa da la ra fa ta ua uh uo ma mh ml nf fo fh fs rs ic mn bh bo g1 np pa nc cp)) (As := [.int (iI ob), .int (iI (8760 * y_)), .int (iI (8760 * y_ + 8760))]) (rest := [.int (iI y_), .ref h21]) ⟨hx, hb, hml, hown, hts⟩ (m_Md_parts l D cI cJ cO cZ h0 h1 h2 h3 h4 h5 h6 h7 h8 h9 h10 h11 h12 h13 h14 h15 h16 h17 h18 h19 h20 h21 h22 h23 0 no ca ba nl xa sa da la ra fa ta ua uh uo ma mh ml nf fo fh fs rs ic mn bh bo g1 np pa nc cp ob (8760 * y_) (8760 * y_ + 8760) P69 q71) (nv_cwV (n := 3) hts wd_871 wd_873 sl_21 wd_10 wd_874 (by decide +kernel) ⟨Nat.le_of_ble_eq_true rfl, Nat.le_of_ble_eq_true rfl⟩) hK (hP.sub [0, 1, 2, 3, 4, 5, 6, 7, 8, 9, 10, 11, 12, 13, 14, 15, 16, 17, 18, 19, 20, 21, 22, 23] rfl) (va_recv hK hP (ci := 8) (q0 := 0) rfl rfl) rfl hl.1 rfl (Nat.le_of_ble_eq_true rfl) d_Md_plan_135 (Nat.le_of_ble_eq_true rfl) (Nat.le_of_ble_eq_true rfl)) (fun r hr => ?_)
                      obtain ⟨z70, rfl, hz⟩ := hr
                      replace v := v z70 hz
                      refine lv_goto (tgt := 142) hx hb d_Md_plan_138 (by decide) ?_
                      obtain ⟨k72, v⟩ := v
                      refine nv_last (f := g1) hx hb hK hP hD hS 21 1 rfl rfl (y_).toNat (Int.toNat_of_nonneg k72.1).symm (by omega) (by decide) d_Md_plan_142 (fun H locs hP hD hS => ?_)
                      have hP : va_P D vwCl (wMd cI cJ cZ h0 h1 h2 h3 h4 h5 h6 h7 h8 h9 h10 h11 h12 h13 h14 h15 h16 h17 h18 h19 h20 h21 h22 h23 0 no ca ba nl xa sa da la ra fa ta ua uh uo ma mh ml nf fo fh fs rs ic mn bh bo (va_up g1 (y_).toNat z70) np pa nc cp) H := hP
                      have hD : va_D A (wMd cI cJ cZ h0 h1 h2 h3 h4 h5 h6 h7 h8 h9 h10 h11 h12 h13 h14 h15 h16 h17 h18 h19 h20 h21 h22 h23 0 no ca ba nl xa sa da la ra fa ta ua uh uo ma mh ml nf fo fh fs rs ic mn bh bo (va_up g1 (y_).toNat z70) np pa nc cp) := hD
                      refine nv_iinc (k := 5) (z := y_ + 1) (lv' := [(4, .int (iI (y_ + 1))), (5, .int (iI 1)), (0, .ref h0), (1, .int (iI ob)), (2, .int (iI from_)), (3, .int (iI to_))]) hx hb d_Md_plan_143 hl rfl (by omega) (by decide) rfl (fun ls hl => ?_)
                      refine lv_goto (tgt := 69) hx hb d_Md_plan_146 (by decide) ?_
                      exact ih20 (y_ + 1) (va_up g1 (y_).toNat z70) H locs ls (Nat.lt_of_lt_of_le v.2 (Nat.le_of_lt_succ hN21)) v.1 hP hD hS (lv_sub hl [2, 3, 4, 5, 0] rfl)
            exact L75 _ 0 ya H locs ls (Nat.lt_succ_self _) v73 hP hD hS (lv_sub hl [1, 2, 3, 4, 0] rfl)
          · replace v := v.2 c17
            refine lv_iload_n hx hb d_Md_plan_62 rfl (lv_at hl 3 rfl) ?_
            refine lv_iload_n hx hb d_Md_plan_63 rfl (lv_at hl 2 rfl) ?_
            refine nv_isub (z := to_ - from_) hx hb d_Md_plan_64 (by first | rfl | omega) ?_
            have hP9 := hP.sub (ws' := (wMd cI cJ cZ h0 h1 h2 h3 h4 h5 h6 h7 h8 h9 h10 h11 h12 h13 h14 h15 h16 h17 h18 h19 h20 h21 h22 h23 0 no ca ba nl xa sa da la ra fa ta ua uh uo ma mh ml nf fo fh fs rs ic mn bh bo ya np pa nc cp)) [0, 1, 2, 3, 4, 5, 6, 7, 8, 9, 10, 11, 12, 13, 14, 15, 16, 17, 18, 19, 20, 21, 22, 23] rfl
            have hD9 := hD.sub (ws' := (wMd cI cJ cZ h0 h1 h2 h3 h4 h5 h6 h7 h8 h9 h10 h11 h12 h13 h14 h15 h16 h17 h18 h19 h20 h21 h22 h23 0 no ca ba nl xa sa da la ra fa ta ua uh uo ma mh ml nf fo fh fs rs ic mn bh bo ya np pa nc cp)) [0, 1, 2, 3, 4, 5, 6, 7, 8, 9, 10, 11, 12, 13, 14, 15, 16, 17, 18, 19, 20, 21, 22, 23] (by decide) rfl
            exact W.iret hx hb hr (fun t ht hW => ⟨⟨_, ((0), (ya)), rfl, ⟨_, rfl, v⟩, by rw [ht]; exact hP9, va_K.moved hW.alike hK, hD9⟩, hS.F ht⟩) hS.2.2 d_Md_plan_65
    · replace v := v.2 c6
      refine nv_if_eq (tgt := 20) hx hb d_Md_plan_13 (by decide) (by decide) (fun _ => ?_) (fun c76 => absurd c76 (by decide))
      refine nv_iconst (n := 0) hx hb d_Md_plan_20 ?_
      refine lv_iload_n hx hb d_Md_plan_21 rfl (lv_at hl 3 rfl) ?_
      refine lv_iload_n hx hb d_Md_plan_22 rfl (lv_at hl 2 rfl) ?_
      obtain ⟨k77, v⟩ := v
      refine nv_icmp_le (tgt := 37) hx hb d_Md_plan_23 (by decide) k77 k5 (fun c78 => ?_) (fun c78 => ?_)
      · replace v := v.1 c78
        refine nv_iconst (n := 0) hx hb d_Md_plan_37 ?_
        refine nv_iconst (n := 1) hx hb d_Md_plan_38 ?_
        have hPc := hP.sub (ws' := (wMd cI cJ cZ h0 h1 h2 h3 h4 h5 h6 h7 h8 h9 h10 h11 h12 h13 h14 h15 h16 h17 h18 h19 h20 h21 h22 h23 th no ca ba nl xa sa da la ra fa ta ua uh uo ma mh ml nf fo fh fs rs ic mn bh bo ya np pa nc cp)) [0, 1, 2, 3, 4, 5, 6, 7, 8, 9, 10, 11, 12, 13, 14, 15, 16, 17, 18, 19, 20, 21, 22, 23] rfl
        have hDc := hD.sub (ws' := (wMd cI cJ cZ h0 h1 h2 h3 h4 h5 h6 h7 h8 h9 h10 h11 h12 h13 h14 h15 h16 h17 h18 h19 h20 h21 h22 h23 th no ca ba nl xa sa da la ra fa ta ua uh uo ma mh ml nf fo fh fs rs ic mn bh bo ya np pa nc cp)) [0, 1, 2, 3, 4, 5, 6, 7, 8, 9, 10, 11, 12, 13, 14, 15, 16, 17, 18, 19, 20, 21, 22, 23] (by decide) rfl
        have hFc := va_free (wc := (wMd cI cJ cZ h0 h1 h2 h3 h4 h5 h6 h7 h8 h9 h10 h11 h12 h13 h14 h15 h16 h17 h18 h19 h20 h21 h22 h23 th no ca ba nl xa sa da la ra fa ta ua uh uo ma mh ml nf fo fh fs rs ic mn bh bo ya np pa nc cp)) hD hS hA [0, 1, 2, 3, 4, 5, 6, 7, 8, 9, 10, 11, 12, 13, 14, 15, 16, 17, 18, 19, 20, 21, 22, 23] rfl
        refine va_calli (va_runV (As := [.int (iI 0), .int (iI 0), .int (iI 1)]) (rest := []) ⟨hx, hb, hml, hown, hts⟩ (m_Md_goes l D cI cJ cO cZ h0 h1 h2 h3 h4 h5 h6 h7 h8 h9 h10 h11 h12 h13 h14 h15 h16 h17 h18 h19 h20 h21 h22 h23 H.size th no ca ba nl xa sa da la ra fa ta ua uh uo ma mh ml nf fo fh fs rs ic mn bh bo ya np pa nc cp 0 0 1 (fun z t => z = 0 ∧ t = 1) (s_Md_goes_001 th no ca ba nl xa sa da la ra fa ta ua uh uo ma mh ml nf fo fh fs rs ic mn bh bo ya np pa nc cp)) (nv_cwV (n := 3) hts wd_812 wd_814 sl_17 wd_10 wd_815 (by decide +kernel) ⟨Nat.le_of_ble_eq_true rfl, Nat.le_of_ble_eq_true rfl⟩) ⟨blW, va_recv hK hPc (ci := 8) (q0 := 0) rfl rfl, fun U hU hW => ⟨rfl, by rw [hU], by rw [hU]; exact hPc, va_K.moved hW.alike hK, hDc.weaken (fun _ _ _ _ => trivial)⟩⟩ rfl rfl hl.1 rfl (lv_room (Nat.le_of_ble_eq_true rfl)) d_Md_plan_39 ⟨Nat.le_of_ble_eq_true rfl, Nat.le_of_ble_eq_true rfl⟩) hS (fun q _ h => hFc q h) hFc (fun r u t H1 locs ht hvm hw hB hz1 hk1 hS => ?_)
        obtain ⟨hP1, hK1, hD1⟩ := hB
        rw [ht] at hP1
        obtain ⟨_, rfl, rfl, rfl⟩ := hw
        obtain ⟨hP, hD⟩ := va_join (wr := []) (w1 := (wMd cI cJ cZ h0 h1 h2 h3 h4 h5 h6 h7 h8 h9 h10 h11 h12 h13 h14 h15 h16 h17 h18 h19 h20 h21 h22 h23 1 no ca ba nl xa sa da la ra fa ta ua uh uo ma mh ml nf fo fh fs rs ic mn bh bo ya np pa nc cp)) hP hD [0, 1, 2, 3, 4, 5, 6, 7, 8, 9, 10, 11, 12, 13, 14, 15, 16, 17, 18, 19, 20, 21, 22, 23] [] rfl rfl (by decide) (by decide) hk1 hFc hP1 hD1
        generalize H1 = H at hP hS ⊢
        have hP : va_P D vwCl (wMd cI cJ cZ h0 h1 h2 h3 h4 h5 h6 h7 h8 h9 h10 h11 h12 h13 h14 h15 h16 h17 h18 h19 h20 h21 h22 h23 1 no ca ba nl xa sa da la ra fa ta ua uh uo ma mh ml nf fo fh fs rs ic mn bh bo ya np pa nc cp) H := hP
        have hD : va_D A (wMd cI cJ cZ h0 h1 h2 h3 h4 h5 h6 h7 h8 h9 h10 h11 h12 h13 h14 h15 h16 h17 h18 h19 h20 h21 h22 h23 1 no ca ba nl xa sa da la ra fa ta ua uh uo ma mh ml nf fo fh fs rs ic mn bh bo ya np pa nc cp) := hD
        refine W.widen (k := 0) (n := 0) (Nat.le_of_ble_eq_true rfl) (Nat.le_of_ble_eq_true rfl) ?_
        refine nv_if_ne (tgt := 47) hx hb d_Md_plan_42 (by decide) (by decide) (fun c79 => absurd c79 (by decide)) (fun _ => ?_)
        refine nv_iconst (n := 0) hx hb d_Md_plan_45 ?_
        have hP9 := hP.sub (ws' := (wMd cI cJ cZ h0 h1 h2 h3 h4 h5 h6 h7 h8 h9 h10 h11 h12 h13 h14 h15 h16 h17 h18 h19 h20 h21 h22 h23 1 no ca ba nl xa sa da la ra fa ta ua uh uo ma mh ml nf fo fh fs rs ic mn bh bo ya np pa nc cp)) [0, 1, 2, 3, 4, 5, 6, 7, 8, 9, 10, 11, 12, 13, 14, 15, 16, 17, 18, 19, 20, 21, 22, 23] rfl
        have hD9 := hD.sub (ws' := (wMd cI cJ cZ h0 h1 h2 h3 h4 h5 h6 h7 h8 h9 h10 h11 h12 h13 h14 h15 h16 h17 h18 h19 h20 h21 h22 h23 1 no ca ba nl xa sa da la ra fa ta ua uh uo ma mh ml nf fo fh fs rs ic mn bh bo ya np pa nc cp)) [0, 1, 2, 3, 4, 5, 6, 7, 8, 9, 10, 11, 12, 13, 14, 15, 16, 17, 18, 19, 20, 21, 22, 23] (by decide) rfl
        exact W.iret hx hb hr (fun t ht hW => ⟨⟨_, ((1), (ya)), rfl, ⟨_, rfl, v⟩, by rw [ht]; exact hP9, va_K.moved hW.alike hK, hD9⟩, hS.F ht⟩) hS.2.2 d_Md_plan_46
      · replace v := v.2 c78
        refine lv_iload_n hx hb d_Md_plan_26 rfl (lv_at hl 3 rfl) ?_
        refine nv_sipush (z := 26280) hx hb d_Md_plan_27 (by decide) ?_
        refine nv_icmp_gt (tgt := 37) hx hb d_Md_plan_30 (by decide) k77 (by decide) (fun c80 => ?_) (fun c80 => ?_)
        · replace v := v.1 c80
          refine nv_iconst (n := 0) hx hb d_Md_plan_37 ?_
          refine nv_iconst (n := 1) hx hb d_Md_plan_38 ?_
          have hPc := hP.sub (ws' := (wMd cI cJ cZ h0 h1 h2 h3 h4 h5 h6 h7 h8 h9 h10 h11 h12 h13 h14 h15 h16 h17 h18 h19 h20 h21 h22 h23 th no ca ba nl xa sa da la ra fa ta ua uh uo ma mh ml nf fo fh fs rs ic mn bh bo ya np pa nc cp)) [0, 1, 2, 3, 4, 5, 6, 7, 8, 9, 10, 11, 12, 13, 14, 15, 16, 17, 18, 19, 20, 21, 22, 23] rfl
          have hDc := hD.sub (ws' := (wMd cI cJ cZ h0 h1 h2 h3 h4 h5 h6 h7 h8 h9 h10 h11 h12 h13 h14 h15 h16 h17 h18 h19 h20 h21 h22 h23 th no ca ba nl xa sa da la ra fa ta ua uh uo ma mh ml nf fo fh fs rs ic mn bh bo ya np pa nc cp)) [0, 1, 2, 3, 4, 5, 6, 7, 8, 9, 10, 11, 12, 13, 14, 15, 16, 17, 18, 19, 20, 21, 22, 23] (by decide) rfl
          have hFc := va_free (wc := (wMd cI cJ cZ h0 h1 h2 h3 h4 h5 h6 h7 h8 h9 h10 h11 h12 h13 h14 h15 h16 h17 h18 h19 h20 h21 h22 h23 th no ca ba nl xa sa da la ra fa ta ua uh uo ma mh ml nf fo fh fs rs ic mn bh bo ya np pa nc cp)) hD hS hA [0, 1, 2, 3, 4, 5, 6, 7, 8, 9, 10, 11, 12, 13, 14, 15, 16, 17, 18, 19, 20, 21, 22, 23] rfl
          refine va_calli (va_runV (As := [.int (iI 0), .int (iI 0), .int (iI 1)]) (rest := []) ⟨hx, hb, hml, hown, hts⟩ (m_Md_goes l D cI cJ cO cZ h0 h1 h2 h3 h4 h5 h6 h7 h8 h9 h10 h11 h12 h13 h14 h15 h16 h17 h18 h19 h20 h21 h22 h23 H.size th no ca ba nl xa sa da la ra fa ta ua uh uo ma mh ml nf fo fh fs rs ic mn bh bo ya np pa nc cp 0 0 1 (fun z t => z = 0 ∧ t = 1) (s_Md_goes_001 th no ca ba nl xa sa da la ra fa ta ua uh uo ma mh ml nf fo fh fs rs ic mn bh bo ya np pa nc cp)) (nv_cwV (n := 3) hts wd_812 wd_814 sl_17 wd_10 wd_815 (by decide +kernel) ⟨Nat.le_of_ble_eq_true rfl, Nat.le_of_ble_eq_true rfl⟩) ⟨blW, va_recv hK hPc (ci := 8) (q0 := 0) rfl rfl, fun U hU hW => ⟨rfl, by rw [hU], by rw [hU]; exact hPc, va_K.moved hW.alike hK, hDc.weaken (fun _ _ _ _ => trivial)⟩⟩ rfl rfl hl.1 rfl (lv_room (Nat.le_of_ble_eq_true rfl)) d_Md_plan_39 ⟨Nat.le_of_ble_eq_true rfl, Nat.le_of_ble_eq_true rfl⟩) hS (fun q _ h => hFc q h) hFc (fun r u t H1 locs ht hvm hw hB hz1 hk1 hS => ?_)
          obtain ⟨hP1, hK1, hD1⟩ := hB
          rw [ht] at hP1
          obtain ⟨_, rfl, rfl, rfl⟩ := hw
          obtain ⟨hP, hD⟩ := va_join (wr := []) (w1 := (wMd cI cJ cZ h0 h1 h2 h3 h4 h5 h6 h7 h8 h9 h10 h11 h12 h13 h14 h15 h16 h17 h18 h19 h20 h21 h22 h23 1 no ca ba nl xa sa da la ra fa ta ua uh uo ma mh ml nf fo fh fs rs ic mn bh bo ya np pa nc cp)) hP hD [0, 1, 2, 3, 4, 5, 6, 7, 8, 9, 10, 11, 12, 13, 14, 15, 16, 17, 18, 19, 20, 21, 22, 23] [] rfl rfl (by decide) (by decide) hk1 hFc hP1 hD1
          generalize H1 = H at hP hS ⊢
          have hP : va_P D vwCl (wMd cI cJ cZ h0 h1 h2 h3 h4 h5 h6 h7 h8 h9 h10 h11 h12 h13 h14 h15 h16 h17 h18 h19 h20 h21 h22 h23 1 no ca ba nl xa sa da la ra fa ta ua uh uo ma mh ml nf fo fh fs rs ic mn bh bo ya np pa nc cp) H := hP
          have hD : va_D A (wMd cI cJ cZ h0 h1 h2 h3 h4 h5 h6 h7 h8 h9 h10 h11 h12 h13 h14 h15 h16 h17 h18 h19 h20 h21 h22 h23 1 no ca ba nl xa sa da la ra fa ta ua uh uo ma mh ml nf fo fh fs rs ic mn bh bo ya np pa nc cp) := hD
          refine W.widen (k := 0) (n := 0) (Nat.le_of_ble_eq_true rfl) (Nat.le_of_ble_eq_true rfl) ?_
          refine nv_if_ne (tgt := 47) hx hb d_Md_plan_42 (by decide) (by decide) (fun c81 => absurd c81 (by decide)) (fun _ => ?_)
          refine nv_iconst (n := 0) hx hb d_Md_plan_45 ?_
          have hP9 := hP.sub (ws' := (wMd cI cJ cZ h0 h1 h2 h3 h4 h5 h6 h7 h8 h9 h10 h11 h12 h13 h14 h15 h16 h17 h18 h19 h20 h21 h22 h23 1 no ca ba nl xa sa da la ra fa ta ua uh uo ma mh ml nf fo fh fs rs ic mn bh bo ya np pa nc cp)) [0, 1, 2, 3, 4, 5, 6, 7, 8, 9, 10, 11, 12, 13, 14, 15, 16, 17, 18, 19, 20, 21, 22, 23] rfl
          have hD9 := hD.sub (ws' := (wMd cI cJ cZ h0 h1 h2 h3 h4 h5 h6 h7 h8 h9 h10 h11 h12 h13 h14 h15 h16 h17 h18 h19 h20 h21 h22 h23 1 no ca ba nl xa sa da la ra fa ta ua uh uo ma mh ml nf fo fh fs rs ic mn bh bo ya np pa nc cp)) [0, 1, 2, 3, 4, 5, 6, 7, 8, 9, 10, 11, 12, 13, 14, 15, 16, 17, 18, 19, 20, 21, 22, 23] (by decide) rfl
          exact W.iret hx hb hr (fun t ht hW => ⟨⟨_, ((1), (ya)), rfl, ⟨_, rfl, v⟩, by rw [ht]; exact hP9, va_K.moved hW.alike hK, hD9⟩, hS.F ht⟩) hS.2.2 d_Md_plan_46
        · replace v := v.2 c80
          refine nv_iconst (n := 1) hx hb d_Md_plan_33 ?_
          refine lv_goto (tgt := 38) hx hb d_Md_plan_34 (by decide) ?_
          refine nv_iconst (n := 1) hx hb d_Md_plan_38 ?_
          have hPc := hP.sub (ws' := (wMd cI cJ cZ h0 h1 h2 h3 h4 h5 h6 h7 h8 h9 h10 h11 h12 h13 h14 h15 h16 h17 h18 h19 h20 h21 h22 h23 th no ca ba nl xa sa da la ra fa ta ua uh uo ma mh ml nf fo fh fs rs ic mn bh bo ya np pa nc cp)) [0, 1, 2, 3, 4, 5, 6, 7, 8, 9, 10, 11, 12, 13, 14, 15, 16, 17, 18, 19, 20, 21, 22, 23] rfl
          have hDc := hD.sub (ws' := (wMd cI cJ cZ h0 h1 h2 h3 h4 h5 h6 h7 h8 h9 h10 h11 h12 h13 h14 h15 h16 h17 h18 h19 h20 h21 h22 h23 th no ca ba nl xa sa da la ra fa ta ua uh uo ma mh ml nf fo fh fs rs ic mn bh bo ya np pa nc cp)) [0, 1, 2, 3, 4, 5, 6, 7, 8, 9, 10, 11, 12, 13, 14, 15, 16, 17, 18, 19, 20, 21, 22, 23] (by decide) rfl
          have hFc := va_free (wc := (wMd cI cJ cZ h0 h1 h2 h3 h4 h5 h6 h7 h8 h9 h10 h11 h12 h13 h14 h15 h16 h17 h18 h19 h20 h21 h22 h23 th no ca ba nl xa sa da la ra fa ta ua uh uo ma mh ml nf fo fh fs rs ic mn bh bo ya np pa nc cp)) hD hS hA [0, 1, 2, 3, 4, 5, 6, 7, 8, 9, 10, 11, 12, 13, 14, 15, 16, 17, 18, 19, 20, 21, 22, 23] rfl
          refine va_calli (va_runV (As := [.int (iI 0), .int (iI 1), .int (iI 1)]) (rest := []) ⟨hx, hb, hml, hown, hts⟩ (m_Md_goes l D cI cJ cO cZ h0 h1 h2 h3 h4 h5 h6 h7 h8 h9 h10 h11 h12 h13 h14 h15 h16 h17 h18 h19 h20 h21 h22 h23 H.size th no ca ba nl xa sa da la ra fa ta ua uh uo ma mh ml nf fo fh fs rs ic mn bh bo ya np pa nc cp 0 1 1 (fun z t => z = 0 ∧ t = 1) (s_Md_goes_011 th no ca ba nl xa sa da la ra fa ta ua uh uo ma mh ml nf fo fh fs rs ic mn bh bo ya np pa nc cp)) (nv_cwV (n := 3) hts wd_812 wd_814 sl_17 wd_10 wd_815 (by decide +kernel) ⟨Nat.le_of_ble_eq_true rfl, Nat.le_of_ble_eq_true rfl⟩) ⟨blW, va_recv hK hPc (ci := 8) (q0 := 0) rfl rfl, fun U hU hW => ⟨rfl, by rw [hU], by rw [hU]; exact hPc, va_K.moved hW.alike hK, hDc.weaken (fun _ _ _ _ => trivial)⟩⟩ rfl rfl hl.1 rfl (lv_room (Nat.le_of_ble_eq_true rfl)) d_Md_plan_39 ⟨Nat.le_of_ble_eq_true rfl, Nat.le_of_ble_eq_true rfl⟩) hS (fun q _ h => hFc q h) hFc (fun r u t H1 locs ht hvm hw hB hz1 hk1 hS => ?_)
          obtain ⟨hP1, hK1, hD1⟩ := hB
          rw [ht] at hP1
          obtain ⟨_, rfl, rfl, rfl⟩ := hw
          obtain ⟨hP, hD⟩ := va_join (wr := []) (w1 := (wMd cI cJ cZ h0 h1 h2 h3 h4 h5 h6 h7 h8 h9 h10 h11 h12 h13 h14 h15 h16 h17 h18 h19 h20 h21 h22 h23 1 no ca ba nl xa sa da la ra fa ta ua uh uo ma mh ml nf fo fh fs rs ic mn bh bo ya np pa nc cp)) hP hD [0, 1, 2, 3, 4, 5, 6, 7, 8, 9, 10, 11, 12, 13, 14, 15, 16, 17, 18, 19, 20, 21, 22, 23] [] rfl rfl (by decide) (by decide) hk1 hFc hP1 hD1
          generalize H1 = H at hP hS ⊢
          have hP : va_P D vwCl (wMd cI cJ cZ h0 h1 h2 h3 h4 h5 h6 h7 h8 h9 h10 h11 h12 h13 h14 h15 h16 h17 h18 h19 h20 h21 h22 h23 1 no ca ba nl xa sa da la ra fa ta ua uh uo ma mh ml nf fo fh fs rs ic mn bh bo ya np pa nc cp) H := hP
          have hD : va_D A (wMd cI cJ cZ h0 h1 h2 h3 h4 h5 h6 h7 h8 h9 h10 h11 h12 h13 h14 h15 h16 h17 h18 h19 h20 h21 h22 h23 1 no ca ba nl xa sa da la ra fa ta ua uh uo ma mh ml nf fo fh fs rs ic mn bh bo ya np pa nc cp) := hD
          refine W.widen (k := 0) (n := 0) (Nat.le_of_ble_eq_true rfl) (Nat.le_of_ble_eq_true rfl) ?_
          refine nv_if_ne (tgt := 47) hx hb d_Md_plan_42 (by decide) (by decide) (fun c82 => absurd c82 (by decide)) (fun _ => ?_)
          refine nv_iconst (n := 0) hx hb d_Md_plan_45 ?_
          have hP9 := hP.sub (ws' := (wMd cI cJ cZ h0 h1 h2 h3 h4 h5 h6 h7 h8 h9 h10 h11 h12 h13 h14 h15 h16 h17 h18 h19 h20 h21 h22 h23 1 no ca ba nl xa sa da la ra fa ta ua uh uo ma mh ml nf fo fh fs rs ic mn bh bo ya np pa nc cp)) [0, 1, 2, 3, 4, 5, 6, 7, 8, 9, 10, 11, 12, 13, 14, 15, 16, 17, 18, 19, 20, 21, 22, 23] rfl
          have hD9 := hD.sub (ws' := (wMd cI cJ cZ h0 h1 h2 h3 h4 h5 h6 h7 h8 h9 h10 h11 h12 h13 h14 h15 h16 h17 h18 h19 h20 h21 h22 h23 1 no ca ba nl xa sa da la ra fa ta ua uh uo ma mh ml nf fo fh fs rs ic mn bh bo ya np pa nc cp)) [0, 1, 2, 3, 4, 5, 6, 7, 8, 9, 10, 11, 12, 13, 14, 15, 16, 17, 18, 19, 20, 21, 22, 23] (by decide) rfl
          exact W.iret hx hb hr (fun t ht hW => ⟨⟨_, ((1), (ya)), rfl, ⟨_, rfl, v⟩, by rw [ht]; exact hP9, va_K.moved hW.alike hK, hD9⟩, hS.F ht⟩) hS.2.2 d_Md_plan_46
  · replace v := v.2 c3
    refine nv_if_eq (tgt := 20) hx hb d_Md_plan_6 (by decide) (by decide) (fun _ => ?_) (fun c83 => absurd c83 (by decide))
    refine nv_iconst (n := 0) hx hb d_Md_plan_20 ?_
    refine lv_iload_n hx hb d_Md_plan_21 rfl (lv_at hl 3 rfl) ?_
    refine lv_iload_n hx hb d_Md_plan_22 rfl (lv_at hl 2 rfl) ?_
    obtain ⟨k84, v⟩ := v
    obtain ⟨k85, v⟩ := v
    refine nv_icmp_le (tgt := 37) hx hb d_Md_plan_23 (by decide) k84 k85 (fun c86 => ?_) (fun c86 => ?_)
    · replace v := v.1 c86
      refine nv_iconst (n := 0) hx hb d_Md_plan_37 ?_
      refine nv_iconst (n := 1) hx hb d_Md_plan_38 ?_
      have hPc := hP.sub (ws' := (wMd cI cJ cZ h0 h1 h2 h3 h4 h5 h6 h7 h8 h9 h10 h11 h12 h13 h14 h15 h16 h17 h18 h19 h20 h21 h22 h23 th no ca ba nl xa sa da la ra fa ta ua uh uo ma mh ml nf fo fh fs rs ic mn bh bo ya np pa nc cp)) [0, 1, 2, 3, 4, 5, 6, 7, 8, 9, 10, 11, 12, 13, 14, 15, 16, 17, 18, 19, 20, 21, 22, 23] rfl
      have hDc := hD.sub (ws' := (wMd cI cJ cZ h0 h1 h2 h3 h4 h5 h6 h7 h8 h9 h10 h11 h12 h13 h14 h15 h16 h17 h18 h19 h20 h21 h22 h23 th no ca ba nl xa sa da la ra fa ta ua uh uo ma mh ml nf fo fh fs rs ic mn bh bo ya np pa nc cp)) [0, 1, 2, 3, 4, 5, 6, 7, 8, 9, 10, 11, 12, 13, 14, 15, 16, 17, 18, 19, 20, 21, 22, 23] (by decide) rfl
      have hFc := va_free (wc := (wMd cI cJ cZ h0 h1 h2 h3 h4 h5 h6 h7 h8 h9 h10 h11 h12 h13 h14 h15 h16 h17 h18 h19 h20 h21 h22 h23 th no ca ba nl xa sa da la ra fa ta ua uh uo ma mh ml nf fo fh fs rs ic mn bh bo ya np pa nc cp)) hD hS hA [0, 1, 2, 3, 4, 5, 6, 7, 8, 9, 10, 11, 12, 13, 14, 15, 16, 17, 18, 19, 20, 21, 22, 23] rfl
      refine va_calli (va_runV (As := [.int (iI 0), .int (iI 0), .int (iI 1)]) (rest := []) ⟨hx, hb, hml, hown, hts⟩ (m_Md_goes l D cI cJ cO cZ h0 h1 h2 h3 h4 h5 h6 h7 h8 h9 h10 h11 h12 h13 h14 h15 h16 h17 h18 h19 h20 h21 h22 h23 H.size th no ca ba nl xa sa da la ra fa ta ua uh uo ma mh ml nf fo fh fs rs ic mn bh bo ya np pa nc cp 0 0 1 (fun z t => z = 0 ∧ t = 1) (s_Md_goes_001 th no ca ba nl xa sa da la ra fa ta ua uh uo ma mh ml nf fo fh fs rs ic mn bh bo ya np pa nc cp)) (nv_cwV (n := 3) hts wd_812 wd_814 sl_17 wd_10 wd_815 (by decide +kernel) ⟨Nat.le_of_ble_eq_true rfl, Nat.le_of_ble_eq_true rfl⟩) ⟨blW, va_recv hK hPc (ci := 8) (q0 := 0) rfl rfl, fun U hU hW => ⟨rfl, by rw [hU], by rw [hU]; exact hPc, va_K.moved hW.alike hK, hDc.weaken (fun _ _ _ _ => trivial)⟩⟩ rfl rfl hl.1 rfl (lv_room (Nat.le_of_ble_eq_true rfl)) d_Md_plan_39 ⟨Nat.le_of_ble_eq_true rfl, Nat.le_of_ble_eq_true rfl⟩) hS (fun q _ h => hFc q h) hFc (fun r u t H1 locs ht hvm hw hB hz1 hk1 hS => ?_)
      obtain ⟨hP1, hK1, hD1⟩ := hB
      rw [ht] at hP1
      obtain ⟨_, rfl, rfl, rfl⟩ := hw
      obtain ⟨hP, hD⟩ := va_join (wr := []) (w1 := (wMd cI cJ cZ h0 h1 h2 h3 h4 h5 h6 h7 h8 h9 h10 h11 h12 h13 h14 h15 h16 h17 h18 h19 h20 h21 h22 h23 1 no ca ba nl xa sa da la ra fa ta ua uh uo ma mh ml nf fo fh fs rs ic mn bh bo ya np pa nc cp)) hP hD [0, 1, 2, 3, 4, 5, 6, 7, 8, 9, 10, 11, 12, 13, 14, 15, 16, 17, 18, 19, 20, 21, 22, 23] [] rfl rfl (by decide) (by decide) hk1 hFc hP1 hD1
      generalize H1 = H at hP hS ⊢
      have hP : va_P D vwCl (wMd cI cJ cZ h0 h1 h2 h3 h4 h5 h6 h7 h8 h9 h10 h11 h12 h13 h14 h15 h16 h17 h18 h19 h20 h21 h22 h23 1 no ca ba nl xa sa da la ra fa ta ua uh uo ma mh ml nf fo fh fs rs ic mn bh bo ya np pa nc cp) H := hP
      have hD : va_D A (wMd cI cJ cZ h0 h1 h2 h3 h4 h5 h6 h7 h8 h9 h10 h11 h12 h13 h14 h15 h16 h17 h18 h19 h20 h21 h22 h23 1 no ca ba nl xa sa da la ra fa ta ua uh uo ma mh ml nf fo fh fs rs ic mn bh bo ya np pa nc cp) := hD
      refine W.widen (k := 0) (n := 0) (Nat.le_of_ble_eq_true rfl) (Nat.le_of_ble_eq_true rfl) ?_
      refine nv_if_ne (tgt := 47) hx hb d_Md_plan_42 (by decide) (by decide) (fun c87 => absurd c87 (by decide)) (fun _ => ?_)
      refine nv_iconst (n := 0) hx hb d_Md_plan_45 ?_
      have hP9 := hP.sub (ws' := (wMd cI cJ cZ h0 h1 h2 h3 h4 h5 h6 h7 h8 h9 h10 h11 h12 h13 h14 h15 h16 h17 h18 h19 h20 h21 h22 h23 1 no ca ba nl xa sa da la ra fa ta ua uh uo ma mh ml nf fo fh fs rs ic mn bh bo ya np pa nc cp)) [0, 1, 2, 3, 4, 5, 6, 7, 8, 9, 10, 11, 12, 13, 14, 15, 16, 17, 18, 19, 20, 21, 22, 23] rfl
      have hD9 := hD.sub (ws' := (wMd cI cJ cZ h0 h1 h2 h3 h4 h5 h6 h7 h8 h9 h10 h11 h12 h13 h14 h15 h16 h17 h18 h19 h20 h21 h22 h23 1 no ca ba nl xa sa da la ra fa ta ua uh uo ma mh ml nf fo fh fs rs ic mn bh bo ya np pa nc cp)) [0, 1, 2, 3, 4, 5, 6, 7, 8, 9, 10, 11, 12, 13, 14, 15, 16, 17, 18, 19, 20, 21, 22, 23] (by decide) rfl
      exact W.iret hx hb hr (fun t ht hW => ⟨⟨_, ((1), (ya)), rfl, ⟨_, rfl, v⟩, by rw [ht]; exact hP9, va_K.moved hW.alike hK, hD9⟩, hS.F ht⟩) hS.2.2 d_Md_plan_46
    · replace v := v.2 c86
      refine lv_iload_n hx hb d_Md_plan_26 rfl (lv_at hl 3 rfl) ?_
      refine nv_sipush (z := 26280) hx hb d_Md_plan_27 (by decide) ?_
      refine nv_icmp_gt (tgt := 37) hx hb d_Md_plan_30 (by decide) k84 (by decide) (fun c88 => ?_) (fun c88 => ?_)
      · replace v := v.1 c88
        refine nv_iconst (n := 0) hx hb d_Md_plan_37 ?_
        refine nv_iconst (n := 1) hx hb d_Md_plan_38 ?_
        have hPc := hP.sub (ws' := (wMd cI cJ cZ h0 h1 h2 h3 h4 h5 h6 h7 h8 h9 h10 h11 h12 h13 h14 h15 h16 h17 h18 h19 h20 h21 h22 h23 th no ca ba nl xa sa da la ra fa ta ua uh uo ma mh ml nf fo fh fs rs ic mn bh bo ya np pa nc cp)) [0, 1, 2, 3, 4, 5, 6, 7, 8, 9, 10, 11, 12, 13, 14, 15, 16, 17, 18, 19, 20, 21, 22, 23] rfl
        have hDc := hD.sub (ws' := (wMd cI cJ cZ h0 h1 h2 h3 h4 h5 h6 h7 h8 h9 h10 h11 h12 h13 h14 h15 h16 h17 h18 h19 h20 h21 h22 h23 th no ca ba nl xa sa da la ra fa ta ua uh uo ma mh ml nf fo fh fs rs ic mn bh bo ya np pa nc cp)) [0, 1, 2, 3, 4, 5, 6, 7, 8, 9, 10, 11, 12, 13, 14, 15, 16, 17, 18, 19, 20, 21, 22, 23] (by decide) rfl
        have hFc := va_free (wc := (wMd cI cJ cZ h0 h1 h2 h3 h4 h5 h6 h7 h8 h9 h10 h11 h12 h13 h14 h15 h16 h17 h18 h19 h20 h21 h22 h23 th no ca ba nl xa sa da la ra fa ta ua uh uo ma mh ml nf fo fh fs rs ic mn bh bo ya np pa nc cp)) hD hS hA [0, 1, 2, 3, 4, 5, 6, 7, 8, 9, 10, 11, 12, 13, 14, 15, 16, 17, 18, 19, 20, 21, 22, 23] rfl
        refine va_calli (va_runV (As := [.int (iI 0), .int (iI 0), .int (iI 1)]) (rest := []) ⟨hx, hb, hml, hown, hts⟩ (m_Md_goes l D cI cJ cO cZ h0 h1 h2 h3 h4 h5 h6 h7 h8 h9 h10 h11 h12 h13 h14 h15 h16 h17 h18 h19 h20 h21 h22 h23 H.size th no ca ba nl xa sa da la ra fa ta ua uh uo ma mh ml nf fo fh fs rs ic mn bh bo ya np pa nc cp 0 0 1 (fun z t => z = 0 ∧ t = 1) (s_Md_goes_001 th no ca ba nl xa sa da la ra fa ta ua uh uo ma mh ml nf fo fh fs rs ic mn bh bo ya np pa nc cp)) (nv_cwV (n := 3) hts wd_812 wd_814 sl_17 wd_10 wd_815 (by decide +kernel) ⟨Nat.le_of_ble_eq_true rfl, Nat.le_of_ble_eq_true rfl⟩) ⟨blW, va_recv hK hPc (ci := 8) (q0 := 0) rfl rfl, fun U hU hW => ⟨rfl, by rw [hU], by rw [hU]; exact hPc, va_K.moved hW.alike hK, hDc.weaken (fun _ _ _ _ => trivial)⟩⟩ rfl rfl hl.1 rfl (lv_room (Nat.le_of_ble_eq_true rfl)) d_Md_plan_39 ⟨Nat.le_of_ble_eq_true rfl, Nat.le_of_ble_eq_true rfl⟩) hS (fun q _ h => hFc q h) hFc (fun r u t H1 locs ht hvm hw hB hz1 hk1 hS => ?_)
        obtain ⟨hP1, hK1, hD1⟩ := hB
        rw [ht] at hP1
        obtain ⟨_, rfl, rfl, rfl⟩ := hw
        obtain ⟨hP, hD⟩ := va_join (wr := []) (w1 := (wMd cI cJ cZ h0 h1 h2 h3 h4 h5 h6 h7 h8 h9 h10 h11 h12 h13 h14 h15 h16 h17 h18 h19 h20 h21 h22 h23 1 no ca ba nl xa sa da la ra fa ta ua uh uo ma mh ml nf fo fh fs rs ic mn bh bo ya np pa nc cp)) hP hD [0, 1, 2, 3, 4, 5, 6, 7, 8, 9, 10, 11, 12, 13, 14, 15, 16, 17, 18, 19, 20, 21, 22, 23] [] rfl rfl (by decide) (by decide) hk1 hFc hP1 hD1
        generalize H1 = H at hP hS ⊢
        have hP : va_P D vwCl (wMd cI cJ cZ h0 h1 h2 h3 h4 h5 h6 h7 h8 h9 h10 h11 h12 h13 h14 h15 h16 h17 h18 h19 h20 h21 h22 h23 1 no ca ba nl xa sa da la ra fa ta ua uh uo ma mh ml nf fo fh fs rs ic mn bh bo ya np pa nc cp) H := hP
        have hD : va_D A (wMd cI cJ cZ h0 h1 h2 h3 h4 h5 h6 h7 h8 h9 h10 h11 h12 h13 h14 h15 h16 h17 h18 h19 h20 h21 h22 h23 1 no ca ba nl xa sa da la ra fa ta ua uh uo ma mh ml nf fo fh fs rs ic mn bh bo ya np pa nc cp) := hD
        refine W.widen (k := 0) (n := 0) (Nat.le_of_ble_eq_true rfl) (Nat.le_of_ble_eq_true rfl) ?_
        refine nv_if_ne (tgt := 47) hx hb d_Md_plan_42 (by decide) (by decide) (fun c89 => absurd c89 (by decide)) (fun _ => ?_)
        refine nv_iconst (n := 0) hx hb d_Md_plan_45 ?_
        have hP9 := hP.sub (ws' := (wMd cI cJ cZ h0 h1 h2 h3 h4 h5 h6 h7 h8 h9 h10 h11 h12 h13 h14 h15 h16 h17 h18 h19 h20 h21 h22 h23 1 no ca ba nl xa sa da la ra fa ta ua uh uo ma mh ml nf fo fh fs rs ic mn bh bo ya np pa nc cp)) [0, 1, 2, 3, 4, 5, 6, 7, 8, 9, 10, 11, 12, 13, 14, 15, 16, 17, 18, 19, 20, 21, 22, 23] rfl
        have hD9 := hD.sub (ws' := (wMd cI cJ cZ h0 h1 h2 h3 h4 h5 h6 h7 h8 h9 h10 h11 h12 h13 h14 h15 h16 h17 h18 h19 h20 h21 h22 h23 1 no ca ba nl xa sa da la ra fa ta ua uh uo ma mh ml nf fo fh fs rs ic mn bh bo ya np pa nc cp)) [0, 1, 2, 3, 4, 5, 6, 7, 8, 9, 10, 11, 12, 13, 14, 15, 16, 17, 18, 19, 20, 21, 22, 23] (by decide) rfl
        exact W.iret hx hb hr (fun t ht hW => ⟨⟨_, ((1), (ya)), rfl, ⟨_, rfl, v⟩, by rw [ht]; exact hP9, va_K.moved hW.alike hK, hD9⟩, hS.F ht⟩) hS.2.2 d_Md_plan_46
      · replace v := v.2 c88
        refine nv_iconst (n := 1) hx hb d_Md_plan_33 ?_
        refine lv_goto (tgt := 38) hx hb d_Md_plan_34 (by decide) ?_
        refine nv_iconst (n := 1) hx hb d_Md_plan_38 ?_
        have hPc := hP.sub (ws' := (wMd cI cJ cZ h0 h1 h2 h3 h4 h5 h6 h7 h8 h9 h10 h11 h12 h13 h14 h15 h16 h17 h18 h19 h20 h21 h22 h23 th no ca ba nl xa sa da la ra fa ta ua uh uo ma mh ml nf fo fh fs rs ic mn bh bo ya np pa nc cp)) [0, 1, 2, 3, 4, 5, 6, 7, 8, 9, 10, 11, 12, 13, 14, 15, 16, 17, 18, 19, 20, 21, 22, 23] rfl
        have hDc := hD.sub (ws' := (wMd cI cJ cZ h0 h1 h2 h3 h4 h5 h6 h7 h8 h9 h10 h11 h12 h13 h14 h15 h16 h17 h18 h19 h20 h21 h22 h23 th no ca ba nl xa sa da la ra fa ta ua uh uo ma mh ml nf fo fh fs rs ic mn bh bo ya np pa nc cp)) [0, 1, 2, 3, 4, 5, 6, 7, 8, 9, 10, 11, 12, 13, 14, 15, 16, 17, 18, 19, 20, 21, 22, 23] (by decide) rfl
        have hFc := va_free (wc := (wMd cI cJ cZ h0 h1 h2 h3 h4 h5 h6 h7 h8 h9 h10 h11 h12 h13 h14 h15 h16 h17 h18 h19 h20 h21 h22 h23 th no ca ba nl xa sa da la ra fa ta ua uh uo ma mh ml nf fo fh fs rs ic mn bh bo ya np pa nc cp)) hD hS hA [0, 1, 2, 3, 4, 5, 6, 7, 8, 9, 10, 11, 12, 13, 14, 15, 16, 17, 18, 19, 20, 21, 22, 23] rfl
        refine va_calli (va_runV (As := [.int (iI 0), .int (iI 1), .int (iI 1)]) (rest := []) ⟨hx, hb, hml, hown, hts⟩ (m_Md_goes l D cI cJ cO cZ h0 h1 h2 h3 h4 h5 h6 h7 h8 h9 h10 h11 h12 h13 h14 h15 h16 h17 h18 h19 h20 h21 h22 h23 H.size th no ca ba nl xa sa da la ra fa ta ua uh uo ma mh ml nf fo fh fs rs ic mn bh bo ya np pa nc cp 0 1 1 (fun z t => z = 0 ∧ t = 1) (s_Md_goes_011 th no ca ba nl xa sa da la ra fa ta ua uh uo ma mh ml nf fo fh fs rs ic mn bh bo ya np pa nc cp)) (nv_cwV (n := 3) hts wd_812 wd_814 sl_17 wd_10 wd_815 (by decide +kernel) ⟨Nat.le_of_ble_eq_true rfl, Nat.le_of_ble_eq_true rfl⟩) ⟨blW, va_recv hK hPc (ci := 8) (q0 := 0) rfl rfl, fun U hU hW => ⟨rfl, by rw [hU], by rw [hU]; exact hPc, va_K.moved hW.alike hK, hDc.weaken (fun _ _ _ _ => trivial)⟩⟩ rfl rfl hl.1 rfl (lv_room (Nat.le_of_ble_eq_true rfl)) d_Md_plan_39 ⟨Nat.le_of_ble_eq_true rfl, Nat.le_of_ble_eq_true rfl⟩) hS (fun q _ h => hFc q h) hFc (fun r u t H1 locs ht hvm hw hB hz1 hk1 hS => ?_)
        obtain ⟨hP1, hK1, hD1⟩ := hB
        rw [ht] at hP1
        obtain ⟨_, rfl, rfl, rfl⟩ := hw
        obtain ⟨hP, hD⟩ := va_join (wr := []) (w1 := (wMd cI cJ cZ h0 h1 h2 h3 h4 h5 h6 h7 h8 h9 h10 h11 h12 h13 h14 h15 h16 h17 h18 h19 h20 h21 h22 h23 1 no ca ba nl xa sa da la ra fa ta ua uh uo ma mh ml nf fo fh fs rs ic mn bh bo ya np pa nc cp)) hP hD [0, 1, 2, 3, 4, 5, 6, 7, 8, 9, 10, 11, 12, 13, 14, 15, 16, 17, 18, 19, 20, 21, 22, 23] [] rfl rfl (by decide) (by decide) hk1 hFc hP1 hD1
        generalize H1 = H at hP hS ⊢
        have hP : va_P D vwCl (wMd cI cJ cZ h0 h1 h2 h3 h4 h5 h6 h7 h8 h9 h10 h11 h12 h13 h14 h15 h16 h17 h18 h19 h20 h21 h22 h23 1 no ca ba nl xa sa da la ra fa ta ua uh uo ma mh ml nf fo fh fs rs ic mn bh bo ya np pa nc cp) H := hP
        have hD : va_D A (wMd cI cJ cZ h0 h1 h2 h3 h4 h5 h6 h7 h8 h9 h10 h11 h12 h13 h14 h15 h16 h17 h18 h19 h20 h21 h22 h23 1 no ca ba nl xa sa da la ra fa ta ua uh uo ma mh ml nf fo fh fs rs ic mn bh bo ya np pa nc cp) := hD
        refine W.widen (k := 0) (n := 0) (Nat.le_of_ble_eq_true rfl) (Nat.le_of_ble_eq_true rfl) ?_
        refine nv_if_ne (tgt := 47) hx hb d_Md_plan_42 (by decide) (by decide) (fun c90 => absurd c90 (by decide)) (fun _ => ?_)
        refine nv_iconst (n := 0) hx hb d_Md_plan_45 ?_
        have hP9 := hP.sub (ws' := (wMd cI cJ cZ h0 h1 h2 h3 h4 h5 h6 h7 h8 h9 h10 h11 h12 h13 h14 h15 h16 h17 h18 h19 h20 h21 h22 h23 1 no ca ba nl xa sa da la ra fa ta ua uh uo ma mh ml nf fo fh fs rs ic mn bh bo ya np pa nc cp)) [0, 1, 2, 3, 4, 5, 6, 7, 8, 9, 10, 11, 12, 13, 14, 15, 16, 17, 18, 19, 20, 21, 22, 23] rfl
        have hD9 := hD.sub (ws' := (wMd cI cJ cZ h0 h1 h2 h3 h4 h5 h6 h7 h8 h9 h10 h11 h12 h13 h14 h15 h16 h17 h18 h19 h20 h21 h22 h23 1 no ca ba nl xa sa da la ra fa ta ua uh uo ma mh ml nf fo fh fs rs ic mn bh bo ya np pa nc cp)) [0, 1, 2, 3, 4, 5, 6, 7, 8, 9, 10, 11, 12, 13, 14, 15, 16, 17, 18, 19, 20, 21, 22, 23] (by decide) rfl
        exact W.iret hx hb hr (fun t ht hW => ⟨⟨_, ((1), (ya)), rfl, ⟨_, rfl, v⟩, by rw [ht]; exact hP9, va_K.moved hW.alike hK, hD9⟩, hS.F ht⟩) hS.2.2 d_Md_plan_46

theorem d_Md_put_0 : decode prog_10_method_29_code 0 = .ok (.aload_n 0, 1) := by decide +kernel
theorem d_Md_put_1 : decode prog_10_method_29_code 1 = .ok (.getfield 158, 3) := by decide +kernel
theorem d_Md_put_4 : decode prog_10_method_29_code 4 = .ok (.istore_n 3, 1) := by decide +kernel
theorem d_Md_put_5 : decode prog_10_method_29_code 5 = .ok (.iload_n 3, 1) := by decide +kernel
theorem d_Md_put_6 : decode prog_10_method_29_code 6 = .ok (.ifCond .le 73, 3) := by decide +kernel
theorem d_Md_put_9 : decode prog_10_method_29_code 9 = .ok (.aload_n 0, 1) := by decide +kernel
theorem d_Md_put_10 : decode prog_10_method_29_code 10 = .ok (.getfield 66, 3) := by decide +kernel
theorem d_Md_put_13 : decode prog_10_method_29_code 13 = .ok (.iload_n 3, 1) := by decide +kernel
theorem d_Md_put_14 : decode prog_10_method_29_code 14 = .ok (.iconst 1, 1) := by decide +kernel
theorem d_Md_put_15 : decode prog_10_method_29_code 15 = .ok (.isub, 1) := by decide +kernel
theorem d_Md_put_16 : decode prog_10_method_29_code 16 = .ok (.iaload, 1) := by decide +kernel
theorem d_Md_put_17 : decode prog_10_method_29_code 17 = .ok (.iload_n 1, 1) := by decide +kernel
theorem d_Md_put_18 : decode prog_10_method_29_code 18 = .ok (.if_icmp .gt 27, 3) := by decide +kernel
theorem d_Md_put_21 : decode prog_10_method_29_code 21 = .ok (.aload_n 0, 1) := by decide +kernel
theorem d_Md_put_22 : decode prog_10_method_29_code 22 = .ok (.getfield 66, 3) := by decide +kernel
theorem d_Md_put_25 : decode prog_10_method_29_code 25 = .ok (.iload_n 3, 1) := by decide +kernel
theorem d_Md_put_26 : decode prog_10_method_29_code 26 = .ok (.iconst 1, 1) := by decide +kernel
theorem d_Md_put_27 : decode prog_10_method_29_code 27 = .ok (.isub, 1) := by decide +kernel
theorem d_Md_put_28 : decode prog_10_method_29_code 28 = .ok (.iaload, 1) := by decide +kernel
theorem d_Md_put_29 : decode prog_10_method_29_code 29 = .ok (.iload_n 1, 1) := by decide +kernel
theorem d_Md_put_30 : decode prog_10_method_29_code 30 = .ok (.if_icmp .ne 49, 3) := by decide +kernel
theorem d_Md_put_33 : decode prog_10_method_29_code 33 = .ok (.aload_n 0, 1) := by decide +kernel
theorem d_Md_put_34 : decode prog_10_method_29_code 34 = .ok (.getfield 69, 3) := by decide +kernel
theorem d_Md_put_37 : decode prog_10_method_29_code 37 = .ok (.iload_n 3, 1) := by decide +kernel
theorem d_Md_put_38 : decode prog_10_method_29_code 38 = .ok (.iconst 1, 1) := by decide +kernel
theorem d_Md_put_39 : decode prog_10_method_29_code 39 = .ok (.isub, 1) := by decide +kernel
theorem d_Md_put_40 : decode prog_10_method_29_code 40 = .ok (.iaload, 1) := by decide +kernel
theorem d_Md_put_41 : decode prog_10_method_29_code 41 = .ok (.iload_n 2, 1) := by decide +kernel
theorem d_Md_put_42 : decode prog_10_method_29_code 42 = .ok (.if_icmp .le 37, 3) := by decide +kernel
theorem d_Md_put_45 : decode prog_10_method_29_code 45 = .ok (.aload_n 0, 1) := by decide +kernel
theorem d_Md_put_46 : decode prog_10_method_29_code 46 = .ok (.getfield 66, 3) := by decide +kernel
theorem d_Md_put_49 : decode prog_10_method_29_code 49 = .ok (.iload_n 3, 1) := by decide +kernel
theorem d_Md_put_50 : decode prog_10_method_29_code 50 = .ok (.aload_n 0, 1) := by decide +kernel
theorem d_Md_put_51 : decode prog_10_method_29_code 51 = .ok (.getfield 66, 3) := by decide +kernel
theorem d_Md_put_54 : decode prog_10_method_29_code 54 = .ok (.iload_n 3, 1) := by decide +kernel
theorem d_Md_put_55 : decode prog_10_method_29_code 55 = .ok (.iconst 1, 1) := by decide +kernel
theorem d_Md_put_56 : decode prog_10_method_29_code 56 = .ok (.isub, 1) := by decide +kernel
theorem d_Md_put_57 : decode prog_10_method_29_code 57 = .ok (.iaload, 1) := by decide +kernel
theorem d_Md_put_58 : decode prog_10_method_29_code 58 = .ok (.iastore, 1) := by decide +kernel
theorem d_Md_put_59 : decode prog_10_method_29_code 59 = .ok (.aload_n 0, 1) := by decide +kernel
theorem d_Md_put_60 : decode prog_10_method_29_code 60 = .ok (.getfield 69, 3) := by decide +kernel
theorem d_Md_put_63 : decode prog_10_method_29_code 63 = .ok (.iload_n 3, 1) := by decide +kernel
theorem d_Md_put_64 : decode prog_10_method_29_code 64 = .ok (.aload_n 0, 1) := by decide +kernel
theorem d_Md_put_65 : decode prog_10_method_29_code 65 = .ok (.getfield 69, 3) := by decide +kernel
theorem d_Md_put_68 : decode prog_10_method_29_code 68 = .ok (.iload_n 3, 1) := by decide +kernel
theorem d_Md_put_69 : decode prog_10_method_29_code 69 = .ok (.iconst 1, 1) := by decide +kernel
theorem d_Md_put_70 : decode prog_10_method_29_code 70 = .ok (.isub, 1) := by decide +kernel
theorem d_Md_put_71 : decode prog_10_method_29_code 71 = .ok (.iaload, 1) := by decide +kernel
theorem d_Md_put_72 : decode prog_10_method_29_code 72 = .ok (.iastore, 1) := by decide +kernel
theorem d_Md_put_73 : decode prog_10_method_29_code 73 = .ok (.iinc 3 (-1), 3) := by decide +kernel
theorem d_Md_put_76 : decode prog_10_method_29_code 76 = .ok (.goto (-71), 3) := by decide +kernel
theorem d_Md_put_79 : decode prog_10_method_29_code 79 = .ok (.aload_n 0, 1) := by decide +kernel
theorem d_Md_put_80 : decode prog_10_method_29_code 80 = .ok (.getfield 66, 3) := by decide +kernel
theorem d_Md_put_83 : decode prog_10_method_29_code 83 = .ok (.iload_n 3, 1) := by decide +kernel
theorem d_Md_put_84 : decode prog_10_method_29_code 84 = .ok (.iload_n 1, 1) := by decide +kernel
theorem d_Md_put_85 : decode prog_10_method_29_code 85 = .ok (.iastore, 1) := by decide +kernel
theorem d_Md_put_86 : decode prog_10_method_29_code 86 = .ok (.aload_n 0, 1) := by decide +kernel
theorem d_Md_put_87 : decode prog_10_method_29_code 87 = .ok (.getfield 69, 3) := by decide +kernel
theorem d_Md_put_90 : decode prog_10_method_29_code 90 = .ok (.iload_n 3, 1) := by decide +kernel
theorem d_Md_put_91 : decode prog_10_method_29_code 91 = .ok (.iload_n 2, 1) := by decide +kernel
theorem d_Md_put_92 : decode prog_10_method_29_code 92 = .ok (.iastore, 1) := by decide +kernel
theorem d_Md_put_93 : decode prog_10_method_29_code 93 = .ok (.aload_n 0, 1) := by decide +kernel
theorem d_Md_put_94 : decode prog_10_method_29_code 94 = .ok (.dup, 1) := by decide +kernel
theorem d_Md_put_95 : decode prog_10_method_29_code 95 = .ok (.getfield 158, 3) := by decide +kernel
theorem d_Md_put_98 : decode prog_10_method_29_code 98 = .ok (.iconst 1, 1) := by decide +kernel
theorem d_Md_put_99 : decode prog_10_method_29_code 99 = .ok (.iadd, 1) := by decide +kernel
theorem d_Md_put_100 : decode prog_10_method_29_code 100 = .ok (.putfield 158, 3) := by decide +kernel
theorem d_Md_put_103 : decode prog_10_method_29_code 103 = .ok (.return_, 1) := by decide +kernel
def vc_Md_put (th : Int) (no : Int) (ca : Nat → Int) (ba : Nat → Int) (nl : Int) (xa : Nat → Int) (sa : Nat → Int) (da : Nat → Int) (la : Nat → Int) (ra : Nat → Int) (fa : Nat → Int) (ta : Nat → Int) (ua : Nat → Int) (uh : Nat → Int) (uo : Nat → Int) (ma : Nat → Int) (mh : Nat → Int) (ml : Nat → Int) (nf : Int) (fo : Nat → Int) (fh : Nat → Int) (fs : Nat → Int) (rs : Int) (ic : Int) (mn : Int) (bh : Nat → Int) (bo : Nat → Int) (ya : Nat → Int) (np : Int) (pa : Nat → Int) (nc : Int) (cp : Nat → Int) (hour : Int) (ob : Int) (post : (Nat → Int) → (Nat → Int) → Int → Prop) : Prop := ∃ (I1 : Int → (Nat → Int) → (Nat → Int) → Prop) (μ2 : Int → (Nat → Int) → (Nat → Int) → Nat), I1 mn bh bo ∧ ∀ (at_ : Int) (gh : Nat → Int) (go : Nat → Int), I1 at_ gh go → (r32 at_) ∧ ((at_ ≤ 0 → (0 ≤ at_ ∧ at_ < 36) ∧ ((0 ≤ at_ ∧ at_ < 36) ∧ (post (va_up gh (at_).toNat hour) (va_up go (at_).toNat ob) (mn + 1)))) ∧ (0 < at_ → (0 ≤ at_ - 1 ∧ at_ - 1 < 36) ∧ ((r32 (gh (at_ - 1).toNat)) ∧ ((r32 hour) ∧ ((hour < gh (at_ - 1).toNat → (0 ≤ at_ - 1 ∧ at_ - 1 < 36) ∧ ((0 ≤ at_ ∧ at_ < 36) ∧ ((0 ≤ at_ - 1 ∧ at_ - 1 < 36) ∧ ((0 ≤ at_ ∧ at_ < 36) ∧ (I1 (at_ - 1) (va_up gh (at_).toNat (gh (at_ - 1).toNat)) (va_up go (at_).toNat (go (at_ - 1).toNat)) ∧ μ2 (at_ - 1) (va_up gh (at_).toNat (gh (at_ - 1).toNat)) (va_up go (at_).toNat (go (at_ - 1).toNat)) < μ2 at_ gh go))))) ∧ (gh (at_ - 1).toNat ≤ hour → (0 ≤ at_ - 1 ∧ at_ - 1 < 36) ∧ ((¬ gh (at_ - 1).toNat = hour → (0 ≤ at_ ∧ at_ < 36) ∧ ((0 ≤ at_ ∧ at_ < 36) ∧ (post (va_up gh (at_).toNat hour) (va_up go (at_).toNat ob) (mn + 1)))) ∧ (gh (at_ - 1).toNat = hour → (0 ≤ at_ - 1 ∧ at_ - 1 < 36) ∧ ((r32 (go (at_ - 1).toNat)) ∧ ((r32 ob) ∧ ((go (at_ - 1).toNat ≤ ob → (0 ≤ at_ ∧ at_ < 36) ∧ ((0 ≤ at_ ∧ at_ < 36) ∧ (post (va_up gh (at_).toNat hour) (va_up go (at_).toNat ob) (mn + 1)))) ∧ (ob < go (at_ - 1).toNat → (0 ≤ at_ - 1 ∧ at_ - 1 < 36) ∧ ((0 ≤ at_ ∧ at_ < 36) ∧ ((0 ≤ at_ - 1 ∧ at_ - 1 < 36) ∧ ((0 ≤ at_ ∧ at_ < 36) ∧ (I1 (at_ - 1) (va_up gh (at_).toNat (gh (at_ - 1).toNat)) (va_up go (at_).toNat (go (at_ - 1).toNat)) ∧ μ2 (at_ - 1) (va_up gh (at_).toNat (gh (at_ - 1).toNat)) (va_up go (at_).toNat (go (at_ - 1).toNat)) < μ2 at_ gh go))))))))))))))))
set_option maxHeartbeats 4000000 in
set_option maxRecDepth 100000 in
theorem m_Md_put (l : Launch) (D : va_G) (cI cJ cO cZ : ClassId) (h0 h1 h2 h3 h4 h5 h6 h7 h8 h9 h10 h11 h12 h13 h14 h15 h16 h17 h18 h19 h20 h21 h22 h23 : Nat) (sz : Nat) (th : Int) (no : Int) (ca : Nat → Int) (ba : Nat → Int) (nl : Int) (xa : Nat → Int) (sa : Nat → Int) (da : Nat → Int) (la : Nat → Int) (ra : Nat → Int) (fa : Nat → Int) (ta : Nat → Int) (ua : Nat → Int) (uh : Nat → Int) (uo : Nat → Int) (ma : Nat → Int) (mh : Nat → Int) (ml : Nat → Int) (nf : Int) (fo : Nat → Int) (fh : Nat → Int) (fs : Nat → Int) (rs : Int) (ic : Int) (mn : Int) (bh : Nat → Int) (bo : Nat → Int) (ya : Nat → Int) (np : Int) (pa : Nat → Int) (nc : Int) (cp : Nat → Int) (hour : Int) (ob : Int) (post : (Nat → Int) → (Nat → Int) → Int → Prop) (v : vc_Md_put th no ca ba nl xa sa da la ra fa ta ua uh uo ma mh ml nf fo fh fs rs ic mn bh bo ya np pa nc cp hour ob post) : Met l ⟨"LightDosesModel", "put", "(II)V"⟩ (.code ⟨"LightDosesModel", "put", "(II)V"⟩ prog_10_method_29_code 4 none :: TG) { frames := 0, cells := 0, slots := 0, locals := 0 } (va_Pc [.ref h0, .int (iI hour), .int (iI ob)] (fun U => U.heap.size = sz ∧ va_P D vwCl (wMd cI cJ cZ h0 h1 h2 h3 h4 h5 h6 h7 h8 h9 h10 h11 h12 h13 h14 h15 h16 h17 h18 h19 h20 h21 h22 h23 th no ca ba nl xa sa da la ra fa ta ua uh uo ma mh ml nf fo fh fs rs ic mn bh bo ya np pa nc cp) U.heap ∧ va_K D vwCl (tyx cI cJ cO cZ) U ∧ va_D (fun _ => True) (wMd cI cJ cZ h0 h1 h2 h3 h4 h5 h6 h7 h8 h9 h10 h11 h12 h13 h14 h15 h16 h17 h18 h19 h20 h21 h22 h23 th no ca ba nl xa sa da la ra fa ta ua uh uo ma mh ml nf fo fh fs rs ic mn bh bo ya np pa nc cp))) (va_Qv (fun u : (Nat → Int) × (Nat → Int) × Int => post u.1 u.2.1 u.2.2) (fun u t => va_P D vwCl (wMd cI cJ cZ h0 h1 h2 h3 h4 h5 h6 h7 h8 h9 h10 h11 h12 h13 h14 h15 h16 h17 h18 h19 h20 h21 h22 h23 th no ca ba nl xa sa da la ra fa ta ua uh uo ma mh ml nf fo fh fs rs ic u.2.2 u.1 u.2.1 ya np pa nc cp) t.heap ∧ va_K D vwCl (tyx cI cJ cO cZ) t ∧ va_D (va_A (wMd cI cJ cZ h0 h1 h2 h3 h4 h5 h6 h7 h8 h9 h10 h11 h12 h13 h14 h15 h16 h17 h18 h19 h20 h21 h22 h23 th no ca ba nl xa sa da la ra fa ta ua uh uo ma mh ml nf fo fh fs rs ic mn bh bo ya np pa nc cp) sz) (wMd cI cJ cZ h0 h1 h2 h3 h4 h5 h6 h7 h8 h9 h10 h11 h12 h13 h14 h15 h16 h17 h18 h19 h20 h21 h22 h23 th no ca ba nl xa sa da la ra fa ta ua uh uo ma mh ml nf fo fh fs rs ic u.2.2 u.1 u.2.1 ya np pa nc cp)) (va_A (wMd cI cJ cZ h0 h1 h2 h3 h4 h5 h6 h7 h8 h9 h10 h11 h12 h13 h14 h15 h16 h17 h18 h19 h20 h21 h22 h23 th no ca ba nl xa sa da la ra fa ta ua uh uo ma mh ml nf fo fh fs rs ic mn bh bo ya np pa nc cp) sz)) 0 0 (va_A (wMd cI cJ cZ h0 h1 h2 h3 h4 h5 h6 h7 h8 h9 h10 h11 h12 h13 h14 h15 h16 h17 h18 h19 h20 h21 h22 h23 th no ca ba nl xa sa da la ra fa ta ua uh uo ma mh ml nf fo fh fs rs ic mn bh bo ya np pa nc cp) sz) := by
  refine Met.ofW (cc := prog_10_method_29_code) (maxL := 4) (ret := none) (by decide) rfl ?_
  intro p e s m args below meth c s₁ B hml hv
  obtain ⟨rfl, hsz, hP, hK, hD0⟩ := hv
  have hx := B.exec
  have hb := B.bytes
  have hr := B.returns
  have hts0 := atoms_spec (ws := (.code ⟨"LightDosesModel", "put", "(II)V"⟩ prog_10_method_29_code 4 none :: TG)) B.pre
  have hts : ∀ w ∈ TG, w.before _ s = true := fun w h => hts0 w (List.mem_cons_of_mem _ h)
  have hown : s.vm.findClass "LightDosesModel" = some m.cls := findClass_of_methodNamed B.named
  have hlocks := B.notSynchronized
  subst hsz
  have hD := hD0.self (sz := s.heap.size)
  generalize hAe : va_A (wMd cI cJ cZ h0 h1 h2 h3 h4 h5 h6 h7 h8 h9 h10 h11 h12 h13 h14 h15 h16 h17 h18 h19 h20 h21 h22 h23 th no ca ba nl xa sa da la ra fa ta ua uh uo ma mh ml nf fo fh fs rs ic mn bh bo ya np pa nc cp) s.heap.size = A at hD ⊢
  have hA : ∀ q : Nat, s.heap.size ≤ q → A q := fun q h => by rw [← hAe]; exact Or.inr h
  have hS : va_S A s.heap s.heap [] := va_S.rf
  have hP : va_P D vwCl (wMd cI cJ cZ h0 h1 h2 h3 h4 h5 h6 h7 h8 h9 h10 h11 h12 h13 h14 h15 h16 h17 h18 h19 h20 h21 h22 h23 th no ca ba nl xa sa da la ra fa ta ua uh uo ma mh ml nf fo fh fs rs ic mn bh bo ya np pa nc cp) s.heap := hP
  have hl := lv_entry ([Value.ref h0, Value.int (iI hour), Value.int (iI ob)]) (n := 4) (Nat.le_of_ble_eq_true rfl)
  rw [lg_entry_eq]
  generalize (lg_sl ([Value.ref h0, Value.int (iI hour), Value.int (iI ob)]) ++ List.replicate (4 - (lg_sl ([Value.ref h0, Value.int (iI hour), Value.int (iI ob)])).length) Slot.unset).toArray = ls at hl ⊢
  have hl : lv_has ls 4 [(0, .ref h0), (1, .int (iI hour)), (2, .int (iI ob))] := hl
  unfold vc_Md_put at v
  obtain ⟨H, hH⟩ : ∃ H, H = s.heap := ⟨_, rfl⟩
  obtain ⟨locs, hlc⟩ : ∃ L : List Loc, L = [] := ⟨_, rfl⟩
  rw [← hlc] at hS ⊢
  have hP : va_P D vwCl (wMd cI cJ cZ h0 h1 h2 h3 h4 h5 h6 h7 h8 h9 h10 h11 h12 h13 h14 h15 h16 h17 h18 h19 h20 h21 h22 h23 th no ca ba nl xa sa da la ra fa ta ua uh uo ma mh ml nf fo fh fs rs ic mn bh bo ya np pa nc cp) H := by rw [hH]; exact hP
  have hS : va_S A s.heap H locs := by rw [hH]; exact hS
  have hW0 : ∀ {X : Heap → Prop}, X H → X s.heap := fun h => by rw [← hH]; exact h
  refine hW0 (X := fun Z => W p l e _ s m _ below meth c Z locs 0 0 _ _) ?_
  refine lv_aload_n hx hb d_Md_put_0 rfl (lv_at hl 0 rfl) ?_
  refine va_get (D := D) (ci := 8) (v := .int (iI mn)) (C := "LightDosesModel") (T := T_Md) (N := 32) hx hb hts in_Md hown hK hP 0 rfl rfl 24 (by decide) (hts _ wd_727) (fun _ h9 => h9) rfl d_Md_put_1 ?_
  refine lv_istore_n (lv' := [(3, .int (iI mn)), (0, .ref h0), (1, .int (iI hour)), (2, .int (iI ob))]) hx hb d_Md_put_4 rfl hl (by decide) rfl (fun ls hl => ?_)
  obtain ⟨I1, μ2, v31, v32⟩ := v
  have L33 : ∀ (N : Nat) (at_ : Int) (gh : Nat → Int) (go : Nat → Int) (H : Heap) (locs : List Loc) (ls : Array Slot), μ2 at_ gh go < N → I1 at_ gh go → va_P D vwCl (wMd cI cJ cZ h0 h1 h2 h3 h4 h5 h6 h7 h8 h9 h10 h11 h12 h13 h14 h15 h16 h17 h18 h19 h20 h21 h22 h23 th no ca ba nl xa sa da la ra fa ta ua uh uo ma mh ml nf fo fh fs rs ic mn gh go ya np pa nc cp) H → va_D A (wMd cI cJ cZ h0 h1 h2 h3 h4 h5 h6 h7 h8 h9 h10 h11 h12 h13 h14 h15 h16 h17 h18 h19 h20 h21 h22 h23 th no ca ba nl xa sa da la ra fa ta ua uh uo ma mh ml nf fo fh fs rs ic mn gh go ya np pa nc cp) → va_S A s.heap H locs → lv_has ls 4 [(0, .ref h0), (1, .int (iI hour)), (2, .int (iI ob)), (3, .int (iI at_))] → W p l e (headSpec (.code ⟨"LightDosesModel", "put", "(II)V"⟩ prog_10_method_29_code 4 none :: TG) { frames := 0, cells := 0, slots := 0, locals := 0 }).room s m ([Value.ref h0, Value.int (iI hour), Value.int (iI ob)] : List Value).toArray below meth c H locs 0 0 (MQ below (va_Qv (fun u : (Nat → Int) × (Nat → Int) × Int => post u.1 u.2.1 u.2.2) (fun u t => va_P D vwCl (wMd cI cJ cZ h0 h1 h2 h3 h4 h5 h6 h7 h8 h9 h10 h11 h12 h13 h14 h15 h16 h17 h18 h19 h20 h21 h22 h23 th no ca ba nl xa sa da la ra fa ta ua uh uo ma mh ml nf fo fh fs rs ic u.2.2 u.1 u.2.1 ya np pa nc cp) t.heap ∧ va_K D vwCl (tyx cI cJ cO cZ) t ∧ va_D A (wMd cI cJ cZ h0 h1 h2 h3 h4 h5 h6 h7 h8 h9 h10 h11 h12 h13 h14 h15 h16 h17 h18 h19 h20 h21 h22 h23 th no ca ba nl xa sa da la ra fa ta ua uh uo ma mh ml nf fo fh fs rs ic u.2.2 u.1 u.2.1 ya np pa nc cp)) A) ([Value.ref h0, Value.int (iI hour), Value.int (iI ob)] : List Value).toArray s 0 0 A) (F0 m 5 ls []) := by
    intro N
    induction N with
    | zero => intro at_ gh go H locs ls hN; exact absurd hN (Nat.not_lt_zero _)
    | succ N ih3 =>
      intro at_ gh go H locs ls hN4 hI hP hD hS hl
      have v := v32 at_ gh go hI
      refine lv_iload_n hx hb d_Md_put_5 rfl (lv_at hl 3 rfl) ?_
      obtain ⟨k5, v⟩ := v
      refine nv_if_le (tgt := 79) hx hb d_Md_put_6 (by decide) k5 (fun c6 => ?_) (fun c6 => ?_)
      · replace v := v.1 c6
        refine lv_aload_n hx hb d_Md_put_79 rfl (lv_at hl 0 rfl) ?_
        refine va_get (D := D) (ci := 8) (v := .ref h19) (C := "LightDosesModel") (T := T_Md) (N := 32) hx hb hts in_Md hown hK hP 0 rfl rfl 25 (by decide) (hts _ wd_728) (fun _ h9 => h9) rfl d_Md_put_80 ?_
        refine lv_iload_n hx hb d_Md_put_83 rfl (lv_at hl 3 rfl) ?_
        refine lv_iload_n hx hb d_Md_put_84 rfl (lv_at hl 1 rfl) ?_
        obtain ⟨k7, v⟩ := v
        refine nv_iast (f := gh) hx hb hK hP hD hS 19 0 rfl rfl (at_).toNat (Int.toNat_of_nonneg k7.1).symm (by omega) (by decide) d_Md_put_85 (fun H locs hP hD hS => ?_)
        have hP : va_P D vwCl (wMd cI cJ cZ h0 h1 h2 h3 h4 h5 h6 h7 h8 h9 h10 h11 h12 h13 h14 h15 h16 h17 h18 h19 h20 h21 h22 h23 th no ca ba nl xa sa da la ra fa ta ua uh uo ma mh ml nf fo fh fs rs ic mn (va_up gh (at_).toNat hour) go ya np pa nc cp) H := hP
        have hD : va_D A (wMd cI cJ cZ h0 h1 h2 h3 h4 h5 h6 h7 h8 h9 h10 h11 h12 h13 h14 h15 h16 h17 h18 h19 h20 h21 h22 h23 th no ca ba nl xa sa da la ra fa ta ua uh uo ma mh ml nf fo fh fs rs ic mn (va_up gh (at_).toNat hour) go ya np pa nc cp) := hD
        refine lv_aload_n hx hb d_Md_put_86 rfl (lv_at hl 0 rfl) ?_
        refine va_get (D := D) (ci := 8) (v := .ref h20) (C := "LightDosesModel") (T := T_Md) (N := 32) hx hb hts in_Md hown hK hP 0 rfl rfl 26 (by decide) (hts _ wd_729) (fun _ h9 => h9) rfl d_Md_put_87 ?_
        refine lv_iload_n hx hb d_Md_put_90 rfl (lv_at hl 3 rfl) ?_
        refine lv_iload_n hx hb d_Md_put_91 rfl (lv_at hl 2 rfl) ?_
        obtain ⟨k8, v⟩ := v
        refine nv_iast (f := go) hx hb hK hP hD hS 20 0 rfl rfl (at_).toNat (Int.toNat_of_nonneg k8.1).symm (by omega) (by decide) d_Md_put_92 (fun H locs hP hD hS => ?_)
        have hP : va_P D vwCl (wMd cI cJ cZ h0 h1 h2 h3 h4 h5 h6 h7 h8 h9 h10 h11 h12 h13 h14 h15 h16 h17 h18 h19 h20 h21 h22 h23 th no ca ba nl xa sa da la ra fa ta ua uh uo ma mh ml nf fo fh fs rs ic mn (va_up gh (at_).toNat hour) (va_up go (at_).toNat ob) ya np pa nc cp) H := hP
        have hD : va_D A (wMd cI cJ cZ h0 h1 h2 h3 h4 h5 h6 h7 h8 h9 h10 h11 h12 h13 h14 h15 h16 h17 h18 h19 h20 h21 h22 h23 th no ca ba nl xa sa da la ra fa ta ua uh uo ma mh ml nf fo fh fs rs ic mn (va_up gh (at_).toNat hour) (va_up go (at_).toNat ob) ya np pa nc cp) := hD
        refine lv_aload_n hx hb d_Md_put_93 rfl (lv_at hl 0 rfl) ?_
        refine lv_dup hx hb d_Md_put_94 rfl ?_
        refine va_get (D := D) (ci := 8) (v := .int (iI mn)) (C := "LightDosesModel") (T := T_Md) (N := 32) hx hb hts in_Md hown hK hP 0 rfl rfl 24 (by decide) (hts _ wd_727) (fun _ h9 => h9) rfl d_Md_put_95 ?_
        refine nv_iconst (n := 1) hx hb d_Md_put_98 ?_
        refine nv_iadd (z := mn + 1) hx hb d_Md_put_99 (by first | rfl | omega) ?_
        refine va_put (D := D) (ci := 8) (v := .int (iI (mn + 1))) (ty := .int) (C := "LightDosesModel") (T := T_Md) (N := 32) hx hb hts in_Md t_Md tok_Md n_Md hown hK hP hD hS 0 rfl rfl 24 (by decide) (hts _ wd_727) (fun _ h9 => h9) rfl (by decide +kernel) rfl rfl (Nat.le_of_ble_eq_true rfl) d_Md_put_100 (fun H locs hP hD hS => ?_)
        have hP : va_P D vwCl (wMd cI cJ cZ h0 h1 h2 h3 h4 h5 h6 h7 h8 h9 h10 h11 h12 h13 h14 h15 h16 h17 h18 h19 h20 h21 h22 h23 th no ca ba nl xa sa da la ra fa ta ua uh uo ma mh ml nf fo fh fs rs ic (mn + 1) (va_up gh (at_).toNat hour) (va_up go (at_).toNat ob) ya np pa nc cp) H := hP
        have hD : va_D A (wMd cI cJ cZ h0 h1 h2 h3 h4 h5 h6 h7 h8 h9 h10 h11 h12 h13 h14 h15 h16 h17 h18 h19 h20 h21 h22 h23 th no ca ba nl xa sa da la ra fa ta ua uh uo ma mh ml nf fo fh fs rs ic (mn + 1) (va_up gh (at_).toNat hour) (va_up go (at_).toNat ob) ya np pa nc cp) := hD
        have hP9 := hP.sub (ws' := (wMd cI cJ cZ h0 h1 h2 h3 h4 h5 h6 h7 h8 h9 h10 h11 h12 h13 h14 h15 h16 h17 h18 h19 h20 h21 h22 h23 th no ca ba nl xa sa da la ra fa ta ua uh uo ma mh ml nf fo fh fs rs ic (mn + 1) (va_up gh (at_).toNat hour) (va_up go (at_).toNat ob) ya np pa nc cp)) [0, 1, 2, 3, 4, 5, 6, 7, 8, 9, 10, 11, 12, 13, 14, 15, 16, 17, 18, 19, 20, 21, 22, 23] rfl
        have hD9 := hD.sub (ws' := (wMd cI cJ cZ h0 h1 h2 h3 h4 h5 h6 h7 h8 h9 h10 h11 h12 h13 h14 h15 h16 h17 h18 h19 h20 h21 h22 h23 th no ca ba nl xa sa da la ra fa ta ua uh uo ma mh ml nf fo fh fs rs ic (mn + 1) (va_up gh (at_).toNat hour) (va_up go (at_).toNat ob) ya np pa nc cp)) [0, 1, 2, 3, 4, 5, 6, 7, 8, 9, 10, 11, 12, 13, 14, 15, 16, 17, 18, 19, 20, 21, 22, 23] (by decide) rfl
        exact W.vret hx hb hr (fun t ht hW => ⟨⟨((va_up gh (at_).toNat hour), (va_up go (at_).toNat ob), (mn + 1)), rfl, v, by rw [ht]; exact hP9, va_K.moved hW.alike hK, hD9⟩, hS.F ht⟩) hS.2.2 d_Md_put_103
      · replace v := v.2 c6
        refine lv_aload_n hx hb d_Md_put_9 rfl (lv_at hl 0 rfl) ?_
        refine va_get (D := D) (ci := 8) (v := .ref h19) (C := "LightDosesModel") (T := T_Md) (N := 32) hx hb hts in_Md hown hK hP 0 rfl rfl 25 (by decide) (hts _ wd_728) (fun _ h9 => h9) rfl d_Md_put_10 ?_
        refine lv_iload_n hx hb d_Md_put_13 rfl (lv_at hl 3 rfl) ?_
        refine nv_iconst (n := 1) hx hb d_Md_put_14 ?_
        refine nv_isub (z := at_ - 1) hx hb d_Md_put_15 (by first | rfl | omega) ?_
        obtain ⟨k9, v⟩ := v
        refine nv_iald (f := gh) hx hb hK 0 (hP 19 _ rfl) rfl (at_ - 1).toNat (Int.toNat_of_nonneg k9.1).symm (by omega) (by decide) d_Md_put_16 ?_
        refine lv_iload_n hx hb d_Md_put_17 rfl (lv_at hl 1 rfl) ?_
        obtain ⟨k10, v⟩ := v
        obtain ⟨k11, v⟩ := v
        refine nv_icmp_gt (tgt := 45) hx hb d_Md_put_18 (by decide) k10 k11 (fun c12 => ?_) (fun c12 => ?_)
        · replace v := v.1 c12
          refine lv_aload_n hx hb d_Md_put_45 rfl (lv_at hl 0 rfl) ?_
          refine va_get (D := D) (ci := 8) (v := .ref h19) (C := "LightDosesModel") (T := T_Md) (N := 32) hx hb hts in_Md hown hK hP 0 rfl rfl 25 (by decide) (hts _ wd_728) (fun _ h9 => h9) rfl d_Md_put_46 ?_
          refine lv_iload_n hx hb d_Md_put_49 rfl (lv_at hl 3 rfl) ?_
          refine lv_aload_n hx hb d_Md_put_50 rfl (lv_at hl 0 rfl) ?_
          refine va_get (D := D) (ci := 8) (v := .ref h19) (C := "LightDosesModel") (T := T_Md) (N := 32) hx hb hts in_Md hown hK hP 0 rfl rfl 25 (by decide) (hts _ wd_728) (fun _ h9 => h9) rfl d_Md_put_51 ?_
          refine lv_iload_n hx hb d_Md_put_54 rfl (lv_at hl 3 rfl) ?_
          refine nv_iconst (n := 1) hx hb d_Md_put_55 ?_
          refine nv_isub (z := at_ - 1) hx hb d_Md_put_56 (by first | rfl | omega) ?_
          obtain ⟨k13, v⟩ := v
          refine nv_iald (f := gh) hx hb hK 0 (hP 19 _ rfl) rfl (at_ - 1).toNat (Int.toNat_of_nonneg k13.1).symm (by omega) (by decide) d_Md_put_57 ?_
          obtain ⟨k14, v⟩ := v
          refine nv_iast (f := gh) hx hb hK hP hD hS 19 0 rfl rfl (at_).toNat (Int.toNat_of_nonneg k14.1).symm (by omega) (by decide) d_Md_put_58 (fun H locs hP hD hS => ?_)
          have hP : va_P D vwCl (wMd cI cJ cZ h0 h1 h2 h3 h4 h5 h6 h7 h8 h9 h10 h11 h12 h13 h14 h15 h16 h17 h18 h19 h20 h21 h22 h23 th no ca ba nl xa sa da la ra fa ta ua uh uo ma mh ml nf fo fh fs rs ic mn (va_up gh (at_).toNat (gh (at_ - 1).toNat)) go ya np pa nc cp) H := hP
          have hD : va_D A (wMd cI cJ cZ h0 h1 h2 h3 h4 h5 h6 h7 h8 h9 h10 h11 h12 h13 h14 h15 h16 h17 h18 h19 h20 h21 h22 h23 th no ca ba nl xa sa da la ra fa ta ua uh uo ma mh ml nf fo fh fs rs ic mn (va_up gh (at_).toNat (gh (at_ - 1).toNat)) go ya np pa nc cp) := hD
          refine lv_aload_n hx hb d_Md_put_59 rfl (lv_at hl 0 rfl) ?_
          refine va_get (D := D) (ci := 8) (v := .ref h20) (C := "LightDosesModel") (T := T_Md) (N := 32) hx hb hts in_Md hown hK hP 0 rfl rfl 26 (by decide) (hts _ wd_729) (fun _ h9 => h9) rfl d_Md_put_60 ?_
          refine lv_iload_n hx hb d_Md_put_63 rfl (lv_at hl 3 rfl) ?_
          refine lv_aload_n hx hb d_Md_put_64 rfl (lv_at hl 0 rfl) ?_
          refine va_get (D := D) (ci := 8) (v := .ref h20) (C := "LightDosesModel") (T := T_Md) (N := 32) hx hb hts in_Md hown hK hP 0 rfl rfl 26 (by decide) (hts _ wd_729) (fun _ h9 => h9) rfl d_Md_put_65 ?_
          refine lv_iload_n hx hb d_Md_put_68 rfl (lv_at hl 3 rfl) ?_
          refine nv_iconst (n := 1) hx hb d_Md_put_69 ?_
          refine nv_isub (z := at_ - 1) hx hb d_Md_put_70 (by first | rfl | omega) ?_
          obtain ⟨k15, v⟩ := v
          refine nv_iald (f := go) hx hb hK 0 (hP 20 _ rfl) rfl (at_ - 1).toNat (Int.toNat_of_nonneg k15.1).symm (by omega) (by decide) d_Md_put_71 ?_
          obtain ⟨k16, v⟩ := v
          refine nv_iast (f := go) hx hb hK hP hD hS 20 0 rfl rfl (at_).toNat (Int.toNat_of_nonneg k16.1).symm (by omega) (by decide) d_Md_put_72 (fun H locs hP hD hS => ?_)
          have hP : va_P D vwCl (wMd cI cJ cZ h0 h1 h2 h3 h4 h5 h6 h7 h8 h9 h10 h11 h12 h13 h14 h15 h16 h17 h18 h19 h20 h21 h22 h23 th no ca ba nl xa sa da la ra fa ta ua uh uo ma mh ml nf fo fh fs rs ic mn (va_up gh (at_).toNat (gh (at_ - 1).toNat)) (va_up go (at_).toNat (go (at_ - 1).toNat)) ya np pa nc cp) H := hP
          have hD : va_D A (wMd cI cJ cZ h0 h1 h2 h3 h4 h5 h6 h7 h8 h9 h10 h11 h12 h13 h14 h15 h16 h17 h18 h19 h20 h21 h22 h23 th no ca ba nl xa sa da la ra fa ta ua uh uo ma mh ml nf fo fh fs rs ic mn (va_up gh (at_).toNat (gh (at_ - 1).toNat)) (va_up go (at_).toNat (go (at_ - 1).toNat)) ya np pa nc cp) := hD
          refine nv_iinc (k := 3) (z := at_ - 1) (lv' := [(3, .int (iI (at_ - 1))), (0, .ref h0), (1, .int (iI hour)), (2, .int (iI ob))]) hx hb d_Md_put_73 hl rfl (by omega) (by decide) rfl (fun ls hl => ?_)
          refine lv_goto (tgt := 5) hx hb d_Md_put_76 (by decide) ?_
          exact ih3 (at_ - 1) (va_up gh (at_).toNat (gh (at_ - 1).toNat)) (va_up go (at_).toNat (go (at_ - 1).toNat)) H locs ls (Nat.lt_of_lt_of_le v.2 (Nat.le_of_lt_succ hN4)) v.1 hP hD hS (lv_sub hl [1, 2, 3, 0] rfl)
        · replace v := v.2 c12
          refine lv_aload_n hx hb d_Md_put_21 rfl (lv_at hl 0 rfl) ?_
          refine va_get (D := D) (ci := 8) (v := .ref h19) (C := "LightDosesModel") (T := T_Md) (N := 32) hx hb hts in_Md hown hK hP 0 rfl rfl 25 (by decide) (hts _ wd_728) (fun _ h9 => h9) rfl d_Md_put_22 ?_
          refine lv_iload_n hx hb d_Md_put_25 rfl (lv_at hl 3 rfl) ?_
          refine nv_iconst (n := 1) hx hb d_Md_put_26 ?_
          refine nv_isub (z := at_ - 1) hx hb d_Md_put_27 (by first | rfl | omega) ?_
          obtain ⟨k17, v⟩ := v
          refine nv_iald (f := gh) hx hb hK 0 (hP 19 _ rfl) rfl (at_ - 1).toNat (Int.toNat_of_nonneg k17.1).symm (by omega) (by decide) d_Md_put_28 ?_
          refine lv_iload_n hx hb d_Md_put_29 rfl (lv_at hl 1 rfl) ?_
          refine nv_icmp_ne (tgt := 79) hx hb d_Md_put_30 (by decide) k10 k11 (fun c18 => ?_) (fun c18 => ?_)
          · replace v := v.1 c18
            refine lv_aload_n hx hb d_Md_put_79 rfl (lv_at hl 0 rfl) ?_
            refine va_get (D := D) (ci := 8) (v := .ref h19) (C := "LightDosesModel") (T := T_Md) (N := 32) hx hb hts in_Md hown hK hP 0 rfl rfl 25 (by decide) (hts _ wd_728) (fun _ h9 => h9) rfl d_Md_put_80 ?_
            refine lv_iload_n hx hb d_Md_put_83 rfl (lv_at hl 3 rfl) ?_
            refine lv_iload_n hx hb d_Md_put_84 rfl (lv_at hl 1 rfl) ?_
            obtain ⟨k19, v⟩ := v
            refine nv_iast (f := gh) hx hb hK hP hD hS 19 0 rfl rfl (at_).toNat (Int.toNat_of_nonneg k19.1).symm (by omega) (by decide) d_Md_put_85 (fun H locs hP hD hS => ?_)
            have hP : va_P D vwCl (wMd cI cJ cZ h0 h1 h2 h3 h4 h5 h6 h7 h8 h9 h10 h11 h12 h13 h14 h15 h16 h17 h18 h19 h20 h21 h22 h23 th no ca ba nl xa sa da la ra fa ta ua uh uo ma mh ml nf fo fh fs rs ic mn (va_up gh (at_).toNat hour) go ya np pa nc cp) H := hP
            have hD : va_D A (wMd cI cJ cZ h0 h1 h2 h3 h4 h5 h6 h7 h8 h9 h10 h11 h12 h13 h14 h15 h16 h17 h18 h19 h20 h21 h22 h23 th no ca ba nl xa sa da la ra fa ta ua uh uo ma mh ml nf fo fh fs rs ic mn (va_up gh (at_).toNat hour) go ya np pa nc cp) := hD
            refine lv_aload_n hx hb d_Md_put_86 rfl (lv_at hl 0 rfl) ?_
            refine va_get (D := D) (ci := 8) (v := .ref h20) (C := "LightDosesModel") (T := T_Md) (N := 32) hx hb hts in_Md hown hK hP 0 rfl rfl 26 (by decide) (hts _ wd_729) (fun _ h9 => h9) rfl d_Md_put_87 ?_
            refine lv_iload_n hx hb d_Md_put_90 rfl (lv_at hl 3 rfl) ?_
            refine lv_iload_n hx hb d_Md_put_91 rfl (lv_at hl 2 rfl) ?_
            obtain ⟨k20, v⟩ := v
            refine nv_iast (f := go) hx hb hK hP hD hS 20 0 rfl rfl (at_).toNat (Int.toNat_of_nonneg k20.1).symm (by omega) (by decide) d_Md_put_92 (fun H locs hP hD hS => ?_)
            have hP : va_P D vwCl (wMd cI cJ cZ h0 h1 h2 h3 h4 h5 h6 h7 h8 h9 h10 h11 h12 h13 h14 h15 h16 h17 h18 h19 h20 h21 h22 h23 th no ca ba nl xa sa da la ra fa ta ua uh uo ma mh ml nf fo fh fs rs ic mn (va_up gh (at_).toNat hour) (va_up go (at_).toNat ob) ya np pa nc cp) H := hP
            have hD : va_D A (wMd cI cJ cZ h0 h1 h2 h3 h4 h5 h6 h7 h8 h9 h10 h11 h12 h13 h14 h15 h16 h17 h18 h19 h20 h21 h22 h23 th no ca ba nl xa sa da la ra fa ta ua uh uo ma mh ml nf fo fh fs rs ic mn (va_up gh (at_).toNat hour) (va_up go (at_).toNat ob) ya np pa nc cp) := hD
            refine lv_aload_n hx hb d_Md_put_93 rfl (lv_at hl 0 rfl) ?_
            refine lv_dup hx hb d_Md_put_94 rfl ?_
            refine va_get (D := D) (ci := 8) (v := .int (iI mn)) (C := "LightDosesModel") (T := T_Md) (N := 32) hx hb hts in_Md hown hK hP 0 rfl rfl 24 (by decide) (hts _ wd_727) (fun _ h9 => h9) rfl d_Md_put_95 ?_
            refine nv_iconst (n := 1) hx hb d_Md_put_98 ?_
            refine nv_iadd (z := mn + 1) hx hb d_Md_put_99 (by first | rfl | omega) ?_
            refine va_put (D := D) (ci := 8) (v := .int (iI (mn + 1))) (ty := .int) (C := "LightDosesModel") (T := T_Md) (N := 32) hx hb hts in_Md t_Md tok_Md n_Md hown hK hP hD hS 0 rfl rfl 24 (by decide) (hts _ wd_727) (fun _ h9 => h9) rfl (by decide +kernel) rfl rfl (Nat.le_of_ble_eq_true rfl) d_Md_put_100 (fun H locs hP hD hS => ?_)
            have hP : va_P D vwCl (wMd cI cJ cZ h0 h1 h2 h3 h4 h5 h6 h7 h8 h9 h10 h11 h12 h13 h14 h15 h16 h17 h18 h19 h20 h21 h22 h23 th no ca ba nl xa sa da la ra fa ta ua uh uo ma mh ml nf fo fh fs rs ic (mn + 1) (va_up gh (at_).toNat hour) (va_up go (at_).toNat ob) ya np pa nc cp) H := hP
            have hD : va_D A (wMd cI cJ cZ h0 h1 h2 h3 h4 h5 h6 h7 h8 h9 h10 h11 h12 h13 h14 h15 h16 h17 h18 h19 h20 h21 h22 h23 th no ca ba nl xa sa da la ra fa ta ua uh uo ma mh ml nf fo fh fs rs ic (mn + 1) (va_up gh (at_).toNat hour) (va_up go (at_).toNat ob) ya np pa nc cp) := hD
            have hP9 := hP.sub (ws' := (wMd cI cJ cZ h0 h1 h2 h3 h4 h5 h6 h7 h8 h9 h10 h11 h12 h13 h14 h15 h16 h17 h18 h19 h20 h21 h22 h23 th no ca ba nl xa sa da la ra fa ta ua uh uo ma mh ml nf fo fh fs rs ic (mn + 1) (va_up gh (at_).toNat hour) (va_up go (at_).toNat ob) ya np pa nc cp)) [0, 1, 2, 3, 4, 5, 6, 7, 8, 9, 10, 11, 12, 13, 14, 15, 16, 17, 18, 19, 20, 21, 22, 23] rfl
            have hD9 := hD.sub (ws' := (wMd cI cJ cZ h0 h1 h2 h3 h4 h5 h6 h7 h8 h9 h10 h11 h12 h13 h14 h15 h16 h17 h18 h19 h20 h21 h22 h23 th no ca ba nl xa sa da la ra fa ta ua uh uo ma mh ml nf fo fh fs rs ic (mn + 1) (va_up gh (at_).toNat hour) (va_up go (at_).toNat ob) ya np pa nc cp)) [0, 1, 2, 3, 4, 5, 6, 7, 8, 9, 10, 11, 12, 13, 14, 15, 16, 17, 18, 19, 20, 21, 22, 23] (by decide) rfl
            exact W.vret hx hb hr (fun t ht hW => ⟨⟨((va_up gh (at_).toNat hour), (va_up go (at_).toNat ob), (mn + 1)), rfl, v, by rw [ht]; exact hP9, va_K.moved hW.alike hK, hD9⟩, hS.F ht⟩) hS.2.2 d_Md_put_103
          · replace v := v.2 c18
            refine lv_aload_n hx hb d_Md_put_33 rfl (lv_at hl 0 rfl) ?_
            refine va_get (D := D) (ci := 8) (v := .ref h20) (C := "LightDosesModel") (T := T_Md) (N := 32) hx hb hts in_Md hown hK hP 0 rfl rfl 26 (by decide) (hts _ wd_729) (fun _ h9 => h9) rfl d_Md_put_34 ?_
            refine lv_iload_n hx hb d_Md_put_37 rfl (lv_at hl 3 rfl) ?_
            refine nv_iconst (n := 1) hx hb d_Md_put_38 ?_
            refine nv_isub (z := at_ - 1) hx hb d_Md_put_39 (by first | rfl | omega) ?_
            obtain ⟨k21, v⟩ := v
            refine nv_iald (f := go) hx hb hK 0 (hP 20 _ rfl) rfl (at_ - 1).toNat (Int.toNat_of_nonneg k21.1).symm (by omega) (by decide) d_Md_put_40 ?_
            refine lv_iload_n hx hb d_Md_put_41 rfl (lv_at hl 2 rfl) ?_
            obtain ⟨k22, v⟩ := v
            obtain ⟨k23, v⟩ := v
            refine nv_icmp_le (tgt := 79) hx hb d_Md_put_42 (by decide) k22 k23 (fun c24 => ?_) (fun c24 => ?_)
            · replace v := v.1 c24
              refine lv_aload_n hx hb d_Md_put_79 rfl (lv_at hl 0 rfl) ?_
              refine va_get (D := D) (ci := 8) (v := .ref h19) (C := "LightDosesModel") (T := T_Md) (N := 32) hx hb hts in_Md hown hK hP 0 rfl rfl 25 (by decide) (hts _ wd_728) (fun _ h9 => h9) rfl d_Md_put_80 ?_
              refine lv_iload_n hx hb d_Md_put_83 rfl (lv_at hl 3 rfl) ?_
              refine lv_iload_n hx hb d_Md_put_84 rfl (lv_at hl 1 rfl) ?_
              obtain ⟨k25, v⟩ := v
              refine nv_iast (f := gh) hx hb hK hP hD hS 19 0 rfl rfl (at_).toNat (Int.toNat_of_nonneg k25.1).symm (by omega) (by decide) d_Md_put_85 (fun H locs hP hD hS => ?_)
              have hP : va_P D vwCl (wMd cI cJ cZ h0 h1 h2 h3 h4 h5 h6 h7 h8 h9 h10 h11 h12 h13 h14 h15 h16 h17 h18 h19 h20 h21 h22 h23 th no ca ba nl xa sa da la ra fa ta ua uh uo ma mh ml nf fo fh fs rs ic mn (va_up gh (at_).toNat hour) go ya np pa nc cp) H := hP
              have hD : va_D A (wMd cI cJ cZ h0 h1 h2 h3 h4 h5 h6 h7 h8 h9 h10 h11 h12 h13 h14 h15 h16 h17 h18 h19 h20 h21 h22 h23 th no ca ba nl xa sa da la ra fa ta ua uh uo ma mh ml nf fo fh fs rs ic mn (va_up gh (at_).toNat hour) go ya np pa nc cp) := hD
              refine lv_aload_n hx hb d_Md_put_86 rfl (lv_at hl 0 rfl) ?_
              refine va_get (D := D) (ci := 8) (v := .ref h20) (C := "LightDosesModel") (T := T_Md) (N := 32) hx hb hts in_Md hown hK hP 0 rfl rfl 26 (by decide) (hts _ wd_729) (fun _ h9 => h9) rfl d_Md_put_87 ?_
              refine lv_iload_n hx hb d_Md_put_90 rfl (lv_at hl 3 rfl) ?_
              refine lv_iload_n hx hb d_Md_put_91 rfl (lv_at hl 2 rfl) ?_
              obtain ⟨k26, v⟩ := v
              refine nv_iast (f := go) hx hb hK hP hD hS 20 0 rfl rfl (at_).toNat (Int.toNat_of_nonneg k26.1).symm (by omega) (by decide) d_Md_put_92 (fun H locs hP hD hS => ?_)
              have hP : va_P D vwCl (wMd cI cJ cZ h0 h1 h2 h3 h4 h5 h6 h7 h8 h9 h10 h11 h12 h13 h14 h15 h16 h17 h18 h19 h20 h21 h22 h23 th no ca ba nl xa sa da la ra fa ta ua uh uo ma mh ml nf fo fh fs rs ic mn (va_up gh (at_).toNat hour) (va_up go (at_).toNat ob) ya np pa nc cp) H := hP
              have hD : va_D A (wMd cI cJ cZ h0 h1 h2 h3 h4 h5 h6 h7 h8 h9 h10 h11 h12 h13 h14 h15 h16 h17 h18 h19 h20 h21 h22 h23 th no ca ba nl xa sa da la ra fa ta ua uh uo ma mh ml nf fo fh fs rs ic mn (va_up gh (at_).toNat hour) (va_up go (at_).toNat ob) ya np pa nc cp) := hD
              refine lv_aload_n hx hb d_Md_put_93 rfl (lv_at hl 0 rfl) ?_
              refine lv_dup hx hb d_Md_put_94 rfl ?_
              refine va_get (D := D) (ci := 8) (v := .int (iI mn)) (C := "LightDosesModel") (T := T_Md) (N := 32) hx hb hts in_Md hown hK hP 0 rfl rfl 24 (by decide) (hts _ wd_727) (fun _ h9 => h9) rfl d_Md_put_95 ?_
              refine nv_iconst (n := 1) hx hb d_Md_put_98 ?_
              refine nv_iadd (z := mn + 1) hx hb d_Md_put_99 (by first | rfl | omega) ?_
              refine va_put (D := D) (ci := 8) (v := .int (iI (mn + 1))) (ty := .int) (C := "LightDosesModel") (T := T_Md) (N := 32) hx hb hts in_Md t_Md tok_Md n_Md hown hK hP hD hS 0 rfl rfl 24 (by decide) (hts _ wd_727) (fun _ h9 => h9) rfl (by decide +kernel) rfl rfl (Nat.le_of_ble_eq_true rfl) d_Md_put_100 (fun H locs hP hD hS => ?_)
              have hP : va_P D vwCl (wMd cI cJ cZ h0 h1 h2 h3 h4 h5 h6 h7 h8 h9 h10 h11 h12 h13 h14 h15 h16 h17 h18 h19 h20 h21 h22 h23 th no ca ba nl xa sa da la ra fa ta ua uh uo ma mh ml nf fo fh fs rs ic (mn + 1) (va_up gh (at_).toNat hour) (va_up go (at_).toNat ob) ya np pa nc cp) H := hP
              have hD : va_D A (wMd cI cJ cZ h0 h1 h2 h3 h4 h5 h6 h7 h8 h9 h10 h11 h12 h13 h14 h15 h16 h17 h18 h19 h20 h21 h22 h23 th no ca ba nl xa sa da la ra fa ta ua uh uo ma mh ml nf fo fh fs rs ic (mn + 1) (va_up gh (at_).toNat hour) (va_up go (at_).toNat ob) ya np pa nc cp) := hD
              have hP9 := hP.sub (ws' := (wMd cI cJ cZ h0 h1 h2 h3 h4 h5 h6 h7 h8 h9 h10 h11 h12 h13 h14 h15 h16 h17 h18 h19 h20 h21 h22 h23 th no ca ba nl xa sa da la ra fa ta ua uh uo ma mh ml nf fo fh fs rs ic (mn + 1) (va_up gh (at_).toNat hour) (va_up go (at_).toNat ob) ya np pa nc cp)) [0, 1, 2, 3, 4, 5, 6, 7, 8, 9, 10, 11, 12, 13, 14, 15, 16, 17, 18, 19, 20, 21, 22, 23] rfl
              have hD9 := hD.sub (ws' := (wMd cI cJ cZ h0 h1 h2 h3 h4 h5 h6 h7 h8 h9 h10 h11 h12 h13 h14 h15 h16 h17 h18 h19 h20 h21 h22 h23 th no ca ba nl xa sa da la ra fa ta ua uh uo ma mh ml nf fo fh fs rs ic (mn + 1) (va_up gh (at_).toNat hour) (va_up go (at_).toNat ob) ya np pa nc cp)) [0, 1, 2, 3, 4, 5, 6, 7, 8, 9, 10, 11, 12, 13, 14, 15, 16, 17, 18, 19, 20, 21, 22, 23] (by decide) rfl
              exact W.vret hx hb hr (fun t ht hW => ⟨⟨((va_up gh (at_).toNat hour), (va_up go (at_).toNat ob), (mn + 1)), rfl, v, by rw [ht]; exact hP9, va_K.moved hW.alike hK, hD9⟩, hS.F ht⟩) hS.2.2 d_Md_put_103
            · replace v := v.2 c24
              refine lv_aload_n hx hb d_Md_put_45 rfl (lv_at hl 0 rfl) ?_
              refine va_get (D := D) (ci := 8) (v := .ref h19) (C := "LightDosesModel") (T := T_Md) (N := 32) hx hb hts in_Md hown hK hP 0 rfl rfl 25 (by decide) (hts _ wd_728) (fun _ h9 => h9) rfl d_Md_put_46 ?_
              refine lv_iload_n hx hb d_Md_put_49 rfl (lv_at hl 3 rfl) ?_
              refine lv_aload_n hx hb d_Md_put_50 rfl (lv_at hl 0 rfl) ?_
              refine va_get (D := D) (ci := 8) (v := .ref h19) (C := "LightDosesModel") (T := T_Md) (N := 32) hx hb hts in_Md hown hK hP 0 rfl rfl 25 (by decide) (hts _ wd_728) (fun _ h9 => h9) rfl d_Md_put_51 ?_
              refine lv_iload_n hx hb d_Md_put_54 rfl (lv_at hl 3 rfl) ?_
              refine nv_iconst (n := 1) hx hb d_Md_put_55 ?_
              refine nv_isub (z := at_ - 1) hx hb d_Md_put_56 (by first | rfl | omega) ?_
              obtain ⟨k27, v⟩ := v
              refine nv_iald (f := gh) hx hb hK 0 (hP 19 _ rfl) rfl (at_ - 1).toNat (Int.toNat_of_nonneg k27.1).symm (by omega) (by decide) d_Md_put_57 ?_
              obtain ⟨k28, v⟩ := v
              refine nv_iast (f := gh) hx hb hK hP hD hS 19 0 rfl rfl (at_).toNat (Int.toNat_of_nonneg k28.1).symm (by omega) (by decide) d_Md_put_58 (fun H locs hP hD hS => ?_)
              have hP : va_P D vwCl (wMd cI cJ cZ h0 h1 h2 h3 h4 h5 h6 h7 h8 h9 h10 h11 h12 h13 h14 h15 h16 h17 h18 h19 h20 h21 h22 h23 th no ca ba nl xa sa da la ra fa ta ua uh uo ma mh ml nf fo fh fs rs ic mn (va_up gh (at_).toNat (gh (at_ - 1).toNat)) go ya np pa nc cp) H := hP
              have hD : va_D A (wMd cI cJ cZ h0 h1 h2 h3 h4 h5 h6 h7 h8 h9 h10 h11 h12 h13 h14 h15 h16 h17 h18 h19 h20 h21 h22 h23 th no ca ba nl xa sa da la ra fa ta ua uh uo ma mh ml nf fo fh fs rs ic mn (va_up gh (at_).toNat (gh (at_ - 1).toNat)) go ya np pa nc cp) := hD
              refine lv_aload_n hx hb d_Md_put_59 rfl (lv_at hl 0 rfl) ?_
              refine va_get (D := D) (ci := 8) (v := .ref h20) (C := "LightDosesModel") (T := T_Md) (N := 32) hx hb hts in_Md hown hK hP 0 rfl rfl 26 (by decide) (hts _ wd_729) (fun _ h9 => h9) rfl d_Md_put_60 ?_
              refine lv_iload_n hx hb d_Md_put_63 rfl (lv_at hl 3 rfl) ?_
              refine lv_aload_n hx hb d_Md_put_64 rfl (lv_at hl 0 rfl) ?_
              refine va_get (D := D) (ci := 8) (v := .ref h20) (C := "LightDosesModel") (T := T_Md) (N := 32) hx hb hts in_Md hown hK hP 0 rfl rfl 26 (by decide) (hts _ wd_729) (fun _ h9 => h9) rfl d_Md_put_65 ?_
              refine lv_iload_n hx hb d_Md_put_68 rfl (lv_at hl 3 rfl) ?_
              refine nv_iconst (n := 1) hx hb d_Md_put_69 ?_
              refine nv_isub (z := at_ - 1) hx hb d_Md_put_70 (by first | rfl | omega) ?_
              obtain ⟨k29, v⟩ := v
              refine nv_iald (f := go) hx hb hK 0 (hP 20 _ rfl) rfl (at_ - 1).toNat (Int.toNat_of_nonneg k29.1).symm (by omega) (by decide) d_Md_put_71 ?_
              obtain ⟨k30, v⟩ := v
              refine nv_iast (f := go) hx hb hK hP hD hS 20 0 rfl rfl (at_).toNat (Int.toNat_of_nonneg k30.1).symm (by omega) (by decide) d_Md_put_72 (fun H locs hP hD hS => ?_)
              have hP : va_P D vwCl (wMd cI cJ cZ h0 h1 h2 h3 h4 h5 h6 h7 h8 h9 h10 h11 h12 h13 h14 h15 h16 h17 h18 h19 h20 h21 h22 h23 th no ca ba nl xa sa da la ra fa ta ua uh uo ma mh ml nf fo fh fs rs ic mn (va_up gh (at_).toNat (gh (at_ - 1).toNat)) (va_up go (at_).toNat (go (at_ - 1).toNat)) ya np pa nc cp) H := hP
              have hD : va_D A (wMd cI cJ cZ h0 h1 h2 h3 h4 h5 h6 h7 h8 h9 h10 h11 h12 h13 h14 h15 h16 h17 h18 h19 h20 h21 h22 h23 th no ca ba nl xa sa da la ra fa ta ua uh uo ma mh ml nf fo fh fs rs ic mn (va_up gh (at_).toNat (gh (at_ - 1).toNat)) (va_up go (at_).toNat (go (at_ - 1).toNat)) ya np pa nc cp) := hD
              refine nv_iinc (k := 3) (z := at_ - 1) (lv' := [(3, .int (iI (at_ - 1))), (0, .ref h0), (1, .int (iI hour)), (2, .int (iI ob))]) hx hb d_Md_put_73 hl rfl (by omega) (by decide) rfl (fun ls hl => ?_)
              refine lv_goto (tgt := 5) hx hb d_Md_put_76 (by decide) ?_
              exact ih3 (at_ - 1) (va_up gh (at_).toNat (gh (at_ - 1).toNat)) (va_up go (at_).toNat (go (at_ - 1).toNat)) H locs ls (Nat.lt_of_lt_of_le v.2 (Nat.le_of_lt_succ hN4)) v.1 hP hD hS (lv_sub hl [1, 2, 3, 0] rfl)
  exact L33 _ mn bh bo H locs ls (Nat.lt_succ_self _) v31 hP hD hS (lv_sub hl [1, 2, 3, 0] rfl)

theorem d_Md_breached_0 : decode prog_10_method_28_code 0 = .ok (.lconst 0, 1) := by decide +kernel
theorem d_Md_breached_1 : decode prog_10_method_28_code 1 = .ok (.lstore_n 3, 1) := by decide +kernel
theorem d_Md_breached_2 : decode prog_10_method_28_code 2 = .ok (.sipush 8760, 3) := by decide +kernel
theorem d_Md_breached_5 : decode prog_10_method_28_code 5 = .ok (.iload_n 2, 1) := by decide +kernel
theorem d_Md_breached_6 : decode prog_10_method_28_code 6 = .ok (.imul, 1) := by decide +kernel
theorem d_Md_breached_7 : decode prog_10_method_28_code 7 = .ok (.istore 5, 2) := by decide +kernel
theorem d_Md_breached_9 : decode prog_10_method_28_code 9 = .ok (.iload 5, 2) := by decide +kernel
theorem d_Md_breached_11 : decode prog_10_method_28_code 11 = .ok (.sipush 8760, 3) := by decide +kernel
theorem d_Md_breached_14 : decode prog_10_method_28_code 14 = .ok (.iload_n 2, 1) := by decide +kernel
theorem d_Md_breached_15 : decode prog_10_method_28_code 15 = .ok (.imul, 1) := by decide +kernel
theorem d_Md_breached_16 : decode prog_10_method_28_code 16 = .ok (.sipush 8760, 3) := by decide +kernel
theorem d_Md_breached_19 : decode prog_10_method_28_code 19 = .ok (.iadd, 1) := by decide +kernel
theorem d_Md_breached_20 : decode prog_10_method_28_code 20 = .ok (.if_icmp .ge 63, 3) := by decide +kernel
theorem d_Md_breached_23 : decode prog_10_method_28_code 23 = .ok (.lload_n 3, 1) := by decide +kernel
theorem d_Md_breached_24 : decode prog_10_method_28_code 24 = .ok (.aload_n 0, 1) := by decide +kernel
theorem d_Md_breached_25 : decode prog_10_method_28_code 25 = .ok (.iload_n 1, 1) := by decide +kernel
theorem d_Md_breached_26 : decode prog_10_method_28_code 26 = .ok (.iload 5, 2) := by decide +kernel
theorem d_Md_breached_28 : decode prog_10_method_28_code 28 = .ok (.iload 5, 2) := by decide +kernel
theorem d_Md_breached_30 : decode prog_10_method_28_code 30 = .ok (.iconst 1, 1) := by decide +kernel
theorem d_Md_breached_31 : decode prog_10_method_28_code 31 = .ok (.iadd, 1) := by decide +kernel
theorem d_Md_breached_32 : decode prog_10_method_28_code 32 = .ok (.invokevirtual 131, 3) := by decide +kernel
theorem d_Md_breached_35 : decode prog_10_method_28_code 35 = .ok (.ladd, 1) := by decide +kernel
theorem d_Md_breached_36 : decode prog_10_method_28_code 36 = .ok (.aload_n 0, 1) := by decide +kernel
theorem d_Md_breached_37 : decode prog_10_method_28_code 37 = .ok (.iload_n 1, 1) := by decide +kernel
theorem d_Md_breached_38 : decode prog_10_method_28_code 38 = .ok (.iload 5, 2) := by decide +kernel
theorem d_Md_breached_40 : decode prog_10_method_28_code 40 = .ok (.invokevirtual 135, 3) := by decide +kernel
theorem d_Md_breached_43 : decode prog_10_method_28_code 43 = .ok (.ifCond .eq 13, 3) := by decide +kernel
theorem d_Md_breached_46 : decode prog_10_method_28_code 46 = .ok (.aload_n 0, 1) := by decide +kernel
theorem d_Md_breached_47 : decode prog_10_method_28_code 47 = .ok (.iload_n 1, 1) := by decide +kernel
theorem d_Md_breached_48 : decode prog_10_method_28_code 48 = .ok (.iload 5, 2) := by decide +kernel
theorem d_Md_breached_50 : decode prog_10_method_28_code 50 = .ok (.invokevirtual 139, 3) := by decide +kernel
theorem d_Md_breached_53 : decode prog_10_method_28_code 53 = .ok (.goto 4, 3) := by decide +kernel
theorem d_Md_breached_56 : decode prog_10_method_28_code 56 = .ok (.lconst 0, 1) := by decide +kernel
theorem d_Md_breached_57 : decode prog_10_method_28_code 57 = .ok (.ladd, 1) := by decide +kernel
theorem d_Md_breached_58 : decode prog_10_method_28_code 58 = .ok (.lstore_n 3, 1) := by decide +kernel
theorem d_Md_breached_59 : decode prog_10_method_28_code 59 = .ok (.lload_n 3, 1) := by decide +kernel
theorem d_Md_breached_60 : decode prog_10_method_28_code 60 = .ok (.aload_n 0, 1) := by decide +kernel
theorem d_Md_breached_61 : decode prog_10_method_28_code 61 = .ok (.iload_n 1, 1) := by decide +kernel
theorem d_Md_breached_62 : decode prog_10_method_28_code 62 = .ok (.invokevirtual 150, 3) := by decide +kernel
theorem d_Md_breached_65 : decode prog_10_method_28_code 65 = .ok (.lcmp, 1) := by decide +kernel
theorem d_Md_breached_66 : decode prog_10_method_28_code 66 = .ok (.ifCond .le 11, 3) := by decide +kernel
theorem d_Md_breached_69 : decode prog_10_method_28_code 69 = .ok (.aload_n 0, 1) := by decide +kernel
theorem d_Md_breached_70 : decode prog_10_method_28_code 70 = .ok (.iload 5, 2) := by decide +kernel
theorem d_Md_breached_72 : decode prog_10_method_28_code 72 = .ok (.iload_n 1, 1) := by decide +kernel
theorem d_Md_breached_73 : decode prog_10_method_28_code 73 = .ok (.invokevirtual 154, 3) := by decide +kernel
theorem d_Md_breached_76 : decode prog_10_method_28_code 76 = .ok (.return_, 1) := by decide +kernel
theorem d_Md_breached_77 : decode prog_10_method_28_code 77 = .ok (.iinc 5 1, 3) := by decide +kernel
theorem d_Md_breached_80 : decode prog_10_method_28_code 80 = .ok (.goto (-71), 3) := by decide +kernel
theorem d_Md_breached_83 : decode prog_10_method_28_code 83 = .ok (.return_, 1) := by decide +kernel
def vc_Md_breached (th : Int) (no : Int) (ca : Nat → Int) (ba : Nat → Int) (nl : Int) (xa : Nat → Int) (sa : Nat → Int) (da : Nat → Int) (la : Nat → Int) (ra : Nat → Int) (fa : Nat → Int) (ta : Nat → Int) (ua : Nat → Int) (uh : Nat → Int) (uo : Nat → Int) (ma : Nat → Int) (mh : Nat → Int) (ml : Nat → Int) (nf : Int) (fo : Nat → Int) (fh : Nat → Int) (fs : Nat → Int) (rs : Int) (ic : Int) (mn : Int) (bh : Nat → Int) (bo : Nat → Int) (ya : Nat → Int) (np : Int) (pa : Nat → Int) (nc : Int) (cp : Nat → Int) (ob : Int) (yr : Int) (post : (Nat → Int) → (Nat → Int) → Int → Prop) : Prop := ∃ (I1 : Int → Int → Prop) (μ2 : Int → Int → Nat), I1 0 (8760 * yr) ∧ ∀ (tot : Int) (h_ : Int), I1 tot h_ → (r32 h_) ∧ ((r32 (8760 * yr + 8760)) ∧ ((8760 * yr + 8760 ≤ h_ → post bh bo mn) ∧ (h_ < 8760 * yr + 8760 → ∃ P8 : Int → Prop, vc_Md_flashed th no ca ba nl xa sa da la ra fa ta ua uh uo ma mh ml nf fo fh fs rs ic mn bh bo ya np pa nc cp ob h_ (h_ + 1) P8 ∧ ∀ z9 : Int, P8 z9 → ∃ P11 : Int → Prop, vc_Md_isShown th no ca ba nl xa sa da la ra fa ta ua uh uo ma mh ml nf fo fh fs rs ic mn bh bo ya np pa nc cp ob h_ P11 ∧ ∀ z12 : Int, P11 z12 → (r32 z12) ∧ ((z12 = 0 → ∃ P16 : Int → Prop, vc_Md_bound th no ca ba nl xa sa da la ra fa ta ua uh uo ma mh ml nf fo fh fs rs ic mn bh bo ya np pa nc cp ob P16 ∧ ∀ z17 : Int, P16 z17 → (r64 (tot + z9)) ∧ ((r64 z17) ∧ ((tot + z9 ≤ z17 → I1 (tot + z9) (h_ + 1) ∧ μ2 (tot + z9) (h_ + 1) < μ2 tot h_) ∧ (z17 < tot + z9 → ∃ P22 : (Nat → Int) → (Nat → Int) → Int → Prop, vc_Md_put th no ca ba nl xa sa da la ra fa ta ua uh uo ma mh ml nf fo fh fs rs ic mn bh bo ya np pa nc cp h_ ob P22 ∧ ∀ (y24 : Nat → Int) (y25 : Nat → Int) (y26 : Int), P22 y24 y25 y26 → post y24 y25 y26)))) ∧ (¬ z12 = 0 → ∃ P27 : Int → Prop, vc_Md_bright th no ca ba nl xa sa da la ra fa ta ua uh uo ma mh ml nf fo fh fs rs ic mn bh bo ya np pa nc cp ob h_ P27 ∧ ∀ z28 : Int, P27 z28 → ∃ P30 : Int → Prop, vc_Md_bound th no ca ba nl xa sa da la ra fa ta ua uh uo ma mh ml nf fo fh fs rs ic mn bh bo ya np pa nc cp ob P30 ∧ ∀ z31 : Int, P30 z31 → (r64 (tot + z9 + z28)) ∧ ((r64 z31) ∧ ((tot + z9 + z28 ≤ z31 → I1 (tot + z9 + z28) (h_ + 1) ∧ μ2 (tot + z9 + z28) (h_ + 1) < μ2 tot h_) ∧ (z31 < tot + z9 + z28 → ∃ P36 : (Nat → Int) → (Nat → Int) → Int → Prop, vc_Md_put th no ca ba nl xa sa da la ra fa ta ua uh uo ma mh ml nf fo fh fs rs ic mn bh bo ya np pa nc cp h_ ob P36 ∧ ∀ (y38 : Nat → Int) (y39 : Nat → Int) (y40 : Int), P36 y38 y39 y40 → post y38 y39 y40))))))))
set_option maxHeartbeats 4000000 in
set_option maxRecDepth 100000 in
theorem m_Md_breached (l : Launch) (D : va_G) (cI cJ cO cZ : ClassId) (h0 h1 h2 h3 h4 h5 h6 h7 h8 h9 h10 h11 h12 h13 h14 h15 h16 h17 h18 h19 h20 h21 h22 h23 : Nat) (sz : Nat) (th : Int) (no : Int) (ca : Nat → Int) (ba : Nat → Int) (nl : Int) (xa : Nat → Int) (sa : Nat → Int) (da : Nat → Int) (la : Nat → Int) (ra : Nat → Int) (fa : Nat → Int) (ta : Nat → Int) (ua : Nat → Int) (uh : Nat → Int) (uo : Nat → Int) (ma : Nat → Int) (mh : Nat → Int) (ml : Nat → Int) (nf : Int) (fo : Nat → Int) (fh : Nat → Int) (fs : Nat → Int) (rs : Int) (ic : Int) (mn : Int) (bh : Nat → Int) (bo : Nat → Int) (ya : Nat → Int) (np : Int) (pa : Nat → Int) (nc : Int) (cp : Nat → Int) (ob : Int) (yr : Int) (post : (Nat → Int) → (Nat → Int) → Int → Prop) (v : vc_Md_breached th no ca ba nl xa sa da la ra fa ta ua uh uo ma mh ml nf fo fh fs rs ic mn bh bo ya np pa nc cp ob yr post) : Met l ⟨"LightDosesModel", "breached", "(II)V"⟩ (.code ⟨"LightDosesModel", "breached", "(II)V"⟩ prog_10_method_28_code 6 none :: TG) { frames := 1, cells := 0, slots := 0, locals := 27 } (va_Pc [.ref h0, .int (iI ob), .int (iI yr)] (fun U => U.heap.size = sz ∧ va_P D vwCl (wMd cI cJ cZ h0 h1 h2 h3 h4 h5 h6 h7 h8 h9 h10 h11 h12 h13 h14 h15 h16 h17 h18 h19 h20 h21 h22 h23 th no ca ba nl xa sa da la ra fa ta ua uh uo ma mh ml nf fo fh fs rs ic mn bh bo ya np pa nc cp) U.heap ∧ va_K D vwCl (tyx cI cJ cO cZ) U ∧ va_D (fun _ => True) (wMd cI cJ cZ h0 h1 h2 h3 h4 h5 h6 h7 h8 h9 h10 h11 h12 h13 h14 h15 h16 h17 h18 h19 h20 h21 h22 h23 th no ca ba nl xa sa da la ra fa ta ua uh uo ma mh ml nf fo fh fs rs ic mn bh bo ya np pa nc cp))) (va_Qv (fun u : (Nat → Int) × (Nat → Int) × Int => post u.1 u.2.1 u.2.2) (fun u t => va_P D vwCl (wMd cI cJ cZ h0 h1 h2 h3 h4 h5 h6 h7 h8 h9 h10 h11 h12 h13 h14 h15 h16 h17 h18 h19 h20 h21 h22 h23 th no ca ba nl xa sa da la ra fa ta ua uh uo ma mh ml nf fo fh fs rs ic u.2.2 u.1 u.2.1 ya np pa nc cp) t.heap ∧ va_K D vwCl (tyx cI cJ cO cZ) t ∧ va_D (va_A (wMd cI cJ cZ h0 h1 h2 h3 h4 h5 h6 h7 h8 h9 h10 h11 h12 h13 h14 h15 h16 h17 h18 h19 h20 h21 h22 h23 th no ca ba nl xa sa da la ra fa ta ua uh uo ma mh ml nf fo fh fs rs ic mn bh bo ya np pa nc cp) sz) (wMd cI cJ cZ h0 h1 h2 h3 h4 h5 h6 h7 h8 h9 h10 h11 h12 h13 h14 h15 h16 h17 h18 h19 h20 h21 h22 h23 th no ca ba nl xa sa da la ra fa ta ua uh uo ma mh ml nf fo fh fs rs ic u.2.2 u.1 u.2.1 ya np pa nc cp)) (va_A (wMd cI cJ cZ h0 h1 h2 h3 h4 h5 h6 h7 h8 h9 h10 h11 h12 h13 h14 h15 h16 h17 h18 h19 h20 h21 h22 h23 th no ca ba nl xa sa da la ra fa ta ua uh uo ma mh ml nf fo fh fs rs ic mn bh bo ya np pa nc cp) sz)) 0 0 (va_A (wMd cI cJ cZ h0 h1 h2 h3 h4 h5 h6 h7 h8 h9 h10 h11 h12 h13 h14 h15 h16 h17 h18 h19 h20 h21 h22 h23 th no ca ba nl xa sa da la ra fa ta ua uh uo ma mh ml nf fo fh fs rs ic mn bh bo ya np pa nc cp) sz) := by
  refine Met.ofW (cc := prog_10_method_28_code) (maxL := 6) (ret := none) (by decide) rfl ?_
  intro p e s m args below meth c s₁ B hml hv
  obtain ⟨rfl, hsz, hP, hK, hD0⟩ := hv
  have hx := B.exec
  have hb := B.bytes
  have hr := B.returns
  have hts0 := atoms_spec (ws := (.code ⟨"LightDosesModel", "breached", "(II)V"⟩ prog_10_method_28_code 6 none :: TG)) B.pre
  have hts : ∀ w ∈ TG, w.before _ s = true := fun w h => hts0 w (List.mem_cons_of_mem _ h)
  have hown : s.vm.findClass "LightDosesModel" = some m.cls := findClass_of_methodNamed B.named
  have hlocks := B.notSynchronized
  subst hsz
  have hD := hD0.self (sz := s.heap.size)
  generalize hAe : va_A (wMd cI cJ cZ h0 h1 h2 h3 h4 h5 h6 h7 h8 h9 h10 h11 h12 h13 h14 h15 h16 h17 h18 h19 h20 h21 h22 h23 th no ca ba nl xa sa da la ra fa ta ua uh uo ma mh ml nf fo fh fs rs ic mn bh bo ya np pa nc cp) s.heap.size = A at hD ⊢
  have hA : ∀ q : Nat, s.heap.size ≤ q → A q := fun q h => by rw [← hAe]; exact Or.inr h
  have hS : va_S A s.heap s.heap [] := va_S.rf
  have hP : va_P D vwCl (wMd cI cJ cZ h0 h1 h2 h3 h4 h5 h6 h7 h8 h9 h10 h11 h12 h13 h14 h15 h16 h17 h18 h19 h20 h21 h22 h23 th no ca ba nl xa sa da la ra fa ta ua uh uo ma mh ml nf fo fh fs rs ic mn bh bo ya np pa nc cp) s.heap := hP
  have hl := lv_entry ([Value.ref h0, Value.int (iI ob), Value.int (iI yr)]) (n := 6) (Nat.le_of_ble_eq_true rfl)
  rw [lg_entry_eq]
  generalize (lg_sl ([Value.ref h0, Value.int (iI ob), Value.int (iI yr)]) ++ List.replicate (6 - (lg_sl ([Value.ref h0, Value.int (iI ob), Value.int (iI yr)])).length) Slot.unset).toArray = ls at hl ⊢
  have hl : lv_has ls 6 [(0, .ref h0), (1, .int (iI ob)), (2, .int (iI yr))] := hl
  unfold vc_Md_breached at v
  obtain ⟨H, hH⟩ : ∃ H, H = s.heap := ⟨_, rfl⟩
  obtain ⟨locs, hlc⟩ : ∃ L : List Loc, L = [] := ⟨_, rfl⟩
  rw [← hlc] at hS ⊢
  have hP : va_P D vwCl (wMd cI cJ cZ h0 h1 h2 h3 h4 h5 h6 h7 h8 h9 h10 h11 h12 h13 h14 h15 h16 h17 h18 h19 h20 h21 h22 h23 th no ca ba nl xa sa da la ra fa ta ua uh uo ma mh ml nf fo fh fs rs ic mn bh bo ya np pa nc cp) H := by rw [hH]; exact hP
  have hS : va_S A s.heap H locs := by rw [hH]; exact hS
  have hW0 : ∀ {X : Heap → Prop}, X H → X s.heap := fun h => by rw [← hH]; exact h
  refine hW0 (X := fun Z => W p l e _ s m _ below meth c Z locs 0 0 _ _) ?_
  refine lv_lconst (v := lI 0) hx hb d_Md_breached_0 (by decide) ?_
  refine lv_lstore_n (lv' := [(3, .long (lI 0)), (0, .ref h0), (1, .int (iI ob)), (2, .int (iI yr))]) hx hb d_Md_breached_1 rfl hl (by decide) rfl (fun ls hl => ?_)
  refine nv_sipush (z := 8760) hx hb d_Md_breached_2 (by decide) ?_
  refine lv_iload_n hx hb d_Md_breached_5 rfl (lv_at hl 3 rfl) ?_
  refine nv_imul (z := 8760 * yr) hx hb d_Md_breached_6 (by first | rfl | omega) ?_
  refine lv_istore (lv' := [(5, .int (iI (8760 * yr))), (3, .long (lI 0)), (0, .ref h0), (1, .int (iI ob)), (2, .int (iI yr))]) hx hb d_Md_breached_7 hl (by decide) rfl (fun ls hl => ?_)
  obtain ⟨I1, μ2, v41, v42⟩ := v
  have L43 : ∀ (N : Nat) (tot : Int) (h_ : Int) (H : Heap) (locs : List Loc) (ls : Array Slot), μ2 tot h_ < N → I1 tot h_ → va_P D vwCl (wMd cI cJ cZ h0 h1 h2 h3 h4 h5 h6 h7 h8 h9 h10 h11 h12 h13 h14 h15 h16 h17 h18 h19 h20 h21 h22 h23 th no ca ba nl xa sa da la ra fa ta ua uh uo ma mh ml nf fo fh fs rs ic mn bh bo ya np pa nc cp) H → va_D A (wMd cI cJ cZ h0 h1 h2 h3 h4 h5 h6 h7 h8 h9 h10 h11 h12 h13 h14 h15 h16 h17 h18 h19 h20 h21 h22 h23 th no ca ba nl xa sa da la ra fa ta ua uh uo ma mh ml nf fo fh fs rs ic mn bh bo ya np pa nc cp) → va_S A s.heap H locs → lv_has ls 6 [(0, .ref h0), (1, .int (iI ob)), (2, .int (iI yr)), (3, .long (lI tot)), (5, .int (iI h_))] → W p l e (headSpec (.code ⟨"LightDosesModel", "breached", "(II)V"⟩ prog_10_method_28_code 6 none :: TG) { frames := 1, cells := 0, slots := 0, locals := 27 }).room s m ([Value.ref h0, Value.int (iI ob), Value.int (iI yr)] : List Value).toArray below meth c H locs 0 0 (MQ below (va_Qv (fun u : (Nat → Int) × (Nat → Int) × Int => post u.1 u.2.1 u.2.2) (fun u t => va_P D vwCl (wMd cI cJ cZ h0 h1 h2 h3 h4 h5 h6 h7 h8 h9 h10 h11 h12 h13 h14 h15 h16 h17 h18 h19 h20 h21 h22 h23 th no ca ba nl xa sa da la ra fa ta ua uh uo ma mh ml nf fo fh fs rs ic u.2.2 u.1 u.2.1 ya np pa nc cp) t.heap ∧ va_K D vwCl (tyx cI cJ cO cZ) t ∧ va_D A (wMd cI cJ cZ h0 h1 h2 h3 h4 h5 h6 h7 h8 h9 h10 h11 h12 h13 h14 h15 h16 h17 h18 h19 h20 h21 h22 h23 th no ca ba nl xa sa da la ra fa ta ua uh uo ma mh ml nf fo fh fs rs ic u.2.2 u.1 u.2.1 ya np pa nc cp)) A) ([Value.ref h0, Value.int (iI ob), Value.int (iI yr)] : List Value).toArray s 0 0 A) (F0 m 9 ls []) := by
    intro N
    induction N with
    | zero => intro tot h_ H locs ls hN; exact absurd hN (Nat.not_lt_zero _)
    | succ N ih3 =>
      intro tot h_ H locs ls hN4 hI hP hD hS hl
      have v := v42 tot h_ hI
      refine lv_iload hx hb d_Md_breached_9 (lv_at hl 4 rfl) ?_
      refine nv_sipush (z := 8760) hx hb d_Md_breached_11 (by decide) ?_
      refine lv_iload_n hx hb d_Md_breached_14 rfl (lv_at hl 2 rfl) ?_
      refine nv_imul (z := 8760 * yr) hx hb d_Md_breached_15 (by first | rfl | omega) ?_
      refine nv_sipush (z := 8760) hx hb d_Md_breached_16 (by decide) ?_
      refine nv_iadd (z := 8760 * yr + 8760) hx hb d_Md_breached_19 (by first | rfl | omega) ?_
      obtain ⟨k5, v⟩ := v
      obtain ⟨k6, v⟩ := v
      refine nv_icmp_ge (tgt := 83) hx hb d_Md_breached_20 (by decide) k5 k6 (fun c7 => ?_) (fun c7 => ?_)
      · replace v := v.1 c7
        have hP9 := hP.sub (ws' := (wMd cI cJ cZ h0 h1 h2 h3 h4 h5 h6 h7 h8 h9 h10 h11 h12 h13 h14 h15 h16 h17 h18 h19 h20 h21 h22 h23 th no ca ba nl xa sa da la ra fa ta ua uh uo ma mh ml nf fo fh fs rs ic mn bh bo ya np pa nc cp)) [0, 1, 2, 3, 4, 5, 6, 7, 8, 9, 10, 11, 12, 13, 14, 15, 16, 17, 18, 19, 20, 21, 22, 23] rfl
        have hD9 := hD.sub (ws' := (wMd cI cJ cZ h0 h1 h2 h3 h4 h5 h6 h7 h8 h9 h10 h11 h12 h13 h14 h15 h16 h17 h18 h19 h20 h21 h22 h23 th no ca ba nl xa sa da la ra fa ta ua uh uo ma mh ml nf fo fh fs rs ic mn bh bo ya np pa nc cp)) [0, 1, 2, 3, 4, 5, 6, 7, 8, 9, 10, 11, 12, 13, 14, 15, 16, 17, 18, 19, 20, 21, 22, 23] (by decide) rfl
        exact W.vret hx hb hr (fun t ht hW => ⟨⟨((bh), (bo), (mn)), rfl, v, by rw [ht]; exact hP9, va_K.moved hW.alike hK, hD9⟩, hS.F ht⟩) hS.2.2 d_Md_breached_83
      · replace v := v.2 c7
        refine lv_lload_n hx hb d_Md_breached_23 rfl (lv_at hl 3 rfl) ?_
        refine lv_aload_n hx hb d_Md_breached_24 rfl (lv_at hl 0 rfl) ?_
        refine lv_iload_n hx hb d_Md_breached_25 rfl (lv_at hl 1 rfl) ?_
        refine lv_iload hx hb d_Md_breached_26 (lv_at hl 4 rfl) ?_
        refine lv_iload hx hb d_Md_breached_28 (lv_at hl 4 rfl) ?_
        refine nv_iconst (n := 1) hx hb d_Md_breached_30 ?_
        refine nv_iadd (z := h_ + 1) hx hb d_Md_breached_31 (by first | rfl | omega) ?_
        obtain ⟨P8, q10, v⟩ := v
        refine vp_callSl (nv_runV (wc := (wMd cI cJ cZ h0 h1 h2 h3 h4 h5 h6 h7 h8 h9 h10 h11 h12 h13 h14 h15 h16 h17 h18 h19 h20 h21 h22 h23 th no ca ba nl xa sa da la ra fa ta ua uh uo ma mh ml nf fo fh fs rs ic mn bh bo ya np pa nc cp)) (As := [.int (iI ob), .int (iI h_), .int (iI (h_ + 1))]) (rest := [.long (lI tot)]) ⟨hx, hb, hml, hown, hts⟩ (m_Md_flashed l D cI cJ cO cZ h0 h1 h2 h3 h4 h5 h6 h7 h8 h9 h10 h11 h12 h13 h14 h15 h16 h17 h18 h19 h20 h21 h22 h23 th no ca ba nl xa sa da la ra fa ta ua uh uo ma mh ml nf fo fh fs rs ic mn bh bo ya np pa nc cp ob h_ (h_ + 1) P8 q10) (nv_cwV (n := 3) hts wd_875 wd_877 sl_22 wd_10 wd_878 (by decide +kernel) ⟨Nat.le_of_ble_eq_true rfl, Nat.le_of_ble_eq_true rfl⟩) hK (hP.sub [0, 1, 2, 3, 4, 5, 6, 7, 8, 9, 10, 11, 12, 13, 14, 15, 16, 17, 18, 19, 20, 21, 22, 23] rfl) (va_recv hK hP (ci := 8) (q0 := 0) rfl rfl) rfl hl.1 rfl (Nat.le_of_ble_eq_true rfl) d_Md_breached_32 (Nat.le_of_ble_eq_true rfl) (Nat.le_of_ble_eq_true rfl)) (fun r hr => ?_)
        obtain ⟨z9, rfl, hz⟩ := hr
        replace v := v z9 hz
        refine nv_ladd (z := tot + z9) hx hb d_Md_breached_35 (by first | rfl | omega) ?_
        refine lv_aload_n hx hb d_Md_breached_36 rfl (lv_at hl 0 rfl) ?_
        refine lv_iload_n hx hb d_Md_breached_37 rfl (lv_at hl 1 rfl) ?_
        refine lv_iload hx hb d_Md_breached_38 (lv_at hl 4 rfl) ?_
        obtain ⟨P11, q13, v⟩ := v
        refine vp_callSi (nv_runV (wc := (wMd cI cJ cZ h0 h1 h2 h3 h4 h5 h6 h7 h8 h9 h10 h11 h12 h13 h14 h15 h16 h17 h18 h19 h20 h21 h22 h23 th no ca ba nl xa sa da la ra fa ta ua uh uo ma mh ml nf fo fh fs rs ic mn bh bo ya np pa nc cp)) (As := [.int (iI ob), .int (iI h_)]) (rest := [.long (lI (tot + z9))]) ⟨hx, hb, hml, hown, hts⟩ (m_Md_isShown l D cI cJ cO cZ h0 h1 h2 h3 h4 h5 h6 h7 h8 h9 h10 h11 h12 h13 h14 h15 h16 h17 h18 h19 h20 h21 h22 h23 th no ca ba nl xa sa da la ra fa ta ua uh uo ma mh ml nf fo fh fs rs ic mn bh bo ya np pa nc cp ob h_ P11 q13) (nv_cwV (n := 2) hts wd_880 wd_882 sl_23 wd_10 wd_883 (by decide +kernel) ⟨Nat.le_of_ble_eq_true rfl, Nat.le_of_ble_eq_true rfl⟩) hK (hP.sub [0, 1, 2, 3, 4, 5, 6, 7, 8, 9, 10, 11, 12, 13, 14, 15, 16, 17, 18, 19, 20, 21, 22, 23] rfl) (va_recv hK hP (ci := 8) (q0 := 0) rfl rfl) rfl hl.1 rfl (Nat.le_of_ble_eq_true rfl) d_Md_breached_40 (Nat.le_of_ble_eq_true rfl) (Nat.le_of_ble_eq_true rfl)) (fun r hr => ?_)
        obtain ⟨z12, rfl, hz⟩ := hr
        replace v := v z12 hz
        obtain ⟨k14, v⟩ := v
        refine nv_if_eq (tgt := 56) hx hb d_Md_breached_43 (by decide) k14 (fun c15 => ?_) (fun c15 => ?_)
        · replace v := v.1 c15
          refine lv_lconst (v := lI 0) hx hb d_Md_breached_56 (by decide) ?_
          refine nv_ladd (z := tot + z9) hx hb d_Md_breached_57 (by first | rfl | omega) ?_
          refine lv_lstore_n (lv' := [(3, .long (lI (tot + z9))), (0, .ref h0), (1, .int (iI ob)), (2, .int (iI yr)), (5, .int (iI h_))]) hx hb d_Md_breached_58 rfl hl (by decide) rfl (fun ls hl => ?_)
          refine lv_lload_n hx hb d_Md_breached_59 rfl (lv_at hl 0 rfl) ?_
          refine lv_aload_n hx hb d_Md_breached_60 rfl (lv_at hl 1 rfl) ?_
          refine lv_iload_n hx hb d_Md_breached_61 rfl (lv_at hl 2 rfl) ?_
          obtain ⟨P16, q18, v⟩ := v
          refine vp_callSl (nv_runV (wc := (wMd cI cJ cZ h0 h1 h2 h3 h4 h5 h6 h7 h8 h9 h10 h11 h12 h13 h14 h15 h16 h17 h18 h19 h20 h21 h22 h23 th no ca ba nl xa sa da la ra fa ta ua uh uo ma mh ml nf fo fh fs rs ic mn bh bo ya np pa nc cp)) (As := [.int (iI ob)]) (rest := [.long (lI (tot + z9))]) ⟨hx, hb, hml, hown, hts⟩ (m_Md_bound l D cI cJ cO cZ h0 h1 h2 h3 h4 h5 h6 h7 h8 h9 h10 h11 h12 h13 h14 h15 h16 h17 h18 h19 h20 h21 h22 h23 th no ca ba nl xa sa da la ra fa ta ua uh uo ma mh ml nf fo fh fs rs ic mn bh bo ya np pa nc cp ob P16 q18) (nv_cwV (n := 1) hts wd_899 wd_901 sl_25 wd_10 wd_902 (by decide +kernel) ⟨Nat.le_of_ble_eq_true rfl, Nat.le_of_ble_eq_true rfl⟩) hK (hP.sub [0, 1, 2, 3, 4, 5, 6, 7, 8, 9, 10, 11, 12, 13, 14, 15, 16, 17, 18, 19, 20, 21, 22, 23] rfl) (va_recv hK hP (ci := 8) (q0 := 0) rfl rfl) rfl hl.1 rfl (Nat.le_of_ble_eq_true rfl) d_Md_breached_62 (Nat.le_of_ble_eq_true rfl) (Nat.le_of_ble_eq_true rfl)) (fun r hr => ?_)
          obtain ⟨z17, rfl, hz⟩ := hr
          replace v := v z17 hz
          obtain ⟨k19, v⟩ := v
          obtain ⟨k20, v⟩ := v
          refine nv_lcmp_le (tgt := 77) hx hb d_Md_breached_65 d_Md_breached_66 (by decide) k19 k20 (fun c21 => ?_) (fun c21 => ?_)
          · replace v := v.1 c21
            refine nv_iinc (k := 4) (z := h_ + 1) (lv' := [(5, .int (iI (h_ + 1))), (3, .long (lI (tot + z9))), (0, .ref h0), (1, .int (iI ob)), (2, .int (iI yr))]) hx hb d_Md_breached_77 hl rfl (by omega) (by decide) rfl (fun ls hl => ?_)
            refine lv_goto (tgt := 9) hx hb d_Md_breached_80 (by decide) ?_
            exact ih3 (tot + z9) (h_ + 1) H locs ls (Nat.lt_of_lt_of_le v.2 (Nat.le_of_lt_succ hN4)) v.1 hP hD hS (lv_sub hl [2, 3, 4, 1, 0] rfl)
          · replace v := v.2 c21
            refine lv_aload_n hx hb d_Md_breached_69 rfl (lv_at hl 1 rfl) ?_
            refine lv_iload hx hb d_Md_breached_70 (lv_at hl 4 rfl) ?_
            refine lv_iload_n hx hb d_Md_breached_72 rfl (lv_at hl 2 rfl) ?_
            obtain ⟨P22, q23, v⟩ := v
            have hPc := hP.sub (ws' := (wMd cI cJ cZ h0 h1 h2 h3 h4 h5 h6 h7 h8 h9 h10 h11 h12 h13 h14 h15 h16 h17 h18 h19 h20 h21 h22 h23 th no ca ba nl xa sa da la ra fa ta ua uh uo ma mh ml nf fo fh fs rs ic mn bh bo ya np pa nc cp)) [0, 1, 2, 3, 4, 5, 6, 7, 8, 9, 10, 11, 12, 13, 14, 15, 16, 17, 18, 19, 20, 21, 22, 23] rfl
            have hDc := hD.sub (ws' := (wMd cI cJ cZ h0 h1 h2 h3 h4 h5 h6 h7 h8 h9 h10 h11 h12 h13 h14 h15 h16 h17 h18 h19 h20 h21 h22 h23 th no ca ba nl xa sa da la ra fa ta ua uh uo ma mh ml nf fo fh fs rs ic mn bh bo ya np pa nc cp)) [0, 1, 2, 3, 4, 5, 6, 7, 8, 9, 10, 11, 12, 13, 14, 15, 16, 17, 18, 19, 20, 21, 22, 23] (by decide) rfl
            have hFc := va_free (wc := (wMd cI cJ cZ h0 h1 h2 h3 h4 h5 h6 h7 h8 h9 h10 h11 h12 h13 h14 h15 h16 h17 h18 h19 h20 h21 h22 h23 th no ca ba nl xa sa da la ra fa ta ua uh uo ma mh ml nf fo fh fs rs ic mn bh bo ya np pa nc cp)) hD hS hA [0, 1, 2, 3, 4, 5, 6, 7, 8, 9, 10, 11, 12, 13, 14, 15, 16, 17, 18, 19, 20, 21, 22, 23] rfl
            refine va_callv (va_runV (As := [.int (iI h_), .int (iI ob)]) (rest := []) ⟨hx, hb, hml, hown, hts⟩ (m_Md_put l D cI cJ cO cZ h0 h1 h2 h3 h4 h5 h6 h7 h8 h9 h10 h11 h12 h13 h14 h15 h16 h17 h18 h19 h20 h21 h22 h23 H.size th no ca ba nl xa sa da la ra fa ta ua uh uo ma mh ml nf fo fh fs rs ic mn bh bo ya np pa nc cp h_ ob P22 q23) (nv_cwV (n := 2) hts wd_919 wd_921 sl_28 wd_10 wd_922 (by decide +kernel) ⟨Nat.le_of_ble_eq_true rfl, Nat.le_of_ble_eq_true rfl⟩) ⟨blW, va_recv hK hPc (ci := 8) (q0 := 0) rfl rfl, fun U hU hW => ⟨rfl, by rw [hU], by rw [hU]; exact hPc, va_K.moved hW.alike hK, hDc.weaken (fun _ _ _ _ => trivial)⟩⟩ rfl rfl hl.1 rfl (lv_room (Nat.le_of_ble_eq_true rfl)) d_Md_breached_73 ⟨Nat.le_of_ble_eq_true rfl, Nat.le_of_ble_eq_true rfl⟩) hS (fun q _ h => hFc q h) hFc (fun u t H1 locs ht hvm hw hB hz1 hk1 hS => ?_)
            obtain ⟨y24, y25, y26⟩ := u
            obtain ⟨hP1, hK1, hD1⟩ := hB
            rw [ht] at hP1
            obtain ⟨hP, hD⟩ := va_join (wr := []) (w1 := (wMd cI cJ cZ h0 h1 h2 h3 h4 h5 h6 h7 h8 h9 h10 h11 h12 h13 h14 h15 h16 h17 h18 h19 h20 h21 h22 h23 th no ca ba nl xa sa da la ra fa ta ua uh uo ma mh ml nf fo fh fs rs ic y26 y24 y25 ya np pa nc cp)) hP hD [0, 1, 2, 3, 4, 5, 6, 7, 8, 9, 10, 11, 12, 13, 14, 15, 16, 17, 18, 19, 20, 21, 22, 23] [] rfl rfl (by decide) (by decide) hk1 hFc hP1 hD1
            generalize H1 = H at hP hS ⊢
            have hP : va_P D vwCl (wMd cI cJ cZ h0 h1 h2 h3 h4 h5 h6 h7 h8 h9 h10 h11 h12 h13 h14 h15 h16 h17 h18 h19 h20 h21 h22 h23 th no ca ba nl xa sa da la ra fa ta ua uh uo ma mh ml nf fo fh fs rs ic y26 y24 y25 ya np pa nc cp) H := hP
            have hD : va_D A (wMd cI cJ cZ h0 h1 h2 h3 h4 h5 h6 h7 h8 h9 h10 h11 h12 h13 h14 h15 h16 h17 h18 h19 h20 h21 h22 h23 th no ca ba nl xa sa da la ra fa ta ua uh uo ma mh ml nf fo fh fs rs ic y26 y24 y25 ya np pa nc cp) := hD
            refine W.widen (k := 0) (n := 0) (Nat.le_of_ble_eq_true rfl) (Nat.le_of_ble_eq_true rfl) ?_
            replace v := v y24 y25 y26 hw
            have hP9 := hP.sub (ws' := (wMd cI cJ cZ h0 h1 h2 h3 h4 h5 h6 h7 h8 h9 h10 h11 h12 h13 h14 h15 h16 h17 h18 h19 h20 h21 h22 h23 th no ca ba nl xa sa da la ra fa ta ua uh uo ma mh ml nf fo fh fs rs ic y26 y24 y25 ya np pa nc cp)) [0, 1, 2, 3, 4, 5, 6, 7, 8, 9, 10, 11, 12, 13, 14, 15, 16, 17, 18, 19, 20, 21, 22, 23] rfl
            have hD9 := hD.sub (ws' := (wMd cI cJ cZ h0 h1 h2 h3 h4 h5 h6 h7 h8 h9 h10 h11 h12 h13 h14 h15 h16 h17 h18 h19 h20 h21 h22 h23 th no ca ba nl xa sa da la ra fa ta ua uh uo ma mh ml nf fo fh fs rs ic y26 y24 y25 ya np pa nc cp)) [0, 1, 2, 3, 4, 5, 6, 7, 8, 9, 10, 11, 12, 13, 14, 15, 16, 17, 18, 19, 20, 21, 22, 23] (by decide) rfl
            exact W.vret hx hb hr (fun t ht hW => ⟨⟨((y24), (y25), (y26)), rfl, v, by rw [ht]; exact hP9, va_K.moved hW.alike hK, hD9⟩, hS.F ht⟩) hS.2.2 d_Md_breached_76
        · replace v := v.2 c15
          refine lv_aload_n hx hb d_Md_breached_46 rfl (lv_at hl 0 rfl) ?_
          refine lv_iload_n hx hb d_Md_breached_47 rfl (lv_at hl 1 rfl) ?_
          refine lv_iload hx hb d_Md_breached_48 (lv_at hl 4 rfl) ?_
          obtain ⟨P27, q29, v⟩ := v
          refine vp_callSl (nv_runV (wc := (wMd cI cJ cZ h0 h1 h2 h3 h4 h5 h6 h7 h8 h9 h10 h11 h12 h13 h14 h15 h16 h17 h18 h19 h20 h21 h22 h23 th no ca ba nl xa sa da la ra fa ta ua uh uo ma mh ml nf fo fh fs rs ic mn bh bo ya np pa nc cp)) (As := [.int (iI ob), .int (iI h_)]) (rest := [.long (lI (tot + z9))]) ⟨hx, hb, hml, hown, hts⟩ (m_Md_bright l D cI cJ cO cZ h0 h1 h2 h3 h4 h5 h6 h7 h8 h9 h10 h11 h12 h13 h14 h15 h16 h17 h18 h19 h20 h21 h22 h23 th no ca ba nl xa sa da la ra fa ta ua uh uo ma mh ml nf fo fh fs rs ic mn bh bo ya np pa nc cp ob h_ P27 q29) (nv_cwV (n := 2) hts wd_884 wd_886 sl_24 wd_10 wd_887 (by decide +kernel) ⟨Nat.le_of_ble_eq_true rfl, Nat.le_of_ble_eq_true rfl⟩) hK (hP.sub [0, 1, 2, 3, 4, 5, 6, 7, 8, 9, 10, 11, 12, 13, 14, 15, 16, 17, 18, 19, 20, 21, 22, 23] rfl) (va_recv hK hP (ci := 8) (q0 := 0) rfl rfl) rfl hl.1 rfl (Nat.le_of_ble_eq_true rfl) d_Md_breached_50 (Nat.le_of_ble_eq_true rfl) (Nat.le_of_ble_eq_true rfl)) (fun r hr => ?_)
          obtain ⟨z28, rfl, hz⟩ := hr
          replace v := v z28 hz
          refine lv_goto (tgt := 57) hx hb d_Md_breached_53 (by decide) ?_
          refine nv_ladd (z := tot + z9 + z28) hx hb d_Md_breached_57 (by first | rfl | omega) ?_
          refine lv_lstore_n (lv' := [(3, .long (lI (tot + z9 + z28))), (0, .ref h0), (1, .int (iI ob)), (2, .int (iI yr)), (5, .int (iI h_))]) hx hb d_Md_breached_58 rfl hl (by decide) rfl (fun ls hl => ?_)
          refine lv_lload_n hx hb d_Md_breached_59 rfl (lv_at hl 0 rfl) ?_
          refine lv_aload_n hx hb d_Md_breached_60 rfl (lv_at hl 1 rfl) ?_
          refine lv_iload_n hx hb d_Md_breached_61 rfl (lv_at hl 2 rfl) ?_
          obtain ⟨P30, q32, v⟩ := v
          refine vp_callSl (nv_runV (wc := (wMd cI cJ cZ h0 h1 h2 h3 h4 h5 h6 h7 h8 h9 h10 h11 h12 h13 h14 h15 h16 h17 h18 h19 h20 h21 h22 h23 th no ca ba nl xa sa da la ra fa ta ua uh uo ma mh ml nf fo fh fs rs ic mn bh bo ya np pa nc cp)) (As := [.int (iI ob)]) (rest := [.long (lI (tot + z9 + z28))]) ⟨hx, hb, hml, hown, hts⟩ (m_Md_bound l D cI cJ cO cZ h0 h1 h2 h3 h4 h5 h6 h7 h8 h9 h10 h11 h12 h13 h14 h15 h16 h17 h18 h19 h20 h21 h22 h23 th no ca ba nl xa sa da la ra fa ta ua uh uo ma mh ml nf fo fh fs rs ic mn bh bo ya np pa nc cp ob P30 q32) (nv_cwV (n := 1) hts wd_899 wd_901 sl_25 wd_10 wd_902 (by decide +kernel) ⟨Nat.le_of_ble_eq_true rfl, Nat.le_of_ble_eq_true rfl⟩) hK (hP.sub [0, 1, 2, 3, 4, 5, 6, 7, 8, 9, 10, 11, 12, 13, 14, 15, 16, 17, 18, 19, 20, 21, 22, 23] rfl) (va_recv hK hP (ci := 8) (q0 := 0) rfl rfl) rfl hl.1 rfl (Nat.le_of_ble_eq_true rfl) d_Md_breached_62 (Nat.le_of_ble_eq_true rfl) (Nat.le_of_ble_eq_true rfl)) (fun r hr => ?_)
          obtain ⟨z31, rfl, hz⟩ := hr
          replace v := v z31 hz
          obtain ⟨k33, v⟩ := v
          obtain ⟨k34, v⟩ := v
          refine nv_lcmp_le (tgt := 77) hx hb d_Md_breached_65 d_Md_breached_66 (by decide) k33 k34 (fun c35 => ?_) (fun c35 => ?_)
          · replace v := v.1 c35
            refine nv_iinc (k := 4) (z := h_ + 1) (lv' := [(5, .int (iI (h_ + 1))), (3, .long (lI (tot + z9 + z28))), (0, .ref h0), (1, .int (iI ob)), (2, .int (iI yr))]) hx hb d_Md_breached_77 hl rfl (by omega) (by decide) rfl (fun ls hl => ?_)
            refine lv_goto (tgt := 9) hx hb d_Md_breached_80 (by decide) ?_
            exact ih3 (tot + z9 + z28) (h_ + 1) H locs ls (Nat.lt_of_lt_of_le v.2 (Nat.le_of_lt_succ hN4)) v.1 hP hD hS (lv_sub hl [2, 3, 4, 1, 0] rfl)
          · replace v := v.2 c35
            refine lv_aload_n hx hb d_Md_breached_69 rfl (lv_at hl 1 rfl) ?_
            refine lv_iload hx hb d_Md_breached_70 (lv_at hl 4 rfl) ?_
            refine lv_iload_n hx hb d_Md_breached_72 rfl (lv_at hl 2 rfl) ?_
            obtain ⟨P36, q37, v⟩ := v
            have hPc := hP.sub (ws' := (wMd cI cJ cZ h0 h1 h2 h3 h4 h5 h6 h7 h8 h9 h10 h11 h12 h13 h14 h15 h16 h17 h18 h19 h20 h21 h22 h23 th no ca ba nl xa sa da la ra fa ta ua uh uo ma mh ml nf fo fh fs rs ic mn bh bo ya np pa nc cp)) [0, 1, 2, 3, 4, 5, 6, 7, 8, 9, 10, 11, 12, 13, 14, 15, 16, 17, 18, 19, 20, 21, 22, 23] rfl
            have hDc := hD.sub (ws' := (wMd cI cJ cZ h0 h1 h2 h3 h4 h5 h6 h7 h8 h9 h10 h11 h12 h13 h14 h15 h16 h17 h18 h19 h20 h21 h22 h23 th no ca ba nl xa sa da la ra fa ta ua uh uo ma mh ml nf fo fh fs rs ic mn bh bo ya np pa nc cp)) [0, 1, 2, 3, 4, 5, 6, 7, 8, 9, 10, 11, 12, 13, 14, 15, 16, 17, 18, 19, 20, 21, 22, 23] (by decide) rfl
            have hFc := va_free (wc := (wMd cI cJ cZ h0 h1 h2 h3 h4 h5 h6 h7 h8 h9 h10 h11 h12 h13 h14 h15 h16 h17 h18 h19 h20 h21 h22 h23 th no ca ba nl xa sa da la ra fa ta ua uh uo ma mh ml nf fo fh fs rs ic mn bh bo ya np pa nc cp)) hD hS hA [0, 1, 2, 3, 4, 5, 6, 7, 8, 9, 10, 11, 12, 13, 14, 15, 16, 17, 18, 19, 20, 21, 22, 23] rfl
            refine va_callv (va_runV (As := [.int (iI h_), .int (iI ob)]) (rest := []) ⟨hx, hb, hml, hown, hts⟩ (m_Md_put l D cI cJ cO cZ h0 h1 h2 h3 h4 h5 h6 h7 h8 h9 h10 h11 h12 h13 h14 h15 h16 h17 h18 h19 h20 h21 h22 h23 H.size th no ca ba nl xa sa da la ra fa ta ua uh uo ma mh ml nf fo fh fs rs ic mn bh bo ya np pa nc cp h_ ob P36 q37) (nv_cwV (n := 2) hts wd_919 wd_921 sl_28 wd_10 wd_922 (by decide +kernel) ⟨Nat.le_of_ble_eq_true rfl, Nat.le_of_ble_eq_true rfl⟩) ⟨blW, va_recv hK hPc (ci := 8) (q0 := 0) rfl rfl, fun U hU hW => ⟨rfl, by rw [hU], by rw [hU]; exact hPc, va_K.moved hW.alike hK, hDc.weaken (fun _ _ _ _ => trivial)⟩⟩ rfl rfl hl.1 rfl (lv_room (Nat.le_of_ble_eq_true rfl)) d_Md_breached_73 ⟨Nat.le_of_ble_eq_true rfl, Nat.le_of_ble_eq_true rfl⟩) hS (fun q _ h => hFc q h) hFc (fun u t H1 locs ht hvm hw hB hz1 hk1 hS => ?_)
            obtain ⟨y38, y39, y40⟩ := u
            obtain ⟨hP1, hK1, hD1⟩ := hB
            rw [ht] at hP1
            obtain ⟨hP, hD⟩ := va_join (wr := []) (w1 := (wMd cI cJ cZ h0 h1 h2 h3 h4 h5 h6 h7 h8 h9 h10 h11 h12 h13 h14 h15 h16 h17 h18 h19 h20 h21 h22 h23 th no ca ba nl xa sa da la ra fa ta ua uh uo ma mh ml nf fo fh fs rs ic y40 y38 y39 ya np pa nc cp)) hP hD [0, 1, 2, 3, 4, 5, 6, 7, 8, 9, 10, 11, 12, 13, 14, 15, 16, 17, 18, 19, 20, 21, 22, 23] [] rfl rfl (by decide) (by decide) hk1 hFc hP1 hD1
            generalize H1 = H at hP hS ⊢
            have hP : va_P D vwCl (wMd cI cJ cZ h0 h1 h2 h3 h4 h5 h6 h7 h8 h9 h10 h11 h12 h13 h14 h15 h16 h17 h18 h19 h20 h21 h22 h23 th no ca ba nl xa sa da la ra fa ta ua uh uo ma mh ml nf fo fh fs rs ic y40 y38 y39 ya np pa nc cp) H := hP
            have hD : va_D A (wMd cI cJ cZ h0 h1 h2 h3 h4 h5 h6 h7 h8 h9 h10 h11 h12 h13 h14 h15 h16 h17 h18 h19 h20 h21 h22 h23 th no ca ba nl xa sa da la ra fa ta ua uh uo ma mh ml nf fo fh fs rs ic y40 y38 y39 ya np pa nc cp) := hD
            refine W.widen (k := 0) (n := 0) (Nat.le_of_ble_eq_true rfl) (Nat.le_of_ble_eq_true rfl) ?_
            replace v := v y38 y39 y40 hw
            have hP9 := hP.sub (ws' := (wMd cI cJ cZ h0 h1 h2 h3 h4 h5 h6 h7 h8 h9 h10 h11 h12 h13 h14 h15 h16 h17 h18 h19 h20 h21 h22 h23 th no ca ba nl xa sa da la ra fa ta ua uh uo ma mh ml nf fo fh fs rs ic y40 y38 y39 ya np pa nc cp)) [0, 1, 2, 3, 4, 5, 6, 7, 8, 9, 10, 11, 12, 13, 14, 15, 16, 17, 18, 19, 20, 21, 22, 23] rfl
            have hD9 := hD.sub (ws' := (wMd cI cJ cZ h0 h1 h2 h3 h4 h5 h6 h7 h8 h9 h10 h11 h12 h13 h14 h15 h16 h17 h18 h19 h20 h21 h22 h23 th no ca ba nl xa sa da la ra fa ta ua uh uo ma mh ml nf fo fh fs rs ic y40 y38 y39 ya np pa nc cp)) [0, 1, 2, 3, 4, 5, 6, 7, 8, 9, 10, 11, 12, 13, 14, 15, 16, 17, 18, 19, 20, 21, 22, 23] (by decide) rfl
            exact W.vret hx hb hr (fun t ht hW => ⟨⟨((y38), (y39), (y40)), rfl, v, by rw [ht]; exact hP9, va_K.moved hW.alike hK, hD9⟩, hS.F ht⟩) hS.2.2 d_Md_breached_76
  exact L43 _ 0 (8760 * yr) H locs ls (Nat.lt_succ_self _) v41 hP hD hS (lv_sub hl [2, 3, 4, 1, 0] rfl)

theorem d_Md_countAll_0 : decode prog_10_method_30_code 0 = .ok (.aload_n 0, 1) := by decide +kernel
theorem d_Md_countAll_1 : decode prog_10_method_30_code 1 = .ok (.getfield 100, 3) := by decide +kernel
theorem d_Md_countAll_4 : decode prog_10_method_30_code 4 = .ok (.ifCond .eq 4, 3) := by decide +kernel
theorem d_Md_countAll_7 : decode prog_10_method_30_code 7 = .ok (.return_, 1) := by decide +kernel
theorem d_Md_countAll_8 : decode prog_10_method_30_code 8 = .ok (.aload_n 0, 1) := by decide +kernel
theorem d_Md_countAll_9 : decode prog_10_method_30_code 9 = .ok (.iconst 0, 1) := by decide +kernel
theorem d_Md_countAll_10 : decode prog_10_method_30_code 10 = .ok (.putfield 158, 3) := by decide +kernel
theorem d_Md_countAll_13 : decode prog_10_method_30_code 13 = .ok (.iconst 0, 1) := by decide +kernel
theorem d_Md_countAll_14 : decode prog_10_method_30_code 14 = .ok (.istore_n 1, 1) := by decide +kernel
theorem d_Md_countAll_15 : decode prog_10_method_30_code 15 = .ok (.iload_n 1, 1) := by decide +kernel
theorem d_Md_countAll_16 : decode prog_10_method_30_code 16 = .ok (.aload_n 0, 1) := by decide +kernel
theorem d_Md_countAll_17 : decode prog_10_method_30_code 17 = .ok (.getfield 86, 3) := by decide +kernel
theorem d_Md_countAll_20 : decode prog_10_method_30_code 20 = .ok (.if_icmp .ge 71, 3) := by decide +kernel
theorem d_Md_countAll_23 : decode prog_10_method_30_code 23 = .ok (.iconst 0, 1) := by decide +kernel
theorem d_Md_countAll_24 : decode prog_10_method_30_code 24 = .ok (.istore_n 2, 1) := by decide +kernel
theorem d_Md_countAll_25 : decode prog_10_method_30_code 25 = .ok (.iload_n 2, 1) := by decide +kernel
theorem d_Md_countAll_26 : decode prog_10_method_30_code 26 = .ok (.iconst 3, 1) := by decide +kernel
theorem d_Md_countAll_27 : decode prog_10_method_30_code 27 = .ok (.if_icmp .ge 58, 3) := by decide +kernel
theorem d_Md_countAll_30 : decode prog_10_method_30_code 30 = .ok (.aload_n 0, 1) := by decide +kernel
theorem d_Md_countAll_31 : decode prog_10_method_30_code 31 = .ok (.getfield 13, 3) := by decide +kernel
theorem d_Md_countAll_34 : decode prog_10_method_30_code 34 = .ok (.aload_n 0, 1) := by decide +kernel
theorem d_Md_countAll_35 : decode prog_10_method_30_code 35 = .ok (.getfield 7, 3) := by decide +kernel
theorem d_Md_countAll_38 : decode prog_10_method_30_code 38 = .ok (.iload_n 1, 1) := by decide +kernel
theorem d_Md_countAll_39 : decode prog_10_method_30_code 39 = .ok (.iaload, 1) := by decide +kernel
theorem d_Md_countAll_40 : decode prog_10_method_30_code 40 = .ok (.iaload, 1) := by decide +kernel
theorem d_Md_countAll_41 : decode prog_10_method_30_code 41 = .ok (.iconst (-1), 1) := by decide +kernel
theorem d_Md_countAll_42 : decode prog_10_method_30_code 42 = .ok (.if_icmp .eq 43, 3) := by decide +kernel
theorem d_Md_countAll_45 : decode prog_10_method_30_code 45 = .ok (.aload_n 0, 1) := by decide +kernel
theorem d_Md_countAll_46 : decode prog_10_method_30_code 46 = .ok (.iload_n 1, 1) := by decide +kernel
theorem d_Md_countAll_47 : decode prog_10_method_30_code 47 = .ok (.sipush 8760, 3) := by decide +kernel
theorem d_Md_countAll_50 : decode prog_10_method_30_code 50 = .ok (.iload_n 2, 1) := by decide +kernel
theorem d_Md_countAll_51 : decode prog_10_method_30_code 51 = .ok (.imul, 1) := by decide +kernel
theorem d_Md_countAll_52 : decode prog_10_method_30_code 52 = .ok (.sipush 8760, 3) := by decide +kernel
theorem d_Md_countAll_55 : decode prog_10_method_30_code 55 = .ok (.iload_n 2, 1) := by decide +kernel
theorem d_Md_countAll_56 : decode prog_10_method_30_code 56 = .ok (.imul, 1) := by decide +kernel
theorem d_Md_countAll_57 : decode prog_10_method_30_code 57 = .ok (.sipush 8760, 3) := by decide +kernel
theorem d_Md_countAll_60 : decode prog_10_method_30_code 60 = .ok (.iadd, 1) := by decide +kernel
theorem d_Md_countAll_61 : decode prog_10_method_30_code 61 = .ok (.invokevirtual 143, 3) := by decide +kernel
theorem d_Md_countAll_64 : decode prog_10_method_30_code 64 = .ok (.aload_n 0, 1) := by decide +kernel
theorem d_Md_countAll_65 : decode prog_10_method_30_code 65 = .ok (.iload_n 1, 1) := by decide +kernel
theorem d_Md_countAll_66 : decode prog_10_method_30_code 66 = .ok (.invokevirtual 150, 3) := by decide +kernel
theorem d_Md_countAll_69 : decode prog_10_method_30_code 69 = .ok (.lcmp, 1) := by decide +kernel
theorem d_Md_countAll_70 : decode prog_10_method_30_code 70 = .ok (.ifCond .le 9, 3) := by decide +kernel
theorem d_Md_countAll_73 : decode prog_10_method_30_code 73 = .ok (.aload_n 0, 1) := by decide +kernel
theorem d_Md_countAll_74 : decode prog_10_method_30_code 74 = .ok (.iload_n 1, 1) := by decide +kernel
theorem d_Md_countAll_75 : decode prog_10_method_30_code 75 = .ok (.iload_n 2, 1) := by decide +kernel
theorem d_Md_countAll_76 : decode prog_10_method_30_code 76 = .ok (.invokevirtual 161, 3) := by decide +kernel
theorem d_Md_countAll_79 : decode prog_10_method_30_code 79 = .ok (.iinc 2 1, 3) := by decide +kernel
theorem d_Md_countAll_82 : decode prog_10_method_30_code 82 = .ok (.goto (-57), 3) := by decide +kernel
theorem d_Md_countAll_85 : decode prog_10_method_30_code 85 = .ok (.iinc 1 1, 3) := by decide +kernel
theorem d_Md_countAll_88 : decode prog_10_method_30_code 88 = .ok (.goto (-73), 3) := by decide +kernel
theorem d_Md_countAll_91 : decode prog_10_method_30_code 91 = .ok (.aload_n 0, 1) := by decide +kernel
theorem d_Md_countAll_92 : decode prog_10_method_30_code 92 = .ok (.iconst 1, 1) := by decide +kernel
theorem d_Md_countAll_93 : decode prog_10_method_30_code 93 = .ok (.putfield 100, 3) := by decide +kernel
theorem d_Md_countAll_96 : decode prog_10_method_30_code 96 = .ok (.return_, 1) := by decide +kernel
def vc_Md_countAll (th : Int) (no : Int) (ca : Nat → Int) (ba : Nat → Int) (nl : Int) (xa : Nat → Int) (sa : Nat → Int) (da : Nat → Int) (la : Nat → Int) (ra : Nat → Int) (fa : Nat → Int) (ta : Nat → Int) (ua : Nat → Int) (uh : Nat → Int) (uo : Nat → Int) (ma : Nat → Int) (mh : Nat → Int) (ml : Nat → Int) (nf : Int) (fo : Nat → Int) (fh : Nat → Int) (fs : Nat → Int) (rs : Int) (ic : Int) (mn : Int) (bh : Nat → Int) (bo : Nat → Int) (ya : Nat → Int) (np : Int) (pa : Nat → Int) (nc : Int) (cp : Nat → Int) (post : (Nat → Int) → (Nat → Int) → Int → Int → Prop) : Prop := (r32 ic) ∧ ((ic = 0 → ∃ (I3 : Int → (Nat → Int) → (Nat → Int) → Int → Prop) (μ4 : Int → (Nat → Int) → (Nat → Int) → Int → Nat), I3 0 bh bo 0 ∧ ∀ (o_ : Int) (gh : Nat → Int) (go : Nat → Int) (gn : Int), I3 o_ gh go gn → (r32 o_) ∧ ((r32 no) ∧ ((no ≤ o_ → post gh go gn 1) ∧ (o_ < no → ∃ (I10 : Int → (Nat → Int) → (Nat → Int) → Int → Prop) (μ11 : Int → (Nat → Int) → (Nat → Int) → Int → Nat), I10 0 gh go gn ∧ ∀ (y_ : Int) (jh : Nat → Int) (jo : Nat → Int) (jn : Int), I10 y_ jh jo jn → (r32 y_) ∧ ((3 ≤ y_ → I3 (o_ + 1) jh jo jn ∧ μ4 (o_ + 1) jh jo jn < μ4 o_ gh go gn) ∧ (y_ < 3 → (0 ≤ o_ ∧ o_ < 12) ∧ ((0 ≤ ca (o_).toNat ∧ ca (o_).toNat < 6) ∧ ((r32 (ba (ca (o_).toNat).toNat)) ∧ ((ba (ca (o_).toNat).toNat = (-1) → I3 (o_ + 1) jh jo jn ∧ μ4 (o_ + 1) jh jo jn < μ4 o_ gh go gn) ∧ (¬ ba (ca (o_).toNat).toNat = (-1) → ∃ P20 : Int → Prop, vc_Md_parts th no ca ba nl xa sa da la ra fa ta ua uh uo ma mh ml nf fo fh fs rs ic jn jh jo ya np pa nc cp o_ (8760 * y_) (8760 * y_ + 8760) P20 ∧ ∀ z21 : Int, P20 z21 → ∃ P23 : Int → Prop, vc_Md_bound th no ca ba nl xa sa da la ra fa ta ua uh uo ma mh ml nf fo fh fs rs ic jn jh jo ya np pa nc cp o_ P23 ∧ ∀ z24 : Int, P23 z24 → (r64 z21) ∧ ((r64 z24) ∧ ((z21 ≤ z24 → I10 (y_ + 1) jh jo jn ∧ μ11 (y_ + 1) jh jo jn < μ11 y_ jh jo jn) ∧ (z24 < z21 → ∃ P29 : (Nat → Int) → (Nat → Int) → Int → Prop, vc_Md_breached th no ca ba nl xa sa da la ra fa ta ua uh uo ma mh ml nf fo fh fs rs ic jn jh jo ya np pa nc cp o_ y_ P29 ∧ ∀ (y31 : Nat → Int) (y32 : Nat → Int) (y33 : Int), P29 y31 y32 y33 → I10 (y_ + 1) y31 y32 y33 ∧ μ11 (y_ + 1) y31 y32 y33 < μ11 y_ jh jo jn))))))))))))) ∧ (¬ ic = 0 → post bh bo mn ic))
set_option maxHeartbeats 4000000 in
set_option maxRecDepth 100000 in
theorem m_Md_countAll (l : Launch) (D : va_G) (cI cJ cO cZ : ClassId) (h0 h1 h2 h3 h4 h5 h6 h7 h8 h9 h10 h11 h12 h13 h14 h15 h16 h17 h18 h19 h20 h21 h22 h23 : Nat) (sz : Nat) (th : Int) (no : Int) (ca : Nat → Int) (ba : Nat → Int) (nl : Int) (xa : Nat → Int) (sa : Nat → Int) (da : Nat → Int) (la : Nat → Int) (ra : Nat → Int) (fa : Nat → Int) (ta : Nat → Int) (ua : Nat → Int) (uh : Nat → Int) (uo : Nat → Int) (ma : Nat → Int) (mh : Nat → Int) (ml : Nat → Int) (nf : Int) (fo : Nat → Int) (fh : Nat → Int) (fs : Nat → Int) (rs : Int) (ic : Int) (mn : Int) (bh : Nat → Int) (bo : Nat → Int) (ya : Nat → Int) (np : Int) (pa : Nat → Int) (nc : Int) (cp : Nat → Int) (post : (Nat → Int) → (Nat → Int) → Int → Int → Prop) (v : vc_Md_countAll th no ca ba nl xa sa da la ra fa ta ua uh uo ma mh ml nf fo fh fs rs ic mn bh bo ya np pa nc cp post) : Met l ⟨"LightDosesModel", "countAll", "()V"⟩ (.code ⟨"LightDosesModel", "countAll", "()V"⟩ prog_10_method_30_code 3 none :: TG) { frames := 2, cells := 0, slots := 0, locals := 53 } (va_Pc [.ref h0] (fun U => U.heap.size = sz ∧ va_P D vwCl (wMd cI cJ cZ h0 h1 h2 h3 h4 h5 h6 h7 h8 h9 h10 h11 h12 h13 h14 h15 h16 h17 h18 h19 h20 h21 h22 h23 th no ca ba nl xa sa da la ra fa ta ua uh uo ma mh ml nf fo fh fs rs ic mn bh bo ya np pa nc cp) U.heap ∧ va_K D vwCl (tyx cI cJ cO cZ) U ∧ va_D (fun _ => True) (wMd cI cJ cZ h0 h1 h2 h3 h4 h5 h6 h7 h8 h9 h10 h11 h12 h13 h14 h15 h16 h17 h18 h19 h20 h21 h22 h23 th no ca ba nl xa sa da la ra fa ta ua uh uo ma mh ml nf fo fh fs rs ic mn bh bo ya np pa nc cp))) (va_Qv (fun u : (Nat → Int) × (Nat → Int) × Int × Int => post u.1 u.2.1 u.2.2.1 u.2.2.2) (fun u t => va_P D vwCl (wMd cI cJ cZ h0 h1 h2 h3 h4 h5 h6 h7 h8 h9 h10 h11 h12 h13 h14 h15 h16 h17 h18 h19 h20 h21 h22 h23 th no ca ba nl xa sa da la ra fa ta ua uh uo ma mh ml nf fo fh fs rs u.2.2.2 u.2.2.1 u.1 u.2.1 ya np pa nc cp) t.heap ∧ va_K D vwCl (tyx cI cJ cO cZ) t ∧ va_D (va_A (wMd cI cJ cZ h0 h1 h2 h3 h4 h5 h6 h7 h8 h9 h10 h11 h12 h13 h14 h15 h16 h17 h18 h19 h20 h21 h22 h23 th no ca ba nl xa sa da la ra fa ta ua uh uo ma mh ml nf fo fh fs rs ic mn bh bo ya np pa nc cp) sz) (wMd cI cJ cZ h0 h1 h2 h3 h4 h5 h6 h7 h8 h9 h10 h11 h12 h13 h14 h15 h16 h17 h18 h19 h20 h21 h22 h23 th no ca ba nl xa sa da la ra fa ta ua uh uo ma mh ml nf fo fh fs rs u.2.2.2 u.2.2.1 u.1 u.2.1 ya np pa nc cp)) (va_A (wMd cI cJ cZ h0 h1 h2 h3 h4 h5 h6 h7 h8 h9 h10 h11 h12 h13 h14 h15 h16 h17 h18 h19 h20 h21 h22 h23 th no ca ba nl xa sa da la ra fa ta ua uh uo ma mh ml nf fo fh fs rs ic mn bh bo ya np pa nc cp) sz)) 0 0 (va_A (wMd cI cJ cZ h0 h1 h2 h3 h4 h5 h6 h7 h8 h9 h10 h11 h12 h13 h14 h15 h16 h17 h18 h19 h20 h21 h22 h23 th no ca ba nl xa sa da la ra fa ta ua uh uo ma mh ml nf fo fh fs rs ic mn bh bo ya np pa nc cp) sz) := by
  refine Met.ofW (cc := prog_10_method_30_code) (maxL := 3) (ret := none) (by decide) rfl ?_
  intro p e s m args below meth c s₁ B hml hv
  obtain ⟨rfl, hsz, hP, hK, hD0⟩ := hv
  have hx := B.exec
  have hb := B.bytes
  have hr := B.returns
  have hts0 := atoms_spec (ws := (.code ⟨"LightDosesModel", "countAll", "()V"⟩ prog_10_method_30_code 3 none :: TG)) B.pre
  have hts : ∀ w ∈ TG, w.before _ s = true := fun w h => hts0 w (List.mem_cons_of_mem _ h)
  have hown : s.vm.findClass "LightDosesModel" = some m.cls := findClass_of_methodNamed B.named
  have hlocks := B.notSynchronized
  subst hsz
  have hD := hD0.self (sz := s.heap.size)
  generalize hAe : va_A (wMd cI cJ cZ h0 h1 h2 h3 h4 h5 h6 h7 h8 h9 h10 h11 h12 h13 h14 h15 h16 h17 h18 h19 h20 h21 h22 h23 th no ca ba nl xa sa da la ra fa ta ua uh uo ma mh ml nf fo fh fs rs ic mn bh bo ya np pa nc cp) s.heap.size = A at hD ⊢
  have hA : ∀ q : Nat, s.heap.size ≤ q → A q := fun q h => by rw [← hAe]; exact Or.inr h
  have hS : va_S A s.heap s.heap [] := va_S.rf
  have hP : va_P D vwCl (wMd cI cJ cZ h0 h1 h2 h3 h4 h5 h6 h7 h8 h9 h10 h11 h12 h13 h14 h15 h16 h17 h18 h19 h20 h21 h22 h23 th no ca ba nl xa sa da la ra fa ta ua uh uo ma mh ml nf fo fh fs rs ic mn bh bo ya np pa nc cp) s.heap := hP
  have hl := lv_entry ([Value.ref h0]) (n := 3) (Nat.le_of_ble_eq_true rfl)
  rw [lg_entry_eq]
  generalize (lg_sl ([Value.ref h0]) ++ List.replicate (3 - (lg_sl ([Value.ref h0])).length) Slot.unset).toArray = ls at hl ⊢
  have hl : lv_has ls 3 [(0, .ref h0)] := hl
  unfold vc_Md_countAll at v
  obtain ⟨H, hH⟩ : ∃ H, H = s.heap := ⟨_, rfl⟩
  obtain ⟨locs, hlc⟩ : ∃ L : List Loc, L = [] := ⟨_, rfl⟩
  rw [← hlc] at hS ⊢
  have hP : va_P D vwCl (wMd cI cJ cZ h0 h1 h2 h3 h4 h5 h6 h7 h8 h9 h10 h11 h12 h13 h14 h15 h16 h17 h18 h19 h20 h21 h22 h23 th no ca ba nl xa sa da la ra fa ta ua uh uo ma mh ml nf fo fh fs rs ic mn bh bo ya np pa nc cp) H := by rw [hH]; exact hP
  have hS : va_S A s.heap H locs := by rw [hH]; exact hS
  have hW0 : ∀ {X : Heap → Prop}, X H → X s.heap := fun h => by rw [← hH]; exact h
  refine hW0 (X := fun Z => W p l e _ s m _ below meth c Z locs 0 0 _ _) ?_
  refine lv_aload_n hx hb d_Md_countAll_0 rfl (lv_at hl 0 rfl) ?_
  refine va_get (D := D) (ci := 8) (v := .int (iI ic)) (C := "LightDosesModel") (T := T_Md) (N := 32) hx hb hts in_Md hown hK hP 0 rfl rfl 23 (by decide) (hts _ wd_726) (fun _ h9 => h9) rfl d_Md_countAll_1 ?_
  obtain ⟨k1, v⟩ := v
  refine nv_if_eq (tgt := 8) hx hb d_Md_countAll_4 (by decide) k1 (fun c2 => ?_) (fun c2 => ?_)
  · replace v := v.1 c2
    refine lv_aload_n hx hb d_Md_countAll_8 rfl (lv_at hl 0 rfl) ?_
    refine nv_iconst (n := 0) hx hb d_Md_countAll_9 ?_
    refine va_put (D := D) (ci := 8) (v := .int (iI 0)) (ty := .int) (C := "LightDosesModel") (T := T_Md) (N := 32) hx hb hts in_Md t_Md tok_Md n_Md hown hK hP hD hS 0 rfl rfl 24 (by decide) (hts _ wd_727) (fun _ h9 => h9) rfl (by decide +kernel) rfl rfl (Nat.le_of_ble_eq_true rfl) d_Md_countAll_10 (fun H locs hP hD hS => ?_)
    have hP : va_P D vwCl (wMd cI cJ cZ h0 h1 h2 h3 h4 h5 h6 h7 h8 h9 h10 h11 h12 h13 h14 h15 h16 h17 h18 h19 h20 h21 h22 h23 th no ca ba nl xa sa da la ra fa ta ua uh uo ma mh ml nf fo fh fs rs ic 0 bh bo ya np pa nc cp) H := hP
    have hD : va_D A (wMd cI cJ cZ h0 h1 h2 h3 h4 h5 h6 h7 h8 h9 h10 h11 h12 h13 h14 h15 h16 h17 h18 h19 h20 h21 h22 h23 th no ca ba nl xa sa da la ra fa ta ua uh uo ma mh ml nf fo fh fs rs ic 0 bh bo ya np pa nc cp) := hD
    refine nv_iconst (n := 0) hx hb d_Md_countAll_13 ?_
    refine lv_istore_n (lv' := [(1, .int (iI 0)), (0, .ref h0)]) hx hb d_Md_countAll_14 rfl hl (by decide) rfl (fun ls hl => ?_)
    obtain ⟨I3, μ4, v37, v38⟩ := v
    have L39 : ∀ (N : Nat) (o_ : Int) (gh : Nat → Int) (go : Nat → Int) (gn : Int) (H : Heap) (locs : List Loc) (ls : Array Slot), μ4 o_ gh go gn < N → I3 o_ gh go gn → va_P D vwCl (wMd cI cJ cZ h0 h1 h2 h3 h4 h5 h6 h7 h8 h9 h10 h11 h12 h13 h14 h15 h16 h17 h18 h19 h20 h21 h22 h23 th no ca ba nl xa sa da la ra fa ta ua uh uo ma mh ml nf fo fh fs rs ic gn gh go ya np pa nc cp) H → va_D A (wMd cI cJ cZ h0 h1 h2 h3 h4 h5 h6 h7 h8 h9 h10 h11 h12 h13 h14 h15 h16 h17 h18 h19 h20 h21 h22 h23 th no ca ba nl xa sa da la ra fa ta ua uh uo ma mh ml nf fo fh fs rs ic gn gh go ya np pa nc cp) → va_S A s.heap H locs → lv_has ls 3 [(0, .ref h0), (1, .int (iI o_))] → W p l e (headSpec (.code ⟨"LightDosesModel", "countAll", "()V"⟩ prog_10_method_30_code 3 none :: TG) { frames := 2, cells := 0, slots := 0, locals := 53 }).room s m ([Value.ref h0] : List Value).toArray below meth c H locs 0 0 (MQ below (va_Qv (fun u : (Nat → Int) × (Nat → Int) × Int × Int => post u.1 u.2.1 u.2.2.1 u.2.2.2) (fun u t => va_P D vwCl (wMd cI cJ cZ h0 h1 h2 h3 h4 h5 h6 h7 h8 h9 h10 h11 h12 h13 h14 h15 h16 h17 h18 h19 h20 h21 h22 h23 th no ca ba nl xa sa da la ra fa ta ua uh uo ma mh ml nf fo fh fs rs u.2.2.2 u.2.2.1 u.1 u.2.1 ya np pa nc cp) t.heap ∧ va_K D vwCl (tyx cI cJ cO cZ) t ∧ va_D A (wMd cI cJ cZ h0 h1 h2 h3 h4 h5 h6 h7 h8 h9 h10 h11 h12 h13 h14 h15 h16 h17 h18 h19 h20 h21 h22 h23 th no ca ba nl xa sa da la ra fa ta ua uh uo ma mh ml nf fo fh fs rs u.2.2.2 u.2.2.1 u.1 u.2.1 ya np pa nc cp)) A) ([Value.ref h0] : List Value).toArray s 0 0 A) (F0 m 15 ls []) := by
      intro N
      induction N with
      | zero => intro o_ gh go gn H locs ls hN; exact absurd hN (Nat.not_lt_zero _)
      | succ N ih5 =>
        intro o_ gh go gn H locs ls hN6 hI hP hD hS hl
        have v := v38 o_ gh go gn hI
        refine lv_iload_n hx hb d_Md_countAll_15 rfl (lv_at hl 1 rfl) ?_
        refine lv_aload_n hx hb d_Md_countAll_16 rfl (lv_at hl 0 rfl) ?_
        refine va_get (D := D) (ci := 8) (v := .int (iI no)) (C := "LightDosesModel") (T := T_Md) (N := 32) hx hb hts in_Md hown hK hP 0 rfl rfl 1 (by decide) (hts _ wd_704) (fun _ h9 => h9) rfl d_Md_countAll_17 ?_
        obtain ⟨k7, v⟩ := v
        obtain ⟨k8, v⟩ := v
        refine nv_icmp_ge (tgt := 91) hx hb d_Md_countAll_20 (by decide) k7 k8 (fun c9 => ?_) (fun c9 => ?_)
        · replace v := v.1 c9
          refine lv_aload_n hx hb d_Md_countAll_91 rfl (lv_at hl 0 rfl) ?_
          refine nv_iconst (n := 1) hx hb d_Md_countAll_92 ?_
          refine va_put (D := D) (ci := 8) (v := .int (iI 1)) (ty := .boolean) (C := "LightDosesModel") (T := T_Md) (N := 32) hx hb hts in_Md t_Md tok_Md n_Md hown hK hP hD hS 0 rfl rfl 23 (by decide) (hts _ wd_726) (fun _ h9 => h9) rfl (by decide +kernel) (by decide) (by decide) (Nat.le_of_ble_eq_true rfl) d_Md_countAll_93 (fun H locs hP hD hS => ?_)
          have hP : va_P D vwCl (wMd cI cJ cZ h0 h1 h2 h3 h4 h5 h6 h7 h8 h9 h10 h11 h12 h13 h14 h15 h16 h17 h18 h19 h20 h21 h22 h23 th no ca ba nl xa sa da la ra fa ta ua uh uo ma mh ml nf fo fh fs rs 1 gn gh go ya np pa nc cp) H := hP
          have hD : va_D A (wMd cI cJ cZ h0 h1 h2 h3 h4 h5 h6 h7 h8 h9 h10 h11 h12 h13 h14 h15 h16 h17 h18 h19 h20 h21 h22 h23 th no ca ba nl xa sa da la ra fa ta ua uh uo ma mh ml nf fo fh fs rs 1 gn gh go ya np pa nc cp) := hD
          have hP9 := hP.sub (ws' := (wMd cI cJ cZ h0 h1 h2 h3 h4 h5 h6 h7 h8 h9 h10 h11 h12 h13 h14 h15 h16 h17 h18 h19 h20 h21 h22 h23 th no ca ba nl xa sa da la ra fa ta ua uh uo ma mh ml nf fo fh fs rs 1 gn gh go ya np pa nc cp)) [0, 1, 2, 3, 4, 5, 6, 7, 8, 9, 10, 11, 12, 13, 14, 15, 16, 17, 18, 19, 20, 21, 22, 23] rfl
          have hD9 := hD.sub (ws' := (wMd cI cJ cZ h0 h1 h2 h3 h4 h5 h6 h7 h8 h9 h10 h11 h12 h13 h14 h15 h16 h17 h18 h19 h20 h21 h22 h23 th no ca ba nl xa sa da la ra fa ta ua uh uo ma mh ml nf fo fh fs rs 1 gn gh go ya np pa nc cp)) [0, 1, 2, 3, 4, 5, 6, 7, 8, 9, 10, 11, 12, 13, 14, 15, 16, 17, 18, 19, 20, 21, 22, 23] (by decide) rfl
          exact W.vret hx hb hr (fun t ht hW => ⟨⟨((gh), (go), (gn), (1)), rfl, v, by rw [ht]; exact hP9, va_K.moved hW.alike hK, hD9⟩, hS.F ht⟩) hS.2.2 d_Md_countAll_96
        · replace v := v.2 c9
          refine nv_iconst (n := 0) hx hb d_Md_countAll_23 ?_
          refine lv_istore_n (lv' := [(2, .int (iI 0)), (0, .ref h0), (1, .int (iI o_))]) hx hb d_Md_countAll_24 rfl hl (by decide) rfl (fun ls hl => ?_)
          obtain ⟨I10, μ11, v34, v35⟩ := v
          have L36 : ∀ (N : Nat) (y_ : Int) (jh : Nat → Int) (jo : Nat → Int) (jn : Int) (H : Heap) (locs : List Loc) (ls : Array Slot), μ11 y_ jh jo jn < N → I10 y_ jh jo jn → va_P D vwCl (wMd cI cJ cZ h0 h1 h2 h3 h4 h5 h6 h7 h8 h9 h10 h11 h12 h13 h14 h15 h16 h17 h18 h19 h20 h21 h22 h23 th no ca ba nl xa sa da la ra fa ta ua uh uo ma mh ml nf fo fh fs rs ic jn jh jo ya np pa nc cp) H → va_D A (wMd cI cJ cZ h0 h1 h2 h3 h4 h5 h6 h7 h8 h9 h10 h11 h12 h13 h14 h15 h16 h17 h18 h19 h20 h21 h22 h23 th no ca ba nl xa sa da la ra fa ta ua uh uo ma mh ml nf fo fh fs rs ic jn jh jo ya np pa nc cp) → va_S A s.heap H locs → lv_has ls 3 [(0, .ref h0), (1, .int (iI o_)), (2, .int (iI y_))] → W p l e (headSpec (.code ⟨"LightDosesModel", "countAll", "()V"⟩ prog_10_method_30_code 3 none :: TG) { frames := 2, cells := 0, slots := 0, locals := 53 }).room s m ([Value.ref h0] : List Value).toArray below meth c H locs 0 0 (MQ below (va_Qv (fun u : (Nat → Int) × (Nat → Int) × Int × Int => post u.1 u.2.1 u.2.2.1 u.2.2.2) (fun u t => va_P D vwCl (wMd cI cJ cZ h0 h1 h2 h3 h4 h5 h6 h7 h8 h9 h10 h11 h12 h13 h14 h15 h16 h17 h18 h19 h20 h21 h22 h23 th no ca ba nl xa sa da la ra fa ta ua uh uo ma mh ml nf fo fh fs rs u.2.2.2 u.2.2.1 u.1 u.2.1 ya np pa nc cp) t.heap ∧ va_K D vwCl (tyx cI cJ cO cZ) t ∧ va_D A (wMd cI cJ cZ h0 h1 h2 h3 h4 h5 h6 h7 h8 h9 h10 h11 h12 h13 h14 h15 h16 h17 h18 h19 h20 h21 h22 h23 th no ca ba nl xa sa da la ra fa ta ua uh uo ma mh ml nf fo fh fs rs u.2.2.2 u.2.2.1 u.1 u.2.1 ya np pa nc cp)) A) ([Value.ref h0] : List Value).toArray s 0 0 A) (F0 m 25 ls []) := by
            intro N
            induction N with
            | zero => intro y_ jh jo jn H locs ls hN; exact absurd hN (Nat.not_lt_zero _)
            | succ N ih12 =>
              intro y_ jh jo jn H locs ls hN13 hI hP hD hS hl
              have v := v35 y_ jh jo jn hI
              refine lv_iload_n hx hb d_Md_countAll_25 rfl (lv_at hl 2 rfl) ?_
              refine nv_iconst (n := 3) hx hb d_Md_countAll_26 ?_
              obtain ⟨k14, v⟩ := v
              refine nv_icmp_ge (tgt := 85) hx hb d_Md_countAll_27 (by decide) k14 (by decide) (fun c15 => ?_) (fun c15 => ?_)
              · replace v := v.1 c15
                refine nv_iinc (k := 1) (z := o_ + 1) (lv' := [(1, .int (iI (o_ + 1))), (0, .ref h0), (2, .int (iI y_))]) hx hb d_Md_countAll_85 hl rfl (by omega) (by decide) rfl (fun ls hl => ?_)
                refine lv_goto (tgt := 15) hx hb d_Md_countAll_88 (by decide) ?_
                exact ih5 (o_ + 1) jh jo jn H locs ls (Nat.lt_of_lt_of_le v.2 (Nat.le_of_lt_succ hN6)) v.1 hP hD hS (lv_sub hl [1, 0] rfl)
              · replace v := v.2 c15
                refine lv_aload_n hx hb d_Md_countAll_30 rfl (lv_at hl 0 rfl) ?_
                refine va_get (D := D) (ci := 8) (v := .ref h2) (C := "LightDosesModel") (T := T_Md) (N := 32) hx hb hts in_Md hown hK hP 0 rfl rfl 3 (by decide) (hts _ wd_706) (fun _ h9 => h9) rfl d_Md_countAll_31 ?_
                refine lv_aload_n hx hb d_Md_countAll_34 rfl (lv_at hl 0 rfl) ?_
                refine va_get (D := D) (ci := 8) (v := .ref h1) (C := "LightDosesModel") (T := T_Md) (N := 32) hx hb hts in_Md hown hK hP 0 rfl rfl 2 (by decide) (hts _ wd_705) (fun _ h9 => h9) rfl d_Md_countAll_35 ?_
                refine lv_iload_n hx hb d_Md_countAll_38 rfl (lv_at hl 1 rfl) ?_
                obtain ⟨k16, v⟩ := v
                refine nv_iald (f := ca) hx hb hK 0 (hP 1 _ rfl) rfl (o_).toNat (Int.toNat_of_nonneg k16.1).symm (by omega) (by decide) d_Md_countAll_39 ?_
                obtain ⟨k17, v⟩ := v
                refine nv_iald (f := ba) hx hb hK 0 (hP 2 _ rfl) rfl (ca (o_).toNat).toNat (Int.toNat_of_nonneg k17.1).symm (by omega) (by decide) d_Md_countAll_40 ?_
                refine nv_iconst (n := (-1)) hx hb d_Md_countAll_41 ?_
                obtain ⟨k18, v⟩ := v
                refine nv_icmp_eq (tgt := 85) hx hb d_Md_countAll_42 (by decide) k18 (by decide) (fun c19 => ?_) (fun c19 => ?_)
                · replace v := v.1 c19
                  refine nv_iinc (k := 1) (z := o_ + 1) (lv' := [(1, .int (iI (o_ + 1))), (0, .ref h0), (2, .int (iI y_))]) hx hb d_Md_countAll_85 hl rfl (by omega) (by decide) rfl (fun ls hl => ?_)
                  refine lv_goto (tgt := 15) hx hb d_Md_countAll_88 (by decide) ?_
                  exact ih5 (o_ + 1) jh jo jn H locs ls (Nat.lt_of_lt_of_le v.2 (Nat.le_of_lt_succ hN6)) v.1 hP hD hS (lv_sub hl [1, 0] rfl)
                · replace v := v.2 c19
                  refine lv_aload_n hx hb d_Md_countAll_45 rfl (lv_at hl 0 rfl) ?_
                  refine lv_iload_n hx hb d_Md_countAll_46 rfl (lv_at hl 1 rfl) ?_
                  refine nv_sipush (z := 8760) hx hb d_Md_countAll_47 (by decide) ?_
                  refine lv_iload_n hx hb d_Md_countAll_50 rfl (lv_at hl 2 rfl) ?_
                  refine nv_imul (z := 8760 * y_) hx hb d_Md_countAll_51 (by first | rfl | omega) ?_
                  refine nv_sipush (z := 8760) hx hb d_Md_countAll_52 (by decide) ?_
                  refine lv_iload_n hx hb d_Md_countAll_55 rfl (lv_at hl 2 rfl) ?_
                  refine nv_imul (z := 8760 * y_) hx hb d_Md_countAll_56 (by first | rfl | omega) ?_
                  refine nv_sipush (z := 8760) hx hb d_Md_countAll_57 (by decide) ?_
                  refine nv_iadd (z := 8760 * y_ + 8760) hx hb d_Md_countAll_60 (by first | rfl | omega) ?_
                  obtain ⟨P20, q22, v⟩ := v
                  refine vp_callSl (nv_runV (wc := (wMd cI cJ cZ h0 h1 h2 h3 h4 h5 h6 h7 h8 h9 h10 h11 h12 h13 h14 h15 h16 h17 h18 h19 h20 h21 h22 h23 th no ca ba nl xa sa da la ra fa ta ua uh uo ma mh ml nf fo fh fs rs ic jn jh jo ya np pa nc cp)) (As := [.int (iI o_), .int (iI (8760 * y_)), .int (iI (8760 * y_ + 8760))]) (rest := []) ⟨hx, hb, hml, hown, hts⟩ (m_Md_parts l D cI cJ cO cZ h0 h1 h2 h3 h4 h5 h6 h7 h8 h9 h10 h11 h12 h13 h14 h15 h16 h17 h18 h19 h20 h21 h22 h23 th no ca ba nl xa sa da la ra fa ta ua uh uo ma mh ml nf fo fh fs rs ic jn jh jo ya np pa nc cp o_ (8760 * y_) (8760 * y_ + 8760) P20 q22) (nv_cwV (n := 3) hts wd_871 wd_873 sl_21 wd_10 wd_874 (by decide +kernel) ⟨Nat.le_of_ble_eq_true rfl, Nat.le_of_ble_eq_true rfl⟩) hK (hP.sub [0, 1, 2, 3, 4, 5, 6, 7, 8, 9, 10, 11, 12, 13, 14, 15, 16, 17, 18, 19, 20, 21, 22, 23] rfl) (va_recv hK hP (ci := 8) (q0 := 0) rfl rfl) rfl hl.1 rfl (Nat.le_of_ble_eq_true rfl) d_Md_countAll_61 (Nat.le_of_ble_eq_true rfl) (Nat.le_of_ble_eq_true rfl)) (fun r hr => ?_)
                  obtain ⟨z21, rfl, hz⟩ := hr
                  replace v := v z21 hz
                  refine lv_aload_n hx hb d_Md_countAll_64 rfl (lv_at hl 0 rfl) ?_
                  refine lv_iload_n hx hb d_Md_countAll_65 rfl (lv_at hl 1 rfl) ?_
                  obtain ⟨P23, q25, v⟩ := v
                  refine vp_callSl (nv_runV (wc := (wMd cI cJ cZ h0 h1 h2 h3 h4 h5 h6 h7 h8 h9 h10 h11 h12 h13 h14 h15 h16 h17 h18 h19 h20 h21 h22 h23 th no ca ba nl xa sa da la ra fa ta ua uh uo ma mh ml nf fo fh fs rs ic jn jh jo ya np pa nc cp)) (As := [.int (iI o_)]) (rest := [.long (lI z21)]) ⟨hx, hb, hml, hown, hts⟩ (m_Md_bound l D cI cJ cO cZ h0 h1 h2 h3 h4 h5 h6 h7 h8 h9 h10 h11 h12 h13 h14 h15 h16 h17 h18 h19 h20 h21 h22 h23 th no ca ba nl xa sa da la ra fa ta ua uh uo ma mh ml nf fo fh fs rs ic jn jh jo ya np pa nc cp o_ P23 q25) (nv_cwV (n := 1) hts wd_899 wd_901 sl_25 wd_10 wd_902 (by decide +kernel) ⟨Nat.le_of_ble_eq_true rfl, Nat.le_of_ble_eq_true rfl⟩) hK (hP.sub [0, 1, 2, 3, 4, 5, 6, 7, 8, 9, 10, 11, 12, 13, 14, 15, 16, 17, 18, 19, 20, 21, 22, 23] rfl) (va_recv hK hP (ci := 8) (q0 := 0) rfl rfl) rfl hl.1 rfl (Nat.le_of_ble_eq_true rfl) d_Md_countAll_66 (Nat.le_of_ble_eq_true rfl) (Nat.le_of_ble_eq_true rfl)) (fun r hr => ?_)
                  obtain ⟨z24, rfl, hz⟩ := hr
                  replace v := v z24 hz
                  obtain ⟨k26, v⟩ := v
                  obtain ⟨k27, v⟩ := v
                  refine nv_lcmp_le (tgt := 79) hx hb d_Md_countAll_69 d_Md_countAll_70 (by decide) k26 k27 (fun c28 => ?_) (fun c28 => ?_)
                  · replace v := v.1 c28
                    refine nv_iinc (k := 2) (z := y_ + 1) (lv' := [(2, .int (iI (y_ + 1))), (0, .ref h0), (1, .int (iI o_))]) hx hb d_Md_countAll_79 hl rfl (by omega) (by decide) rfl (fun ls hl => ?_)
                    refine lv_goto (tgt := 25) hx hb d_Md_countAll_82 (by decide) ?_
                    exact ih12 (y_ + 1) jh jo jn H locs ls (Nat.lt_of_lt_of_le v.2 (Nat.le_of_lt_succ hN13)) v.1 hP hD hS (lv_sub hl [1, 2, 0] rfl)
                  · replace v := v.2 c28
                    refine lv_aload_n hx hb d_Md_countAll_73 rfl (lv_at hl 0 rfl) ?_
                    refine lv_iload_n hx hb d_Md_countAll_74 rfl (lv_at hl 1 rfl) ?_
                    refine lv_iload_n hx hb d_Md_countAll_75 rfl (lv_at hl 2 rfl) ?_
                    obtain ⟨P29, q30, v⟩ := v
                    have hPc := hP.sub (ws' := (wMd cI cJ cZ h0 h1 h2 h3 h4 h5 h6 h7 h8 h9 h10 h11 h12 h13 h14 h15 h16 h17 h18 h19 h20 h21 h22 h23 th no ca ba nl xa sa da la ra fa ta ua uh uo ma mh ml nf fo fh fs rs ic jn jh jo ya np pa nc cp)) [0, 1, 2, 3, 4, 5, 6, 7, 8, 9, 10, 11, 12, 13, 14, 15, 16, 17, 18, 19, 20, 21, 22, 23] rfl
                    have hDc := hD.sub (ws' := (wMd cI cJ cZ h0 h1 h2 h3 h4 h5 h6 h7 h8 h9 h10 h11 h12 h13 h14 h15 h16 h17 h18 h19 h20 h21 h22 h23 th no ca ba nl xa sa da la ra fa ta ua uh uo ma mh ml nf fo fh fs rs ic jn jh jo ya np pa nc cp)) [0, 1, 2, 3, 4, 5, 6, 7, 8, 9, 10, 11, 12, 13, 14, 15, 16, 17, 18, 19, 20, 21, 22, 23] (by decide) rfl
                    have hFc := va_free (wc := (wMd cI cJ cZ h0 h1 h2 h3 h4 h5 h6 h7 h8 h9 h10 h11 h12 h13 h14 h15 h16 h17 h18 h19 h20 h21 h22 h23 th no ca ba nl xa sa da la ra fa ta ua uh uo ma mh ml nf fo fh fs rs ic jn jh jo ya np pa nc cp)) hD hS hA [0, 1, 2, 3, 4, 5, 6, 7, 8, 9, 10, 11, 12, 13, 14, 15, 16, 17, 18, 19, 20, 21, 22, 23] rfl
                    refine va_callv (va_runV (As := [.int (iI o_), .int (iI y_)]) (rest := []) ⟨hx, hb, hml, hown, hts⟩ (m_Md_breached l D cI cJ cO cZ h0 h1 h2 h3 h4 h5 h6 h7 h8 h9 h10 h11 h12 h13 h14 h15 h16 h17 h18 h19 h20 h21 h22 h23 H.size th no ca ba nl xa sa da la ra fa ta ua uh uo ma mh ml nf fo fh fs rs ic jn jh jo ya np pa nc cp o_ y_ P29 q30) (nv_cwV (n := 2) hts wd_915 wd_917 sl_27 wd_10 wd_918 (by decide +kernel) ⟨Nat.le_of_ble_eq_true rfl, Nat.le_of_ble_eq_true rfl⟩) ⟨blW, va_recv hK hPc (ci := 8) (q0 := 0) rfl rfl, fun U hU hW => ⟨rfl, by rw [hU], by rw [hU]; exact hPc, va_K.moved hW.alike hK, hDc.weaken (fun _ _ _ _ => trivial)⟩⟩ rfl rfl hl.1 rfl (lv_room (Nat.le_of_ble_eq_true rfl)) d_Md_countAll_76 ⟨Nat.le_of_ble_eq_true rfl, Nat.le_of_ble_eq_true rfl⟩) hS (fun q _ h => hFc q h) hFc (fun u t H1 locs ht hvm hw hB hz1 hk1 hS => ?_)
                    obtain ⟨y31, y32, y33⟩ := u
                    obtain ⟨hP1, hK1, hD1⟩ := hB
                    rw [ht] at hP1
                    obtain ⟨hP, hD⟩ := va_join (wr := []) (w1 := (wMd cI cJ cZ h0 h1 h2 h3 h4 h5 h6 h7 h8 h9 h10 h11 h12 h13 h14 h15 h16 h17 h18 h19 h20 h21 h22 h23 th no ca ba nl xa sa da la ra fa ta ua uh uo ma mh ml nf fo fh fs rs ic y33 y31 y32 ya np pa nc cp)) hP hD [0, 1, 2, 3, 4, 5, 6, 7, 8, 9, 10, 11, 12, 13, 14, 15, 16, 17, 18, 19, 20, 21, 22, 23] [] rfl rfl (by decide) (by decide) hk1 hFc hP1 hD1
                    generalize H1 = H at hP hS ⊢
                    have hP : va_P D vwCl (wMd cI cJ cZ h0 h1 h2 h3 h4 h5 h6 h7 h8 h9 h10 h11 h12 h13 h14 h15 h16 h17 h18 h19 h20 h21 h22 h23 th no ca ba nl xa sa da la ra fa ta ua uh uo ma mh ml nf fo fh fs rs ic y33 y31 y32 ya np pa nc cp) H := hP
                    have hD : va_D A (wMd cI cJ cZ h0 h1 h2 h3 h4 h5 h6 h7 h8 h9 h10 h11 h12 h13 h14 h15 h16 h17 h18 h19 h20 h21 h22 h23 th no ca ba nl xa sa da la ra fa ta ua uh uo ma mh ml nf fo fh fs rs ic y33 y31 y32 ya np pa nc cp) := hD
                    refine W.widen (k := 0) (n := 0) (Nat.le_of_ble_eq_true rfl) (Nat.le_of_ble_eq_true rfl) ?_
                    replace v := v y31 y32 y33 hw
                    refine nv_iinc (k := 2) (z := y_ + 1) (lv' := [(2, .int (iI (y_ + 1))), (0, .ref h0), (1, .int (iI o_))]) hx hb d_Md_countAll_79 hl rfl (by omega) (by decide) rfl (fun ls hl => ?_)
                    refine lv_goto (tgt := 25) hx hb d_Md_countAll_82 (by decide) ?_
                    exact ih12 (y_ + 1) y31 y32 y33 H locs ls (Nat.lt_of_lt_of_le v.2 (Nat.le_of_lt_succ hN13)) v.1 hP hD hS (lv_sub hl [1, 2, 0] rfl)
          exact L36 _ 0 gh go gn H locs ls (Nat.lt_succ_self _) v34 hP hD hS (lv_sub hl [1, 2, 0] rfl)
    exact L39 _ 0 bh bo 0 H locs ls (Nat.lt_succ_self _) v37 hP hD hS (lv_sub hl [1, 0] rfl)
  · replace v := v.2 c2
    have hP9 := hP.sub (ws' := (wMd cI cJ cZ h0 h1 h2 h3 h4 h5 h6 h7 h8 h9 h10 h11 h12 h13 h14 h15 h16 h17 h18 h19 h20 h21 h22 h23 th no ca ba nl xa sa da la ra fa ta ua uh uo ma mh ml nf fo fh fs rs ic mn bh bo ya np pa nc cp)) [0, 1, 2, 3, 4, 5, 6, 7, 8, 9, 10, 11, 12, 13, 14, 15, 16, 17, 18, 19, 20, 21, 22, 23] rfl
    have hD9 := hD.sub (ws' := (wMd cI cJ cZ h0 h1 h2 h3 h4 h5 h6 h7 h8 h9 h10 h11 h12 h13 h14 h15 h16 h17 h18 h19 h20 h21 h22 h23 th no ca ba nl xa sa da la ra fa ta ua uh uo ma mh ml nf fo fh fs rs ic mn bh bo ya np pa nc cp)) [0, 1, 2, 3, 4, 5, 6, 7, 8, 9, 10, 11, 12, 13, 14, 15, 16, 17, 18, 19, 20, 21, 22, 23] (by decide) rfl
    exact W.vret hx hb hr (fun t ht hW => ⟨⟨((bh), (bo), (mn), (ic)), rfl, v, by rw [ht]; exact hP9, va_K.moved hW.alike hK, hD9⟩, hS.F ht⟩) hS.2.2 d_Md_countAll_7

theorem d_Md_breaches_0 : decode prog_10_method_31_code 0 = .ok (.aload_n 0, 1) := by decide +kernel
theorem d_Md_breaches_1 : decode prog_10_method_31_code 1 = .ok (.iconst 0, 1) := by decide +kernel
theorem d_Md_breaches_2 : decode prog_10_method_31_code 2 = .ok (.putfield 82, 3) := by decide +kernel
theorem d_Md_breaches_5 : decode prog_10_method_31_code 5 = .ok (.aload_n 0, 1) := by decide +kernel
theorem d_Md_breaches_6 : decode prog_10_method_31_code 6 = .ok (.invokevirtual 164, 3) := by decide +kernel
theorem d_Md_breaches_9 : decode prog_10_method_31_code 9 = .ok (.aload_n 0, 1) := by decide +kernel
theorem d_Md_breaches_10 : decode prog_10_method_31_code 10 = .ok (.getfield 158, 3) := by decide +kernel
theorem d_Md_breaches_13 : decode prog_10_method_31_code 13 = .ok (.ireturn, 1) := by decide +kernel
def vc_Md_breaches (th : Int) (no : Int) (ca : Nat → Int) (ba : Nat → Int) (nl : Int) (xa : Nat → Int) (sa : Nat → Int) (da : Nat → Int) (la : Nat → Int) (ra : Nat → Int) (fa : Nat → Int) (ta : Nat → Int) (ua : Nat → Int) (uh : Nat → Int) (uo : Nat → Int) (ma : Nat → Int) (mh : Nat → Int) (ml : Nat → Int) (nf : Int) (fo : Nat → Int) (fh : Nat → Int) (fs : Nat → Int) (rs : Int) (ic : Int) (mn : Int) (bh : Nat → Int) (bo : Nat → Int) (ya : Nat → Int) (np : Int) (pa : Nat → Int) (nc : Int) (cp : Nat → Int) (post : Int → Int → (Nat → Int) → (Nat → Int) → Int → Int → Prop) : Prop := ∃ P1 : (Nat → Int) → (Nat → Int) → Int → Int → Prop, vc_Md_countAll 0 no ca ba nl xa sa da la ra fa ta ua uh uo ma mh ml nf fo fh fs rs ic mn bh bo ya np pa nc cp P1 ∧ ∀ (y3 : Nat → Int) (y4 : Nat → Int) (y5 : Int) (y6 : Int), P1 y3 y4 y5 y6 → post y5 0 y3 y4 y5 y6
set_option maxHeartbeats 4000000 in
set_option maxRecDepth 100000 in
theorem m_Md_breaches (l : Launch) (D : va_G) (cI cJ cO cZ : ClassId) (h0 h1 h2 h3 h4 h5 h6 h7 h8 h9 h10 h11 h12 h13 h14 h15 h16 h17 h18 h19 h20 h21 h22 h23 : Nat) (sz : Nat) (th : Int) (no : Int) (ca : Nat → Int) (ba : Nat → Int) (nl : Int) (xa : Nat → Int) (sa : Nat → Int) (da : Nat → Int) (la : Nat → Int) (ra : Nat → Int) (fa : Nat → Int) (ta : Nat → Int) (ua : Nat → Int) (uh : Nat → Int) (uo : Nat → Int) (ma : Nat → Int) (mh : Nat → Int) (ml : Nat → Int) (nf : Int) (fo : Nat → Int) (fh : Nat → Int) (fs : Nat → Int) (rs : Int) (ic : Int) (mn : Int) (bh : Nat → Int) (bo : Nat → Int) (ya : Nat → Int) (np : Int) (pa : Nat → Int) (nc : Int) (cp : Nat → Int) (post : Int → Int → (Nat → Int) → (Nat → Int) → Int → Int → Prop) (v : vc_Md_breaches th no ca ba nl xa sa da la ra fa ta ua uh uo ma mh ml nf fo fh fs rs ic mn bh bo ya np pa nc cp post) : Met l ⟨"LightDosesModel", "breaches", "()I"⟩ (.code ⟨"LightDosesModel", "breaches", "()I"⟩ prog_10_method_31_code 1 (some .int) :: TG) { frames := 3, cells := 0, slots := 0, locals := 75 } (va_Pc [.ref h0] (fun U => U.heap.size = sz ∧ va_P D vwCl (wMd cI cJ cZ h0 h1 h2 h3 h4 h5 h6 h7 h8 h9 h10 h11 h12 h13 h14 h15 h16 h17 h18 h19 h20 h21 h22 h23 th no ca ba nl xa sa da la ra fa ta ua uh uo ma mh ml nf fo fh fs rs ic mn bh bo ya np pa nc cp) U.heap ∧ va_K D vwCl (tyx cI cJ cO cZ) U ∧ va_D (fun _ => True) (wMd cI cJ cZ h0 h1 h2 h3 h4 h5 h6 h7 h8 h9 h10 h11 h12 h13 h14 h15 h16 h17 h18 h19 h20 h21 h22 h23 th no ca ba nl xa sa da la ra fa ta ua uh uo ma mh ml nf fo fh fs rs ic mn bh bo ya np pa nc cp))) (va_Qi (fun (r : Int32) (u : Int × (Nat → Int) × (Nat → Int) × Int × Int) => ∃ z : Int, r = iI z ∧ post z u.1 u.2.1 u.2.2.1 u.2.2.2.1 u.2.2.2.2) (fun u t => va_P D vwCl (wMd cI cJ cZ h0 h1 h2 h3 h4 h5 h6 h7 h8 h9 h10 h11 h12 h13 h14 h15 h16 h17 h18 h19 h20 h21 h22 h23 u.1 no ca ba nl xa sa da la ra fa ta ua uh uo ma mh ml nf fo fh fs rs u.2.2.2.2 u.2.2.2.1 u.2.1 u.2.2.1 ya np pa nc cp) t.heap ∧ va_K D vwCl (tyx cI cJ cO cZ) t ∧ va_D (va_A (wMd cI cJ cZ h0 h1 h2 h3 h4 h5 h6 h7 h8 h9 h10 h11 h12 h13 h14 h15 h16 h17 h18 h19 h20 h21 h22 h23 th no ca ba nl xa sa da la ra fa ta ua uh uo ma mh ml nf fo fh fs rs ic mn bh bo ya np pa nc cp) sz) (wMd cI cJ cZ h0 h1 h2 h3 h4 h5 h6 h7 h8 h9 h10 h11 h12 h13 h14 h15 h16 h17 h18 h19 h20 h21 h22 h23 u.1 no ca ba nl xa sa da la ra fa ta ua uh uo ma mh ml nf fo fh fs rs u.2.2.2.2 u.2.2.2.1 u.2.1 u.2.2.1 ya np pa nc cp)) (va_A (wMd cI cJ cZ h0 h1 h2 h3 h4 h5 h6 h7 h8 h9 h10 h11 h12 h13 h14 h15 h16 h17 h18 h19 h20 h21 h22 h23 th no ca ba nl xa sa da la ra fa ta ua uh uo ma mh ml nf fo fh fs rs ic mn bh bo ya np pa nc cp) sz)) 0 0 (va_A (wMd cI cJ cZ h0 h1 h2 h3 h4 h5 h6 h7 h8 h9 h10 h11 h12 h13 h14 h15 h16 h17 h18 h19 h20 h21 h22 h23 th no ca ba nl xa sa da la ra fa ta ua uh uo ma mh ml nf fo fh fs rs ic mn bh bo ya np pa nc cp) sz) := by
  refine Met.ofW (cc := prog_10_method_31_code) (maxL := 1) (ret := (some .int)) (by decide) rfl ?_
  intro p e s m args below meth c s₁ B hml hv
  obtain ⟨rfl, hsz, hP, hK, hD0⟩ := hv
  have hx := B.exec
  have hb := B.bytes
  have hr := B.returns
  have hts0 := atoms_spec (ws := (.code ⟨"LightDosesModel", "breaches", "()I"⟩ prog_10_method_31_code 1 (some .int) :: TG)) B.pre
  have hts : ∀ w ∈ TG, w.before _ s = true := fun w h => hts0 w (List.mem_cons_of_mem _ h)
  have hown : s.vm.findClass "LightDosesModel" = some m.cls := findClass_of_methodNamed B.named
  have hlocks := B.notSynchronized
  subst hsz
  have hD := hD0.self (sz := s.heap.size)
  generalize hAe : va_A (wMd cI cJ cZ h0 h1 h2 h3 h4 h5 h6 h7 h8 h9 h10 h11 h12 h13 h14 h15 h16 h17 h18 h19 h20 h21 h22 h23 th no ca ba nl xa sa da la ra fa ta ua uh uo ma mh ml nf fo fh fs rs ic mn bh bo ya np pa nc cp) s.heap.size = A at hD ⊢
  have hA : ∀ q : Nat, s.heap.size ≤ q → A q := fun q h => by rw [← hAe]; exact Or.inr h
  have hS : va_S A s.heap s.heap [] := va_S.rf
  have hP : va_P D vwCl (wMd cI cJ cZ h0 h1 h2 h3 h4 h5 h6 h7 h8 h9 h10 h11 h12 h13 h14 h15 h16 h17 h18 h19 h20 h21 h22 h23 th no ca ba nl xa sa da la ra fa ta ua uh uo ma mh ml nf fo fh fs rs ic mn bh bo ya np pa nc cp) s.heap := hP
  have hl := lv_entry ([Value.ref h0]) (n := 1) (Nat.le_of_ble_eq_true rfl)
  rw [lg_entry_eq]
  generalize (lg_sl ([Value.ref h0]) ++ List.replicate (1 - (lg_sl ([Value.ref h0])).length) Slot.unset).toArray = ls at hl ⊢
  have hl : lv_has ls 1 [(0, .ref h0)] := hl
  unfold vc_Md_breaches at v
  obtain ⟨H, hH⟩ : ∃ H, H = s.heap := ⟨_, rfl⟩
  obtain ⟨locs, hlc⟩ : ∃ L : List Loc, L = [] := ⟨_, rfl⟩
  rw [← hlc] at hS ⊢
  have hP : va_P D vwCl (wMd cI cJ cZ h0 h1 h2 h3 h4 h5 h6 h7 h8 h9 h10 h11 h12 h13 h14 h15 h16 h17 h18 h19 h20 h21 h22 h23 th no ca ba nl xa sa da la ra fa ta ua uh uo ma mh ml nf fo fh fs rs ic mn bh bo ya np pa nc cp) H := by rw [hH]; exact hP
  have hS : va_S A s.heap H locs := by rw [hH]; exact hS
  have hW0 : ∀ {X : Heap → Prop}, X H → X s.heap := fun h => by rw [← hH]; exact h
  refine hW0 (X := fun Z => W p l e _ s m _ below meth c Z locs 0 0 _ _) ?_
  refine lv_aload_n hx hb d_Md_breaches_0 rfl (lv_at hl 0 rfl) ?_
  refine nv_iconst (n := 0) hx hb d_Md_breaches_1 ?_
  refine va_put (D := D) (ci := 8) (v := .int (iI 0)) (ty := .int) (C := "LightDosesModel") (T := T_Md) (N := 32) hx hb hts in_Md t_Md tok_Md n_Md hown hK hP hD hS 0 rfl rfl 0 (by decide) (hts _ wd_703) (fun _ h9 => h9) rfl (by decide +kernel) rfl rfl (Nat.le_of_ble_eq_true rfl) d_Md_breaches_2 (fun H locs hP hD hS => ?_)
  have hP : va_P D vwCl (wMd cI cJ cZ h0 h1 h2 h3 h4 h5 h6 h7 h8 h9 h10 h11 h12 h13 h14 h15 h16 h17 h18 h19 h20 h21 h22 h23 0 no ca ba nl xa sa da la ra fa ta ua uh uo ma mh ml nf fo fh fs rs ic mn bh bo ya np pa nc cp) H := hP
  have hD : va_D A (wMd cI cJ cZ h0 h1 h2 h3 h4 h5 h6 h7 h8 h9 h10 h11 h12 h13 h14 h15 h16 h17 h18 h19 h20 h21 h22 h23 0 no ca ba nl xa sa da la ra fa ta ua uh uo ma mh ml nf fo fh fs rs ic mn bh bo ya np pa nc cp) := hD
  refine lv_aload_n hx hb d_Md_breaches_5 rfl (lv_at hl 0 rfl) ?_
  obtain ⟨P1, q2, v⟩ := v
  have hPc := hP.sub (ws' := (wMd cI cJ cZ h0 h1 h2 h3 h4 h5 h6 h7 h8 h9 h10 h11 h12 h13 h14 h15 h16 h17 h18 h19 h20 h21 h22 h23 0 no ca ba nl xa sa da la ra fa ta ua uh uo ma mh ml nf fo fh fs rs ic mn bh bo ya np pa nc cp)) [0, 1, 2, 3, 4, 5, 6, 7, 8, 9, 10, 11, 12, 13, 14, 15, 16, 17, 18, 19, 20, 21, 22, 23] rfl
  have hDc := hD.sub (ws' := (wMd cI cJ cZ h0 h1 h2 h3 h4 h5 h6 h7 h8 h9 h10 h11 h12 h13 h14 h15 h16 h17 h18 h19 h20 h21 h22 h23 0 no ca ba nl xa sa da la ra fa ta ua uh uo ma mh ml nf fo fh fs rs ic mn bh bo ya np pa nc cp)) [0, 1, 2, 3, 4, 5, 6, 7, 8, 9, 10, 11, 12, 13, 14, 15, 16, 17, 18, 19, 20, 21, 22, 23] (by decide) rfl
  have hFc := va_free (wc := (wMd cI cJ cZ h0 h1 h2 h3 h4 h5 h6 h7 h8 h9 h10 h11 h12 h13 h14 h15 h16 h17 h18 h19 h20 h21 h22 h23 0 no ca ba nl xa sa da la ra fa ta ua uh uo ma mh ml nf fo fh fs rs ic mn bh bo ya np pa nc cp)) hD hS hA [0, 1, 2, 3, 4, 5, 6, 7, 8, 9, 10, 11, 12, 13, 14, 15, 16, 17, 18, 19, 20, 21, 22, 23] rfl
  refine va_callv (va_runV (As := []) (rest := []) ⟨hx, hb, hml, hown, hts⟩ (m_Md_countAll l D cI cJ cO cZ h0 h1 h2 h3 h4 h5 h6 h7 h8 h9 h10 h11 h12 h13 h14 h15 h16 h17 h18 h19 h20 h21 h22 h23 H.size 0 no ca ba nl xa sa da la ra fa ta ua uh uo ma mh ml nf fo fh fs rs ic mn bh bo ya np pa nc cp P1 q2) (nv_cwV (n := 0) hts wd_911 wd_913 sl_26 wd_10 wd_914 (by decide +kernel) ⟨Nat.le_of_ble_eq_true rfl, Nat.le_of_ble_eq_true rfl⟩) ⟨blW, va_recv hK hPc (ci := 8) (q0 := 0) rfl rfl, fun U hU hW => ⟨rfl, by rw [hU], by rw [hU]; exact hPc, va_K.moved hW.alike hK, hDc.weaken (fun _ _ _ _ => trivial)⟩⟩ rfl rfl hl.1 rfl (lv_room (Nat.le_of_ble_eq_true rfl)) d_Md_breaches_6 ⟨Nat.le_of_ble_eq_true rfl, Nat.le_of_ble_eq_true rfl⟩) hS (fun q _ h => hFc q h) hFc (fun u t H1 locs ht hvm hw hB hz1 hk1 hS => ?_)
  obtain ⟨y3, y4, y5, y6⟩ := u
  obtain ⟨hP1, hK1, hD1⟩ := hB
  rw [ht] at hP1
  obtain ⟨hP, hD⟩ := va_join (wr := []) (w1 := (wMd cI cJ cZ h0 h1 h2 h3 h4 h5 h6 h7 h8 h9 h10 h11 h12 h13 h14 h15 h16 h17 h18 h19 h20 h21 h22 h23 0 no ca ba nl xa sa da la ra fa ta ua uh uo ma mh ml nf fo fh fs rs y6 y5 y3 y4 ya np pa nc cp)) hP hD [0, 1, 2, 3, 4, 5, 6, 7, 8, 9, 10, 11, 12, 13, 14, 15, 16, 17, 18, 19, 20, 21, 22, 23] [] rfl rfl (by decide) (by decide) hk1 hFc hP1 hD1
  generalize H1 = H at hP hS ⊢
  have hP : va_P D vwCl (wMd cI cJ cZ h0 h1 h2 h3 h4 h5 h6 h7 h8 h9 h10 h11 h12 h13 h14 h15 h16 h17 h18 h19 h20 h21 h22 h23 0 no ca ba nl xa sa da la ra fa ta ua uh uo ma mh ml nf fo fh fs rs y6 y5 y3 y4 ya np pa nc cp) H := hP
  have hD : va_D A (wMd cI cJ cZ h0 h1 h2 h3 h4 h5 h6 h7 h8 h9 h10 h11 h12 h13 h14 h15 h16 h17 h18 h19 h20 h21 h22 h23 0 no ca ba nl xa sa da la ra fa ta ua uh uo ma mh ml nf fo fh fs rs y6 y5 y3 y4 ya np pa nc cp) := hD
  refine W.widen (k := 0) (n := 0) (Nat.le_of_ble_eq_true rfl) (Nat.le_of_ble_eq_true rfl) ?_
  replace v := v y3 y4 y5 y6 hw
  refine lv_aload_n hx hb d_Md_breaches_9 rfl (lv_at hl 0 rfl) ?_
  refine va_get (D := D) (ci := 8) (v := .int (iI y5)) (C := "LightDosesModel") (T := T_Md) (N := 32) hx hb hts in_Md hown hK hP 0 rfl rfl 24 (by decide) (hts _ wd_727) (fun _ h9 => h9) rfl d_Md_breaches_10 ?_
  have hP9 := hP.sub (ws' := (wMd cI cJ cZ h0 h1 h2 h3 h4 h5 h6 h7 h8 h9 h10 h11 h12 h13 h14 h15 h16 h17 h18 h19 h20 h21 h22 h23 0 no ca ba nl xa sa da la ra fa ta ua uh uo ma mh ml nf fo fh fs rs y6 y5 y3 y4 ya np pa nc cp)) [0, 1, 2, 3, 4, 5, 6, 7, 8, 9, 10, 11, 12, 13, 14, 15, 16, 17, 18, 19, 20, 21, 22, 23] rfl
  have hD9 := hD.sub (ws' := (wMd cI cJ cZ h0 h1 h2 h3 h4 h5 h6 h7 h8 h9 h10 h11 h12 h13 h14 h15 h16 h17 h18 h19 h20 h21 h22 h23 0 no ca ba nl xa sa da la ra fa ta ua uh uo ma mh ml nf fo fh fs rs y6 y5 y3 y4 ya np pa nc cp)) [0, 1, 2, 3, 4, 5, 6, 7, 8, 9, 10, 11, 12, 13, 14, 15, 16, 17, 18, 19, 20, 21, 22, 23] (by decide) rfl
  exact W.iret hx hb hr (fun t ht hW => ⟨⟨_, ((0), (y3), (y4), (y5), (y6)), rfl, ⟨_, rfl, v⟩, by rw [ht]; exact hP9, va_K.moved hW.alike hK, hD9⟩, hS.F ht⟩) hS.2.2 d_Md_breaches_13

theorem d_Md_breach_0 : decode prog_10_method_32_code 0 = .ok (.aload_n 0, 1) := by decide +kernel
theorem d_Md_breach_1 : decode prog_10_method_32_code 1 = .ok (.invokevirtual 164, 3) := by decide +kernel
theorem d_Md_breach_4 : decode prog_10_method_32_code 4 = .ok (.aload_n 0, 1) := by decide +kernel
theorem d_Md_breach_5 : decode prog_10_method_32_code 5 = .ok (.iload_n 1, 1) := by decide +kernel
theorem d_Md_breach_6 : decode prog_10_method_32_code 6 = .ok (.ifCond .lt 24, 3) := by decide +kernel
theorem d_Md_breach_9 : decode prog_10_method_32_code 9 = .ok (.iload_n 1, 1) := by decide +kernel
theorem d_Md_breach_10 : decode prog_10_method_32_code 10 = .ok (.aload_n 0, 1) := by decide +kernel
theorem d_Md_breach_11 : decode prog_10_method_32_code 11 = .ok (.getfield 158, 3) := by decide +kernel
theorem d_Md_breach_14 : decode prog_10_method_32_code 14 = .ok (.if_icmp .ge 16, 3) := by decide +kernel
theorem d_Md_breach_17 : decode prog_10_method_32_code 17 = .ok (.iload_n 2, 1) := by decide +kernel
theorem d_Md_breach_18 : decode prog_10_method_32_code 18 = .ok (.iconst 0, 1) := by decide +kernel
theorem d_Md_breach_19 : decode prog_10_method_32_code 19 = .ok (.iconst 1, 1) := by decide +kernel
theorem d_Md_breach_20 : decode prog_10_method_32_code 20 = .ok (.invokestatic 92, 3) := by decide +kernel
theorem d_Md_breach_23 : decode prog_10_method_32_code 23 = .ok (.ifCond .eq 7, 3) := by decide +kernel
theorem d_Md_breach_26 : decode prog_10_method_32_code 26 = .ok (.iconst 1, 1) := by decide +kernel
theorem d_Md_breach_27 : decode prog_10_method_32_code 27 = .ok (.goto 4, 3) := by decide +kernel
theorem d_Md_breach_30 : decode prog_10_method_32_code 30 = .ok (.iconst 0, 1) := by decide +kernel
theorem d_Md_breach_31 : decode prog_10_method_32_code 31 = .ok (.iconst 1, 1) := by decide +kernel
theorem d_Md_breach_32 : decode prog_10_method_32_code 32 = .ok (.iconst 1, 1) := by decide +kernel
theorem d_Md_breach_33 : decode prog_10_method_32_code 33 = .ok (.invokevirtual 96, 3) := by decide +kernel
theorem d_Md_breach_36 : decode prog_10_method_32_code 36 = .ok (.ifCond .ne 5, 3) := by decide +kernel
theorem d_Md_breach_39 : decode prog_10_method_32_code 39 = .ok (.iconst 0, 1) := by decide +kernel
theorem d_Md_breach_40 : decode prog_10_method_32_code 40 = .ok (.ireturn, 1) := by decide +kernel
theorem d_Md_breach_41 : decode prog_10_method_32_code 41 = .ok (.iload_n 2, 1) := by decide +kernel
theorem d_Md_breach_42 : decode prog_10_method_32_code 42 = .ok (.ifCond .ne 12, 3) := by decide +kernel
theorem d_Md_breach_45 : decode prog_10_method_32_code 45 = .ok (.aload_n 0, 1) := by decide +kernel
theorem d_Md_breach_46 : decode prog_10_method_32_code 46 = .ok (.getfield 66, 3) := by decide +kernel
theorem d_Md_breach_49 : decode prog_10_method_32_code 49 = .ok (.iload_n 1, 1) := by decide +kernel
theorem d_Md_breach_50 : decode prog_10_method_32_code 50 = .ok (.iaload, 1) := by decide +kernel
theorem d_Md_breach_51 : decode prog_10_method_32_code 51 = .ok (.goto 9, 3) := by decide +kernel
theorem d_Md_breach_54 : decode prog_10_method_32_code 54 = .ok (.aload_n 0, 1) := by decide +kernel
theorem d_Md_breach_55 : decode prog_10_method_32_code 55 = .ok (.getfield 69, 3) := by decide +kernel
theorem d_Md_breach_58 : decode prog_10_method_32_code 58 = .ok (.iload_n 1, 1) := by decide +kernel
theorem d_Md_breach_59 : decode prog_10_method_32_code 59 = .ok (.iaload, 1) := by decide +kernel
theorem d_Md_breach_60 : decode prog_10_method_32_code 60 = .ok (.ireturn, 1) := by decide +kernel
def vc_Md_breach (th : Int) (no : Int) (ca : Nat → Int) (ba : Nat → Int) (nl : Int) (xa : Nat → Int) (sa : Nat → Int) (da : Nat → Int) (la : Nat → Int) (ra : Nat → Int) (fa : Nat → Int) (ta : Nat → Int) (ua : Nat → Int) (uh : Nat → Int) (uo : Nat → Int) (ma : Nat → Int) (mh : Nat → Int) (ml : Nat → Int) (nf : Int) (fo : Nat → Int) (fh : Nat → Int) (fs : Nat → Int) (rs : Int) (ic : Int) (mn : Int) (bh : Nat → Int) (bo : Nat → Int) (ya : Nat → Int) (np : Int) (pa : Nat → Int) (nc : Int) (cp : Nat → Int) (k_ : Int) (w_ : Int) (post : Int → Int → (Nat → Int) → (Nat → Int) → Int → Int → Prop) : Prop := ∃ P1 : (Nat → Int) → (Nat → Int) → Int → Int → Prop, vc_Md_countAll th no ca ba nl xa sa da la ra fa ta ua uh uo ma mh ml nf fo fh fs rs ic mn bh bo ya np pa nc cp P1 ∧ ∀ (y3 : Nat → Int) (y4 : Nat → Int) (y5 : Int) (y6 : Int), P1 y3 y4 y5 y6 → (r32 k_) ∧ ((k_ < 0 → post 0 1 y3 y4 y5 y6) ∧ (0 ≤ k_ → (r32 y5) ∧ ((y5 ≤ k_ → post 0 1 y3 y4 y5 y6) ∧ (k_ < y5 → (r32 w_) ∧ (((0 ≤ w_ ∧ w_ ≤ 1) → (¬ w_ = 0 → (0 ≤ k_ ∧ k_ < 36) ∧ (post (y4 (k_).toNat) 0 y3 y4 y5 y6)) ∧ (w_ = 0 → (0 ≤ k_ ∧ k_ < 36) ∧ (post (y3 (k_).toNat) 0 y3 y4 y5 y6))) ∧ (¬ (0 ≤ w_ ∧ w_ ≤ 1) → post 0 1 y3 y4 y5 y6))))))
set_option maxHeartbeats 4000000 in
set_option maxRecDepth 100000 in
theorem m_Md_breach (l : Launch) (D : va_G) (cI cJ cO cZ : ClassId) (h0 h1 h2 h3 h4 h5 h6 h7 h8 h9 h10 h11 h12 h13 h14 h15 h16 h17 h18 h19 h20 h21 h22 h23 : Nat) (sz : Nat) (th : Int) (no : Int) (ca : Nat → Int) (ba : Nat → Int) (nl : Int) (xa : Nat → Int) (sa : Nat → Int) (da : Nat → Int) (la : Nat → Int) (ra : Nat → Int) (fa : Nat → Int) (ta : Nat → Int) (ua : Nat → Int) (uh : Nat → Int) (uo : Nat → Int) (ma : Nat → Int) (mh : Nat → Int) (ml : Nat → Int) (nf : Int) (fo : Nat → Int) (fh : Nat → Int) (fs : Nat → Int) (rs : Int) (ic : Int) (mn : Int) (bh : Nat → Int) (bo : Nat → Int) (ya : Nat → Int) (np : Int) (pa : Nat → Int) (nc : Int) (cp : Nat → Int) (k_ : Int) (w_ : Int) (post : Int → Int → (Nat → Int) → (Nat → Int) → Int → Int → Prop) (v : vc_Md_breach th no ca ba nl xa sa da la ra fa ta ua uh uo ma mh ml nf fo fh fs rs ic mn bh bo ya np pa nc cp k_ w_ post) : Met l ⟨"LightDosesModel", "breach", "(II)I"⟩ (.code ⟨"LightDosesModel", "breach", "(II)I"⟩ prog_10_method_32_code 3 (some .int) :: TG) { frames := 3, cells := 0, slots := 0, locals := 75 } (va_Pc [.ref h0, .int (iI k_), .int (iI w_)] (fun U => U.heap.size = sz ∧ va_P D vwCl (wMd cI cJ cZ h0 h1 h2 h3 h4 h5 h6 h7 h8 h9 h10 h11 h12 h13 h14 h15 h16 h17 h18 h19 h20 h21 h22 h23 th no ca ba nl xa sa da la ra fa ta ua uh uo ma mh ml nf fo fh fs rs ic mn bh bo ya np pa nc cp) U.heap ∧ va_K D vwCl (tyx cI cJ cO cZ) U ∧ va_D (fun _ => True) (wMd cI cJ cZ h0 h1 h2 h3 h4 h5 h6 h7 h8 h9 h10 h11 h12 h13 h14 h15 h16 h17 h18 h19 h20 h21 h22 h23 th no ca ba nl xa sa da la ra fa ta ua uh uo ma mh ml nf fo fh fs rs ic mn bh bo ya np pa nc cp))) (va_Qi (fun (r : Int32) (u : Int × (Nat → Int) × (Nat → Int) × Int × Int) => ∃ z : Int, r = iI z ∧ post z u.1 u.2.1 u.2.2.1 u.2.2.2.1 u.2.2.2.2) (fun u t => va_P D vwCl (wMd cI cJ cZ h0 h1 h2 h3 h4 h5 h6 h7 h8 h9 h10 h11 h12 h13 h14 h15 h16 h17 h18 h19 h20 h21 h22 h23 u.1 no ca ba nl xa sa da la ra fa ta ua uh uo ma mh ml nf fo fh fs rs u.2.2.2.2 u.2.2.2.1 u.2.1 u.2.2.1 ya np pa nc cp) t.heap ∧ va_K D vwCl (tyx cI cJ cO cZ) t ∧ va_D (va_A (wMd cI cJ cZ h0 h1 h2 h3 h4 h5 h6 h7 h8 h9 h10 h11 h12 h13 h14 h15 h16 h17 h18 h19 h20 h21 h22 h23 th no ca ba nl xa sa da la ra fa ta ua uh uo ma mh ml nf fo fh fs rs ic mn bh bo ya np pa nc cp) sz) (wMd cI cJ cZ h0 h1 h2 h3 h4 h5 h6 h7 h8 h9 h10 h11 h12 h13 h14 h15 h16 h17 h18 h19 h20 h21 h22 h23 u.1 no ca ba nl xa sa da la ra fa ta ua uh uo ma mh ml nf fo fh fs rs u.2.2.2.2 u.2.2.2.1 u.2.1 u.2.2.1 ya np pa nc cp)) (va_A (wMd cI cJ cZ h0 h1 h2 h3 h4 h5 h6 h7 h8 h9 h10 h11 h12 h13 h14 h15 h16 h17 h18 h19 h20 h21 h22 h23 th no ca ba nl xa sa da la ra fa ta ua uh uo ma mh ml nf fo fh fs rs ic mn bh bo ya np pa nc cp) sz)) 0 0 (va_A (wMd cI cJ cZ h0 h1 h2 h3 h4 h5 h6 h7 h8 h9 h10 h11 h12 h13 h14 h15 h16 h17 h18 h19 h20 h21 h22 h23 th no ca ba nl xa sa da la ra fa ta ua uh uo ma mh ml nf fo fh fs rs ic mn bh bo ya np pa nc cp) sz) := by
  refine Met.ofW (cc := prog_10_method_32_code) (maxL := 3) (ret := (some .int)) (by decide) rfl ?_
  intro p e s m args below meth c s₁ B hml hv
  obtain ⟨rfl, hsz, hP, hK, hD0⟩ := hv
  have hx := B.exec
  have hb := B.bytes
  have hr := B.returns
  have hts0 := atoms_spec (ws := (.code ⟨"LightDosesModel", "breach", "(II)I"⟩ prog_10_method_32_code 3 (some .int) :: TG)) B.pre
  have hts : ∀ w ∈ TG, w.before _ s = true := fun w h => hts0 w (List.mem_cons_of_mem _ h)
  have hown : s.vm.findClass "LightDosesModel" = some m.cls := findClass_of_methodNamed B.named
  have hlocks := B.notSynchronized
  subst hsz
  have hD := hD0.self (sz := s.heap.size)
  generalize hAe : va_A (wMd cI cJ cZ h0 h1 h2 h3 h4 h5 h6 h7 h8 h9 h10 h11 h12 h13 h14 h15 h16 h17 h18 h19 h20 h21 h22 h23 th no ca ba nl xa sa da la ra fa ta ua uh uo ma mh ml nf fo fh fs rs ic mn bh bo ya np pa nc cp) s.heap.size = A at hD ⊢
  have hA : ∀ q : Nat, s.heap.size ≤ q → A q := fun q h => by rw [← hAe]; exact Or.inr h
  have hS : va_S A s.heap s.heap [] := va_S.rf
  have hP : va_P D vwCl (wMd cI cJ cZ h0 h1 h2 h3 h4 h5 h6 h7 h8 h9 h10 h11 h12 h13 h14 h15 h16 h17 h18 h19 h20 h21 h22 h23 th no ca ba nl xa sa da la ra fa ta ua uh uo ma mh ml nf fo fh fs rs ic mn bh bo ya np pa nc cp) s.heap := hP
  have hl := lv_entry ([Value.ref h0, Value.int (iI k_), Value.int (iI w_)]) (n := 3) (Nat.le_of_ble_eq_true rfl)
  rw [lg_entry_eq]
  generalize (lg_sl ([Value.ref h0, Value.int (iI k_), Value.int (iI w_)]) ++ List.replicate (3 - (lg_sl ([Value.ref h0, Value.int (iI k_), Value.int (iI w_)])).length) Slot.unset).toArray = ls at hl ⊢
  have hl : lv_has ls 3 [(0, .ref h0), (1, .int (iI k_)), (2, .int (iI w_))] := hl
  unfold vc_Md_breach at v
  obtain ⟨H, hH⟩ : ∃ H, H = s.heap := ⟨_, rfl⟩
  obtain ⟨locs, hlc⟩ : ∃ L : List Loc, L = [] := ⟨_, rfl⟩
  rw [← hlc] at hS ⊢
  have hP : va_P D vwCl (wMd cI cJ cZ h0 h1 h2 h3 h4 h5 h6 h7 h8 h9 h10 h11 h12 h13 h14 h15 h16 h17 h18 h19 h20 h21 h22 h23 th no ca ba nl xa sa da la ra fa ta ua uh uo ma mh ml nf fo fh fs rs ic mn bh bo ya np pa nc cp) H := by rw [hH]; exact hP
  have hS : va_S A s.heap H locs := by rw [hH]; exact hS
  have hW0 : ∀ {X : Heap → Prop}, X H → X s.heap := fun h => by rw [← hH]; exact h
  refine hW0 (X := fun Z => W p l e _ s m _ below meth c Z locs 0 0 _ _) ?_
  refine lv_aload_n hx hb d_Md_breach_0 rfl (lv_at hl 0 rfl) ?_
  obtain ⟨P1, q2, v⟩ := v
  have hPc := hP.sub (ws' := (wMd cI cJ cZ h0 h1 h2 h3 h4 h5 h6 h7 h8 h9 h10 h11 h12 h13 h14 h15 h16 h17 h18 h19 h20 h21 h22 h23 th no ca ba nl xa sa da la ra fa ta ua uh uo ma mh ml nf fo fh fs rs ic mn bh bo ya np pa nc cp)) [0, 1, 2, 3, 4, 5, 6, 7, 8, 9, 10, 11, 12, 13, 14, 15, 16, 17, 18, 19, 20, 21, 22, 23] rfl
  have hDc := hD.sub (ws' := (wMd cI cJ cZ h0 h1 h2 h3 h4 h5 h6 h7 h8 h9 h10 h11 h12 h13 h14 h15 h16 h17 h18 h19 h20 h21 h22 h23 th no ca ba nl xa sa da la ra fa ta ua uh uo ma mh ml nf fo fh fs rs ic mn bh bo ya np pa nc cp)) [0, 1, 2, 3, 4, 5, 6, 7, 8, 9, 10, 11, 12, 13, 14, 15, 16, 17, 18, 19, 20, 21, 22, 23] (by decide) rfl
  have hFc := va_free (wc := (wMd cI cJ cZ h0 h1 h2 h3 h4 h5 h6 h7 h8 h9 h10 h11 h12 h13 h14 h15 h16 h17 h18 h19 h20 h21 h22 h23 th no ca ba nl xa sa da la ra fa ta ua uh uo ma mh ml nf fo fh fs rs ic mn bh bo ya np pa nc cp)) hD hS hA [0, 1, 2, 3, 4, 5, 6, 7, 8, 9, 10, 11, 12, 13, 14, 15, 16, 17, 18, 19, 20, 21, 22, 23] rfl
  refine va_callv (va_runV (As := []) (rest := []) ⟨hx, hb, hml, hown, hts⟩ (m_Md_countAll l D cI cJ cO cZ h0 h1 h2 h3 h4 h5 h6 h7 h8 h9 h10 h11 h12 h13 h14 h15 h16 h17 h18 h19 h20 h21 h22 h23 H.size th no ca ba nl xa sa da la ra fa ta ua uh uo ma mh ml nf fo fh fs rs ic mn bh bo ya np pa nc cp P1 q2) (nv_cwV (n := 0) hts wd_911 wd_913 sl_26 wd_10 wd_914 (by decide +kernel) ⟨Nat.le_of_ble_eq_true rfl, Nat.le_of_ble_eq_true rfl⟩) ⟨blW, va_recv hK hPc (ci := 8) (q0 := 0) rfl rfl, fun U hU hW => ⟨rfl, by rw [hU], by rw [hU]; exact hPc, va_K.moved hW.alike hK, hDc.weaken (fun _ _ _ _ => trivial)⟩⟩ rfl rfl hl.1 rfl (lv_room (Nat.le_of_ble_eq_true rfl)) d_Md_breach_1 ⟨Nat.le_of_ble_eq_true rfl, Nat.le_of_ble_eq_true rfl⟩) hS (fun q _ h => hFc q h) hFc (fun u t H1 locs ht hvm hw hB hz1 hk1 hS => ?_)
  obtain ⟨y3, y4, y5, y6⟩ := u
  obtain ⟨hP1, hK1, hD1⟩ := hB
  rw [ht] at hP1
  obtain ⟨hP, hD⟩ := va_join (wr := []) (w1 := (wMd cI cJ cZ h0 h1 h2 h3 h4 h5 h6 h7 h8 h9 h10 h11 h12 h13 h14 h15 h16 h17 h18 h19 h20 h21 h22 h23 th no ca ba nl xa sa da la ra fa ta ua uh uo ma mh ml nf fo fh fs rs y6 y5 y3 y4 ya np pa nc cp)) hP hD [0, 1, 2, 3, 4, 5, 6, 7, 8, 9, 10, 11, 12, 13, 14, 15, 16, 17, 18, 19, 20, 21, 22, 23] [] rfl rfl (by decide) (by decide) hk1 hFc hP1 hD1
  generalize H1 = H at hP hS ⊢
  have hP : va_P D vwCl (wMd cI cJ cZ h0 h1 h2 h3 h4 h5 h6 h7 h8 h9 h10 h11 h12 h13 h14 h15 h16 h17 h18 h19 h20 h21 h22 h23 th no ca ba nl xa sa da la ra fa ta ua uh uo ma mh ml nf fo fh fs rs y6 y5 y3 y4 ya np pa nc cp) H := hP
  have hD : va_D A (wMd cI cJ cZ h0 h1 h2 h3 h4 h5 h6 h7 h8 h9 h10 h11 h12 h13 h14 h15 h16 h17 h18 h19 h20 h21 h22 h23 th no ca ba nl xa sa da la ra fa ta ua uh uo ma mh ml nf fo fh fs rs y6 y5 y3 y4 ya np pa nc cp) := hD
  refine W.widen (k := 0) (n := 0) (Nat.le_of_ble_eq_true rfl) (Nat.le_of_ble_eq_true rfl) ?_
  replace v := v y3 y4 y5 y6 hw
  refine lv_aload_n hx hb d_Md_breach_4 rfl (lv_at hl 0 rfl) ?_
  refine lv_iload_n hx hb d_Md_breach_5 rfl (lv_at hl 1 rfl) ?_
  obtain ⟨k7, v⟩ := v
  refine nv_if_lt (tgt := 30) hx hb d_Md_breach_6 (by decide) k7 (fun c8 => ?_) (fun c8 => ?_)
  · replace v := v.1 c8
    refine nv_iconst (n := 0) hx hb d_Md_breach_30 ?_
    refine nv_iconst (n := 1) hx hb d_Md_breach_31 ?_
    refine nv_iconst (n := 1) hx hb d_Md_breach_32 ?_
    have hPc := hP.sub (ws' := (wMd cI cJ cZ h0 h1 h2 h3 h4 h5 h6 h7 h8 h9 h10 h11 h12 h13 h14 h15 h16 h17 h18 h19 h20 h21 h22 h23 th no ca ba nl xa sa da la ra fa ta ua uh uo ma mh ml nf fo fh fs rs y6 y5 y3 y4 ya np pa nc cp)) [0, 1, 2, 3, 4, 5, 6, 7, 8, 9, 10, 11, 12, 13, 14, 15, 16, 17, 18, 19, 20, 21, 22, 23] rfl
    have hDc := hD.sub (ws' := (wMd cI cJ cZ h0 h1 h2 h3 h4 h5 h6 h7 h8 h9 h10 h11 h12 h13 h14 h15 h16 h17 h18 h19 h20 h21 h22 h23 th no ca ba nl xa sa da la ra fa ta ua uh uo ma mh ml nf fo fh fs rs y6 y5 y3 y4 ya np pa nc cp)) [0, 1, 2, 3, 4, 5, 6, 7, 8, 9, 10, 11, 12, 13, 14, 15, 16, 17, 18, 19, 20, 21, 22, 23] (by decide) rfl
    have hFc := va_free (wc := (wMd cI cJ cZ h0 h1 h2 h3 h4 h5 h6 h7 h8 h9 h10 h11 h12 h13 h14 h15 h16 h17 h18 h19 h20 h21 h22 h23 th no ca ba nl xa sa da la ra fa ta ua uh uo ma mh ml nf fo fh fs rs y6 y5 y3 y4 ya np pa nc cp)) hD hS hA [0, 1, 2, 3, 4, 5, 6, 7, 8, 9, 10, 11, 12, 13, 14, 15, 16, 17, 18, 19, 20, 21, 22, 23] rfl
    refine va_calli (va_runV (As := [.int (iI 0), .int (iI 1), .int (iI 1)]) (rest := []) ⟨hx, hb, hml, hown, hts⟩ (m_Md_goes l D cI cJ cO cZ h0 h1 h2 h3 h4 h5 h6 h7 h8 h9 h10 h11 h12 h13 h14 h15 h16 h17 h18 h19 h20 h21 h22 h23 H.size th no ca ba nl xa sa da la ra fa ta ua uh uo ma mh ml nf fo fh fs rs y6 y5 y3 y4 ya np pa nc cp 0 1 1 (fun z t => z = 0 ∧ t = 1) (s_Md_goes_011 th no ca ba nl xa sa da la ra fa ta ua uh uo ma mh ml nf fo fh fs rs y6 y5 y3 y4 ya np pa nc cp)) (nv_cwV (n := 3) hts wd_812 wd_814 sl_17 wd_10 wd_815 (by decide +kernel) ⟨Nat.le_of_ble_eq_true rfl, Nat.le_of_ble_eq_true rfl⟩) ⟨blW, va_recv hK hPc (ci := 8) (q0 := 0) rfl rfl, fun U hU hW => ⟨rfl, by rw [hU], by rw [hU]; exact hPc, va_K.moved hW.alike hK, hDc.weaken (fun _ _ _ _ => trivial)⟩⟩ rfl rfl hl.1 rfl (lv_room (Nat.le_of_ble_eq_true rfl)) d_Md_breach_33 ⟨Nat.le_of_ble_eq_true rfl, Nat.le_of_ble_eq_true rfl⟩) hS (fun q _ h => hFc q h) hFc (fun r u t H1 locs ht hvm hw hB hz1 hk1 hS => ?_)
    obtain ⟨hP1, hK1, hD1⟩ := hB
    rw [ht] at hP1
    obtain ⟨_, rfl, rfl, rfl⟩ := hw
    obtain ⟨hP, hD⟩ := va_join (wr := []) (w1 := (wMd cI cJ cZ h0 h1 h2 h3 h4 h5 h6 h7 h8 h9 h10 h11 h12 h13 h14 h15 h16 h17 h18 h19 h20 h21 h22 h23 1 no ca ba nl xa sa da la ra fa ta ua uh uo ma mh ml nf fo fh fs rs y6 y5 y3 y4 ya np pa nc cp)) hP hD [0, 1, 2, 3, 4, 5, 6, 7, 8, 9, 10, 11, 12, 13, 14, 15, 16, 17, 18, 19, 20, 21, 22, 23] [] rfl rfl (by decide) (by decide) hk1 hFc hP1 hD1
    generalize H1 = H at hP hS ⊢
    have hP : va_P D vwCl (wMd cI cJ cZ h0 h1 h2 h3 h4 h5 h6 h7 h8 h9 h10 h11 h12 h13 h14 h15 h16 h17 h18 h19 h20 h21 h22 h23 1 no ca ba nl xa sa da la ra fa ta ua uh uo ma mh ml nf fo fh fs rs y6 y5 y3 y4 ya np pa nc cp) H := hP
    have hD : va_D A (wMd cI cJ cZ h0 h1 h2 h3 h4 h5 h6 h7 h8 h9 h10 h11 h12 h13 h14 h15 h16 h17 h18 h19 h20 h21 h22 h23 1 no ca ba nl xa sa da la ra fa ta ua uh uo ma mh ml nf fo fh fs rs y6 y5 y3 y4 ya np pa nc cp) := hD
    refine W.widen (k := 0) (n := 0) (Nat.le_of_ble_eq_true rfl) (Nat.le_of_ble_eq_true rfl) ?_
    refine nv_if_ne (tgt := 41) hx hb d_Md_breach_36 (by decide) (by decide) (fun c9 => absurd c9 (by decide)) (fun _ => ?_)
    refine nv_iconst (n := 0) hx hb d_Md_breach_39 ?_
    have hP9 := hP.sub (ws' := (wMd cI cJ cZ h0 h1 h2 h3 h4 h5 h6 h7 h8 h9 h10 h11 h12 h13 h14 h15 h16 h17 h18 h19 h20 h21 h22 h23 1 no ca ba nl xa sa da la ra fa ta ua uh uo ma mh ml nf fo fh fs rs y6 y5 y3 y4 ya np pa nc cp)) [0, 1, 2, 3, 4, 5, 6, 7, 8, 9, 10, 11, 12, 13, 14, 15, 16, 17, 18, 19, 20, 21, 22, 23] rfl
    have hD9 := hD.sub (ws' := (wMd cI cJ cZ h0 h1 h2 h3 h4 h5 h6 h7 h8 h9 h10 h11 h12 h13 h14 h15 h16 h17 h18 h19 h20 h21 h22 h23 1 no ca ba nl xa sa da la ra fa ta ua uh uo ma mh ml nf fo fh fs rs y6 y5 y3 y4 ya np pa nc cp)) [0, 1, 2, 3, 4, 5, 6, 7, 8, 9, 10, 11, 12, 13, 14, 15, 16, 17, 18, 19, 20, 21, 22, 23] (by decide) rfl
    exact W.iret hx hb hr (fun t ht hW => ⟨⟨_, ((1), (y3), (y4), (y5), (y6)), rfl, ⟨_, rfl, v⟩, by rw [ht]; exact hP9, va_K.moved hW.alike hK, hD9⟩, hS.F ht⟩) hS.2.2 d_Md_breach_40
  · replace v := v.2 c8
    refine lv_iload_n hx hb d_Md_breach_9 rfl (lv_at hl 1 rfl) ?_
    refine lv_aload_n hx hb d_Md_breach_10 rfl (lv_at hl 0 rfl) ?_
    refine va_get (D := D) (ci := 8) (v := .int (iI y5)) (C := "LightDosesModel") (T := T_Md) (N := 32) hx hb hts in_Md hown hK hP 0 rfl rfl 24 (by decide) (hts _ wd_727) (fun _ h9 => h9) rfl d_Md_breach_11 ?_
    obtain ⟨k10, v⟩ := v
    refine nv_icmp_ge (tgt := 30) hx hb d_Md_breach_14 (by decide) k7 k10 (fun c11 => ?_) (fun c11 => ?_)
    · replace v := v.1 c11
      refine nv_iconst (n := 0) hx hb d_Md_breach_30 ?_
      refine nv_iconst (n := 1) hx hb d_Md_breach_31 ?_
      refine nv_iconst (n := 1) hx hb d_Md_breach_32 ?_
      have hPc := hP.sub (ws' := (wMd cI cJ cZ h0 h1 h2 h3 h4 h5 h6 h7 h8 h9 h10 h11 h12 h13 h14 h15 h16 h17 h18 h19 h20 h21 h22 h23 th no ca ba nl xa sa da la ra fa ta ua uh uo ma mh ml nf fo fh fs rs y6 y5 y3 y4 ya np pa nc cp)) [0, 1, 2, 3, 4, 5, 6, 7, 8, 9, 10, 11, 12, 13, 14, 15, 16, 17, 18, 19, 20, 21, 22, 23] rfl
      have hDc := hD.sub (ws' := (wMd cI cJ cZ h0 h1 h2 h3 h4 h5 h6 h7 h8 h9 h10 h11 h12 h13 h14 h15 h16 h17 h18 h19 h20 h21 h22 h23 th no ca ba nl xa sa da la ra fa ta ua uh uo ma mh ml nf fo fh fs rs y6 y5 y3 y4 ya np pa nc cp)) [0, 1, 2, 3, 4, 5, 6, 7, 8, 9, 10, 11, 12, 13, 14, 15, 16, 17, 18, 19, 20, 21, 22, 23] (by decide) rfl
      have hFc := va_free (wc := (wMd cI cJ cZ h0 h1 h2 h3 h4 h5 h6 h7 h8 h9 h10 h11 h12 h13 h14 h15 h16 h17 h18 h19 h20 h21 h22 h23 th no ca ba nl xa sa da la ra fa ta ua uh uo ma mh ml nf fo fh fs rs y6 y5 y3 y4 ya np pa nc cp)) hD hS hA [0, 1, 2, 3, 4, 5, 6, 7, 8, 9, 10, 11, 12, 13, 14, 15, 16, 17, 18, 19, 20, 21, 22, 23] rfl
      refine va_calli (va_runV (As := [.int (iI 0), .int (iI 1), .int (iI 1)]) (rest := []) ⟨hx, hb, hml, hown, hts⟩ (m_Md_goes l D cI cJ cO cZ h0 h1 h2 h3 h4 h5 h6 h7 h8 h9 h10 h11 h12 h13 h14 h15 h16 h17 h18 h19 h20 h21 h22 h23 H.size th no ca ba nl xa sa da la ra fa ta ua uh uo ma mh ml nf fo fh fs rs y6 y5 y3 y4 ya np pa nc cp 0 1 1 (fun z t => z = 0 ∧ t = 1) (s_Md_goes_011 th no ca ba nl xa sa da la ra fa ta ua uh uo ma mh ml nf fo fh fs rs y6 y5 y3 y4 ya np pa nc cp)) (nv_cwV (n := 3) hts wd_812 wd_814 sl_17 wd_10 wd_815 (by decide +kernel) ⟨Nat.le_of_ble_eq_true rfl, Nat.le_of_ble_eq_true rfl⟩) ⟨blW, va_recv hK hPc (ci := 8) (q0 := 0) rfl rfl, fun U hU hW => ⟨rfl, by rw [hU], by rw [hU]; exact hPc, va_K.moved hW.alike hK, hDc.weaken (fun _ _ _ _ => trivial)⟩⟩ rfl rfl hl.1 rfl (lv_room (Nat.le_of_ble_eq_true rfl)) d_Md_breach_33 ⟨Nat.le_of_ble_eq_true rfl, Nat.le_of_ble_eq_true rfl⟩) hS (fun q _ h => hFc q h) hFc (fun r u t H1 locs ht hvm hw hB hz1 hk1 hS => ?_)
      obtain ⟨hP1, hK1, hD1⟩ := hB
      rw [ht] at hP1
      obtain ⟨_, rfl, rfl, rfl⟩ := hw
      obtain ⟨hP, hD⟩ := va_join (wr := []) (w1 := (wMd cI cJ cZ h0 h1 h2 h3 h4 h5 h6 h7 h8 h9 h10 h11 h12 h13 h14 h15 h16 h17 h18 h19 h20 h21 h22 h23 1 no ca ba nl xa sa da la ra fa ta ua uh uo ma mh ml nf fo fh fs rs y6 y5 y3 y4 ya np pa nc cp)) hP hD [0, 1, 2, 3, 4, 5, 6, 7, 8, 9, 10, 11, 12, 13, 14, 15, 16, 17, 18, 19, 20, 21, 22, 23] [] rfl rfl (by decide) (by decide) hk1 hFc hP1 hD1
      generalize H1 = H at hP hS ⊢
      have hP : va_P D vwCl (wMd cI cJ cZ h0 h1 h2 h3 h4 h5 h6 h7 h8 h9 h10 h11 h12 h13 h14 h15 h16 h17 h18 h19 h20 h21 h22 h23 1 no ca ba nl xa sa da la ra fa ta ua uh uo ma mh ml nf fo fh fs rs y6 y5 y3 y4 ya np pa nc cp) H := hP
      have hD : va_D A (wMd cI cJ cZ h0 h1 h2 h3 h4 h5 h6 h7 h8 h9 h10 h11 h12 h13 h14 h15 h16 h17 h18 h19 h20 h21 h22 h23 1 no ca ba nl xa sa da la ra fa ta ua uh uo ma mh ml nf fo fh fs rs y6 y5 y3 y4 ya np pa nc cp) := hD
      refine W.widen (k := 0) (n := 0) (Nat.le_of_ble_eq_true rfl) (Nat.le_of_ble_eq_true rfl) ?_
      refine nv_if_ne (tgt := 41) hx hb d_Md_breach_36 (by decide) (by decide) (fun c12 => absurd c12 (by decide)) (fun _ => ?_)
      refine nv_iconst (n := 0) hx hb d_Md_breach_39 ?_
      have hP9 := hP.sub (ws' := (wMd cI cJ cZ h0 h1 h2 h3 h4 h5 h6 h7 h8 h9 h10 h11 h12 h13 h14 h15 h16 h17 h18 h19 h20 h21 h22 h23 1 no ca ba nl xa sa da la ra fa ta ua uh uo ma mh ml nf fo fh fs rs y6 y5 y3 y4 ya np pa nc cp)) [0, 1, 2, 3, 4, 5, 6, 7, 8, 9, 10, 11, 12, 13, 14, 15, 16, 17, 18, 19, 20, 21, 22, 23] rfl
      have hD9 := hD.sub (ws' := (wMd cI cJ cZ h0 h1 h2 h3 h4 h5 h6 h7 h8 h9 h10 h11 h12 h13 h14 h15 h16 h17 h18 h19 h20 h21 h22 h23 1 no ca ba nl xa sa da la ra fa ta ua uh uo ma mh ml nf fo fh fs rs y6 y5 y3 y4 ya np pa nc cp)) [0, 1, 2, 3, 4, 5, 6, 7, 8, 9, 10, 11, 12, 13, 14, 15, 16, 17, 18, 19, 20, 21, 22, 23] (by decide) rfl
      exact W.iret hx hb hr (fun t ht hW => ⟨⟨_, ((1), (y3), (y4), (y5), (y6)), rfl, ⟨_, rfl, v⟩, by rw [ht]; exact hP9, va_K.moved hW.alike hK, hD9⟩, hS.F ht⟩) hS.2.2 d_Md_breach_40
    · replace v := v.2 c11
      refine lv_iload_n hx hb d_Md_breach_17 rfl (lv_at hl 2 rfl) ?_
      refine nv_iconst (n := 0) hx hb d_Md_breach_18 ?_
      refine nv_iconst (n := 1) hx hb d_Md_breach_19 ?_
      obtain ⟨k13, v⟩ := v
      refine vp_callSi (nv_runS (wc := []) (As := [.int (iI w_), .int (iI 0), .int (iI 1)]) (rest := [.ref h0]) ⟨hx, hb, hml, hown, hts⟩ (m_Md_within l D cI cJ cO cZ w_ 0 1 (fun z => (z = 1 ∧ (0 ≤ w_ ∧ w_ ≤ 1)) ∨ (z = 0 ∧ ¬ (0 ≤ w_ ∧ w_ ≤ 1))) (s_Md_within w_ 0 1 k13 (by decide) (by decide))) (nv_cwS (n := 3) hts wd_809 wd_810 wd_10 wd_811 (by decide +kernel) ⟨Nat.le_of_ble_eq_true rfl, Nat.le_of_ble_eq_true rfl⟩) hK (hP.sub [] rfl) rfl hl.1 rfl (Nat.le_of_ble_eq_true rfl) d_Md_breach_20 (Nat.le_of_ble_eq_true rfl) (Nat.le_of_ble_eq_true rfl)) (fun r hr => ?_)
      rcases hr with ⟨_, rfl, ⟨rfl, c14⟩ | ⟨rfl, c14⟩⟩
      · replace v := v.1 c14
        refine nv_if_eq (tgt := 30) hx hb d_Md_breach_23 (by decide) (by decide) (fun c15 => absurd c15 (by decide)) (fun _ => ?_)
        refine nv_iconst (n := 1) hx hb d_Md_breach_26 ?_
        refine lv_goto (tgt := 31) hx hb d_Md_breach_27 (by decide) ?_
        refine nv_iconst (n := 1) hx hb d_Md_breach_31 ?_
        refine nv_iconst (n := 1) hx hb d_Md_breach_32 ?_
        have hPc := hP.sub (ws' := (wMd cI cJ cZ h0 h1 h2 h3 h4 h5 h6 h7 h8 h9 h10 h11 h12 h13 h14 h15 h16 h17 h18 h19 h20 h21 h22 h23 th no ca ba nl xa sa da la ra fa ta ua uh uo ma mh ml nf fo fh fs rs y6 y5 y3 y4 ya np pa nc cp)) [0, 1, 2, 3, 4, 5, 6, 7, 8, 9, 10, 11, 12, 13, 14, 15, 16, 17, 18, 19, 20, 21, 22, 23] rfl
        have hDc := hD.sub (ws' := (wMd cI cJ cZ h0 h1 h2 h3 h4 h5 h6 h7 h8 h9 h10 h11 h12 h13 h14 h15 h16 h17 h18 h19 h20 h21 h22 h23 th no ca ba nl xa sa da la ra fa ta ua uh uo ma mh ml nf fo fh fs rs y6 y5 y3 y4 ya np pa nc cp)) [0, 1, 2, 3, 4, 5, 6, 7, 8, 9, 10, 11, 12, 13, 14, 15, 16, 17, 18, 19, 20, 21, 22, 23] (by decide) rfl
        have hFc := va_free (wc := (wMd cI cJ cZ h0 h1 h2 h3 h4 h5 h6 h7 h8 h9 h10 h11 h12 h13 h14 h15 h16 h17 h18 h19 h20 h21 h22 h23 th no ca ba nl xa sa da la ra fa ta ua uh uo ma mh ml nf fo fh fs rs y6 y5 y3 y4 ya np pa nc cp)) hD hS hA [0, 1, 2, 3, 4, 5, 6, 7, 8, 9, 10, 11, 12, 13, 14, 15, 16, 17, 18, 19, 20, 21, 22, 23] rfl
        refine va_calli (va_runV (As := [.int (iI 1), .int (iI 1), .int (iI 1)]) (rest := []) ⟨hx, hb, hml, hown, hts⟩ (m_Md_goes l D cI cJ cO cZ h0 h1 h2 h3 h4 h5 h6 h7 h8 h9 h10 h11 h12 h13 h14 h15 h16 h17 h18 h19 h20 h21 h22 h23 H.size th no ca ba nl xa sa da la ra fa ta ua uh uo ma mh ml nf fo fh fs rs y6 y5 y3 y4 ya np pa nc cp 1 1 1 (fun z t => z = 1 ∧ t = 0) (s_Md_goes_111 th no ca ba nl xa sa da la ra fa ta ua uh uo ma mh ml nf fo fh fs rs y6 y5 y3 y4 ya np pa nc cp)) (nv_cwV (n := 3) hts wd_812 wd_814 sl_17 wd_10 wd_815 (by decide +kernel) ⟨Nat.le_of_ble_eq_true rfl, Nat.le_of_ble_eq_true rfl⟩) ⟨blW, va_recv hK hPc (ci := 8) (q0 := 0) rfl rfl, fun U hU hW => ⟨rfl, by rw [hU], by rw [hU]; exact hPc, va_K.moved hW.alike hK, hDc.weaken (fun _ _ _ _ => trivial)⟩⟩ rfl rfl hl.1 rfl (lv_room (Nat.le_of_ble_eq_true rfl)) d_Md_breach_33 ⟨Nat.le_of_ble_eq_true rfl, Nat.le_of_ble_eq_true rfl⟩) hS (fun q _ h => hFc q h) hFc (fun r u t H1 locs ht hvm hw hB hz1 hk1 hS => ?_)
        obtain ⟨hP1, hK1, hD1⟩ := hB
        rw [ht] at hP1
        obtain ⟨_, rfl, rfl, rfl⟩ := hw
        obtain ⟨hP, hD⟩ := va_join (wr := []) (w1 := (wMd cI cJ cZ h0 h1 h2 h3 h4 h5 h6 h7 h8 h9 h10 h11 h12 h13 h14 h15 h16 h17 h18 h19 h20 h21 h22 h23 0 no ca ba nl xa sa da la ra fa ta ua uh uo ma mh ml nf fo fh fs rs y6 y5 y3 y4 ya np pa nc cp)) hP hD [0, 1, 2, 3, 4, 5, 6, 7, 8, 9, 10, 11, 12, 13, 14, 15, 16, 17, 18, 19, 20, 21, 22, 23] [] rfl rfl (by decide) (by decide) hk1 hFc hP1 hD1
        generalize H1 = H at hP hS ⊢
        have hP : va_P D vwCl (wMd cI cJ cZ h0 h1 h2 h3 h4 h5 h6 h7 h8 h9 h10 h11 h12 h13 h14 h15 h16 h17 h18 h19 h20 h21 h22 h23 0 no ca ba nl xa sa da la ra fa ta ua uh uo ma mh ml nf fo fh fs rs y6 y5 y3 y4 ya np pa nc cp) H := hP
        have hD : va_D A (wMd cI cJ cZ h0 h1 h2 h3 h4 h5 h6 h7 h8 h9 h10 h11 h12 h13 h14 h15 h16 h17 h18 h19 h20 h21 h22 h23 0 no ca ba nl xa sa da la ra fa ta ua uh uo ma mh ml nf fo fh fs rs y6 y5 y3 y4 ya np pa nc cp) := hD
        refine W.widen (k := 0) (n := 0) (Nat.le_of_ble_eq_true rfl) (Nat.le_of_ble_eq_true rfl) ?_
        refine nv_if_ne (tgt := 41) hx hb d_Md_breach_36 (by decide) (by decide) (fun _ => ?_) (fun c16 => absurd c16 (by decide))
        refine lv_iload_n hx hb d_Md_breach_41 rfl (lv_at hl 2 rfl) ?_
        refine nv_if_ne (tgt := 54) hx hb d_Md_breach_42 (by decide) k13 (fun c17 => ?_) (fun c17 => ?_)
        · replace v := v.1 c17
          refine lv_aload_n hx hb d_Md_breach_54 rfl (lv_at hl 0 rfl) ?_
          refine va_get (D := D) (ci := 8) (v := .ref h20) (C := "LightDosesModel") (T := T_Md) (N := 32) hx hb hts in_Md hown hK hP 0 rfl rfl 26 (by decide) (hts _ wd_729) (fun _ h9 => h9) rfl d_Md_breach_55 ?_
          refine lv_iload_n hx hb d_Md_breach_58 rfl (lv_at hl 1 rfl) ?_
          obtain ⟨k18, v⟩ := v
          refine nv_iald (f := y4) hx hb hK 0 (hP 20 _ rfl) rfl (k_).toNat (Int.toNat_of_nonneg k18.1).symm (by omega) (by decide) d_Md_breach_59 ?_
          have hP9 := hP.sub (ws' := (wMd cI cJ cZ h0 h1 h2 h3 h4 h5 h6 h7 h8 h9 h10 h11 h12 h13 h14 h15 h16 h17 h18 h19 h20 h21 h22 h23 0 no ca ba nl xa sa da la ra fa ta ua uh uo ma mh ml nf fo fh fs rs y6 y5 y3 y4 ya np pa nc cp)) [0, 1, 2, 3, 4, 5, 6, 7, 8, 9, 10, 11, 12, 13, 14, 15, 16, 17, 18, 19, 20, 21, 22, 23] rfl
          have hD9 := hD.sub (ws' := (wMd cI cJ cZ h0 h1 h2 h3 h4 h5 h6 h7 h8 h9 h10 h11 h12 h13 h14 h15 h16 h17 h18 h19 h20 h21 h22 h23 0 no ca ba nl xa sa da la ra fa ta ua uh uo ma mh ml nf fo fh fs rs y6 y5 y3 y4 ya np pa nc cp)) [0, 1, 2, 3, 4, 5, 6, 7, 8, 9, 10, 11, 12, 13, 14, 15, 16, 17, 18, 19, 20, 21, 22, 23] (by decide) rfl
          exact W.iret hx hb hr (fun t ht hW => ⟨⟨_, ((0), (y3), (y4), (y5), (y6)), rfl, ⟨_, rfl, v⟩, by rw [ht]; exact hP9, va_K.moved hW.alike hK, hD9⟩, hS.F ht⟩) hS.2.2 d_Md_breach_60
        · replace v := v.2 c17
          refine lv_aload_n hx hb d_Md_breach_45 rfl (lv_at hl 0 rfl) ?_
          refine va_get (D := D) (ci := 8) (v := .ref h19) (C := "LightDosesModel") (T := T_Md) (N := 32) hx hb hts in_Md hown hK hP 0 rfl rfl 25 (by decide) (hts _ wd_728) (fun _ h9 => h9) rfl d_Md_breach_46 ?_
          refine lv_iload_n hx hb d_Md_breach_49 rfl (lv_at hl 1 rfl) ?_
          obtain ⟨k19, v⟩ := v
          refine nv_iald (f := y3) hx hb hK 0 (hP 19 _ rfl) rfl (k_).toNat (Int.toNat_of_nonneg k19.1).symm (by omega) (by decide) d_Md_breach_50 ?_
          refine lv_goto (tgt := 60) hx hb d_Md_breach_51 (by decide) ?_
          have hP9 := hP.sub (ws' := (wMd cI cJ cZ h0 h1 h2 h3 h4 h5 h6 h7 h8 h9 h10 h11 h12 h13 h14 h15 h16 h17 h18 h19 h20 h21 h22 h23 0 no ca ba nl xa sa da la ra fa ta ua uh uo ma mh ml nf fo fh fs rs y6 y5 y3 y4 ya np pa nc cp)) [0, 1, 2, 3, 4, 5, 6, 7, 8, 9, 10, 11, 12, 13, 14, 15, 16, 17, 18, 19, 20, 21, 22, 23] rfl
          have hD9 := hD.sub (ws' := (wMd cI cJ cZ h0 h1 h2 h3 h4 h5 h6 h7 h8 h9 h10 h11 h12 h13 h14 h15 h16 h17 h18 h19 h20 h21 h22 h23 0 no ca ba nl xa sa da la ra fa ta ua uh uo ma mh ml nf fo fh fs rs y6 y5 y3 y4 ya np pa nc cp)) [0, 1, 2, 3, 4, 5, 6, 7, 8, 9, 10, 11, 12, 13, 14, 15, 16, 17, 18, 19, 20, 21, 22, 23] (by decide) rfl
          exact W.iret hx hb hr (fun t ht hW => ⟨⟨_, ((0), (y3), (y4), (y5), (y6)), rfl, ⟨_, rfl, v⟩, by rw [ht]; exact hP9, va_K.moved hW.alike hK, hD9⟩, hS.F ht⟩) hS.2.2 d_Md_breach_60
      · replace v := v.2 c14
        refine nv_if_eq (tgt := 30) hx hb d_Md_breach_23 (by decide) (by decide) (fun _ => ?_) (fun c20 => absurd c20 (by decide))
        refine nv_iconst (n := 0) hx hb d_Md_breach_30 ?_
        refine nv_iconst (n := 1) hx hb d_Md_breach_31 ?_
        refine nv_iconst (n := 1) hx hb d_Md_breach_32 ?_
        have hPc := hP.sub (ws' := (wMd cI cJ cZ h0 h1 h2 h3 h4 h5 h6 h7 h8 h9 h10 h11 h12 h13 h14 h15 h16 h17 h18 h19 h20 h21 h22 h23 th no ca ba nl xa sa da la ra fa ta ua uh uo ma mh ml nf fo fh fs rs y6 y5 y3 y4 ya np pa nc cp)) [0, 1, 2, 3, 4, 5, 6, 7, 8, 9, 10, 11, 12, 13, 14, 15, 16, 17, 18, 19, 20, 21, 22, 23] rfl
        have hDc := hD.sub (ws' := (wMd cI cJ cZ h0 h1 h2 h3 h4 h5 h6 h7 h8 h9 h10 h11 h12 h13 h14 h15 h16 h17 h18 h19 h20 h21 h22 h23 th no ca ba nl xa sa da la ra fa ta ua uh uo ma mh ml nf fo fh fs rs y6 y5 y3 y4 ya np pa nc cp)) [0, 1, 2, 3, 4, 5, 6, 7, 8, 9, 10, 11, 12, 13, 14, 15, 16, 17, 18, 19, 20, 21, 22, 23] (by decide) rfl
        have hFc := va_free (wc := (wMd cI cJ cZ h0 h1 h2 h3 h4 h5 h6 h7 h8 h9 h10 h11 h12 h13 h14 h15 h16 h17 h18 h19 h20 h21 h22 h23 th no ca ba nl xa sa da la ra fa ta ua uh uo ma mh ml nf fo fh fs rs y6 y5 y3 y4 ya np pa nc cp)) hD hS hA [0, 1, 2, 3, 4, 5, 6, 7, 8, 9, 10, 11, 12, 13, 14, 15, 16, 17, 18, 19, 20, 21, 22, 23] rfl
        refine va_calli (va_runV (As := [.int (iI 0), .int (iI 1), .int (iI 1)]) (rest := []) ⟨hx, hb, hml, hown, hts⟩ (m_Md_goes l D cI cJ cO cZ h0 h1 h2 h3 h4 h5 h6 h7 h8 h9 h10 h11 h12 h13 h14 h15 h16 h17 h18 h19 h20 h21 h22 h23 H.size th no ca ba nl xa sa da la ra fa ta ua uh uo ma mh ml nf fo fh fs rs y6 y5 y3 y4 ya np pa nc cp 0 1 1 (fun z t => z = 0 ∧ t = 1) (s_Md_goes_011 th no ca ba nl xa sa da la ra fa ta ua uh uo ma mh ml nf fo fh fs rs y6 y5 y3 y4 ya np pa nc cp)) (nv_cwV (n := 3) hts wd_812 wd_814 sl_17 wd_10 wd_815 (by decide +kernel) ⟨Nat.le_of_ble_eq_true rfl, Nat.le_of_ble_eq_true rfl⟩) ⟨blW, va_recv hK hPc (ci := 8) (q0 := 0) rfl rfl, fun U hU hW => ⟨rfl, by rw [hU], by rw [hU]; exact hPc, va_K.moved hW.alike hK, hDc.weaken (fun _ _ _ _ => trivial)⟩⟩ rfl rfl hl.1 rfl (lv_room (Nat.le_of_ble_eq_true rfl)) d_Md_breach_33 ⟨Nat.le_of_ble_eq_true rfl, Nat.le_of_ble_eq_true rfl⟩) hS (fun q _ h => hFc q h) hFc (fun r u t H1 locs ht hvm hw hB hz1 hk1 hS => ?_)
        obtain ⟨hP1, hK1, hD1⟩ := hB
        rw [ht] at hP1
        obtain ⟨_, rfl, rfl, rfl⟩ := hw
        obtain ⟨hP, hD⟩ := va_join (wr := []) (w1 := (wMd cI cJ cZ h0 h1 h2 h3 h4 h5 h6 h7 h8 h9 h10 h11 h12 h13 h14 h15 h16 h17 h18 h19 h20 h21 h22 h23 1 no ca ba nl xa sa da la ra fa ta ua uh uo ma mh ml nf fo fh fs rs y6 y5 y3 y4 ya np pa nc cp)) hP hD [0, 1, 2, 3, 4, 5, 6, 7, 8, 9, 10, 11, 12, 13, 14, 15, 16, 17, 18, 19, 20, 21, 22, 23] [] rfl rfl (by decide) (by decide) hk1 hFc hP1 hD1
        generalize H1 = H at hP hS ⊢
        have hP : va_P D vwCl (wMd cI cJ cZ h0 h1 h2 h3 h4 h5 h6 h7 h8 h9 h10 h11 h12 h13 h14 h15 h16 h17 h18 h19 h20 h21 h22 h23 1 no ca ba nl xa sa da la ra fa ta ua uh uo ma mh ml nf fo fh fs rs y6 y5 y3 y4 ya np pa nc cp) H := hP
        have hD : va_D A (wMd cI cJ cZ h0 h1 h2 h3 h4 h5 h6 h7 h8 h9 h10 h11 h12 h13 h14 h15 h16 h17 h18 h19 h20 h21 h22 h23 1 no ca ba nl xa sa da la ra fa ta ua uh uo ma mh ml nf fo fh fs rs y6 y5 y3 y4 ya np pa nc cp) := hD
        refine W.widen (k := 0) (n := 0) (Nat.le_of_ble_eq_true rfl) (Nat.le_of_ble_eq_true rfl) ?_
        refine nv_if_ne (tgt := 41) hx hb d_Md_breach_36 (by decide) (by decide) (fun c21 => absurd c21 (by decide)) (fun _ => ?_)
        refine nv_iconst (n := 0) hx hb d_Md_breach_39 ?_
        have hP9 := hP.sub (ws' := (wMd cI cJ cZ h0 h1 h2 h3 h4 h5 h6 h7 h8 h9 h10 h11 h12 h13 h14 h15 h16 h17 h18 h19 h20 h21 h22 h23 1 no ca ba nl xa sa da la ra fa ta ua uh uo ma mh ml nf fo fh fs rs y6 y5 y3 y4 ya np pa nc cp)) [0, 1, 2, 3, 4, 5, 6, 7, 8, 9, 10, 11, 12, 13, 14, 15, 16, 17, 18, 19, 20, 21, 22, 23] rfl
        have hD9 := hD.sub (ws' := (wMd cI cJ cZ h0 h1 h2 h3 h4 h5 h6 h7 h8 h9 h10 h11 h12 h13 h14 h15 h16 h17 h18 h19 h20 h21 h22 h23 1 no ca ba nl xa sa da la ra fa ta ua uh uo ma mh ml nf fo fh fs rs y6 y5 y3 y4 ya np pa nc cp)) [0, 1, 2, 3, 4, 5, 6, 7, 8, 9, 10, 11, 12, 13, 14, 15, 16, 17, 18, 19, 20, 21, 22, 23] (by decide) rfl
        exact W.iret hx hb hr (fun t ht hW => ⟨⟨_, ((1), (y3), (y4), (y5), (y6)), rfl, ⟨_, rfl, v⟩, by rw [ht]; exact hP9, va_K.moved hW.alike hK, hD9⟩, hS.F ht⟩) hS.2.2 d_Md_breach_40

theorem d_Md_rotate_0 : decode prog_10_method_35_code 0 = .ok (.aload_n 0, 1) := by decide +kernel
theorem d_Md_rotate_1 : decode prog_10_method_35_code 1 = .ok (.iload_n 1, 1) := by decide +kernel
theorem d_Md_rotate_2 : decode prog_10_method_35_code 2 = .ok (.iconst 1, 1) := by decide +kernel
theorem d_Md_rotate_3 : decode prog_10_method_35_code 3 = .ok (.sipush 30000, 3) := by decide +kernel
theorem d_Md_rotate_6 : decode prog_10_method_35_code 6 = .ok (.invokestatic 92, 3) := by decide +kernel
theorem d_Md_rotate_9 : decode prog_10_method_35_code 9 = .ok (.iconst 1, 1) := by decide +kernel
theorem d_Md_rotate_10 : decode prog_10_method_35_code 10 = .ok (.iconst 1, 1) := by decide +kernel
theorem d_Md_rotate_11 : decode prog_10_method_35_code 11 = .ok (.invokevirtual 96, 3) := by decide +kernel
theorem d_Md_rotate_14 : decode prog_10_method_35_code 14 = .ok (.ifCond .ne 5, 3) := by decide +kernel
theorem d_Md_rotate_17 : decode prog_10_method_35_code 17 = .ok (.iconst 0, 1) := by decide +kernel
theorem d_Md_rotate_18 : decode prog_10_method_35_code 18 = .ok (.ireturn, 1) := by decide +kernel
theorem d_Md_rotate_19 : decode prog_10_method_35_code 19 = .ok (.iconst 0, 1) := by decide +kernel
theorem d_Md_rotate_20 : decode prog_10_method_35_code 20 = .ok (.istore_n 2, 1) := by decide +kernel
theorem d_Md_rotate_21 : decode prog_10_method_35_code 21 = .ok (.bipush 99, 2) := by decide +kernel
theorem d_Md_rotate_23 : decode prog_10_method_35_code 23 = .ok (.istore_n 3, 1) := by decide +kernel
theorem d_Md_rotate_24 : decode prog_10_method_35_code 24 = .ok (.iconst 1, 1) := by decide +kernel
theorem d_Md_rotate_25 : decode prog_10_method_35_code 25 = .ok (.istore 4, 2) := by decide +kernel
theorem d_Md_rotate_27 : decode prog_10_method_35_code 27 = .ok (.iload 4, 2) := by decide +kernel
theorem d_Md_rotate_29 : decode prog_10_method_35_code 29 = .ok (.sipush 4096, 3) := by decide +kernel
theorem d_Md_rotate_32 : decode prog_10_method_35_code 32 = .ok (.if_icmp .ge 169, 3) := by decide +kernel
theorem d_Md_rotate_35 : decode prog_10_method_35_code 35 = .ok (.iconst 0, 1) := by decide +kernel
theorem d_Md_rotate_36 : decode prog_10_method_35_code 36 = .ok (.istore 5, 2) := by decide +kernel
theorem d_Md_rotate_38 : decode prog_10_method_35_code 38 = .ok (.iconst 0, 1) := by decide +kernel
theorem d_Md_rotate_39 : decode prog_10_method_35_code 39 = .ok (.istore 6, 2) := by decide +kernel
theorem d_Md_rotate_41 : decode prog_10_method_35_code 41 = .ok (.iconst 0, 1) := by decide +kernel
theorem d_Md_rotate_42 : decode prog_10_method_35_code 42 = .ok (.istore 7, 2) := by decide +kernel
theorem d_Md_rotate_44 : decode prog_10_method_35_code 44 = .ok (.iload 7, 2) := by decide +kernel
theorem d_Md_rotate_46 : decode prog_10_method_35_code 46 = .ok (.bipush 12, 2) := by decide +kernel
theorem d_Md_rotate_48 : decode prog_10_method_35_code 48 = .ok (.if_icmp .ge 82, 3) := by decide +kernel
theorem d_Md_rotate_51 : decode prog_10_method_35_code 51 = .ok (.iload 4, 2) := by decide +kernel
theorem d_Md_rotate_53 : decode prog_10_method_35_code 53 = .ok (.iload 7, 2) := by decide +kernel
theorem d_Md_rotate_55 : decode prog_10_method_35_code 55 = .ok (.ishr, 1) := by decide +kernel
theorem d_Md_rotate_56 : decode prog_10_method_35_code 56 = .ok (.iconst 1, 1) := by decide +kernel
theorem d_Md_rotate_57 : decode prog_10_method_35_code 57 = .ok (.iand, 1) := by decide +kernel
theorem d_Md_rotate_58 : decode prog_10_method_35_code 58 = .ok (.iconst 1, 1) := by decide +kernel
theorem d_Md_rotate_59 : decode prog_10_method_35_code 59 = .ok (.if_icmp .ne 7, 3) := by decide +kernel
theorem d_Md_rotate_62 : decode prog_10_method_35_code 62 = .ok (.iconst 1, 1) := by decide +kernel
theorem d_Md_rotate_63 : decode prog_10_method_35_code 63 = .ok (.goto 4, 3) := by decide +kernel
theorem d_Md_rotate_66 : decode prog_10_method_35_code 66 = .ok (.iconst 0, 1) := by decide +kernel
theorem d_Md_rotate_67 : decode prog_10_method_35_code 67 = .ok (.istore 8, 2) := by decide +kernel
theorem d_Md_rotate_69 : decode prog_10_method_35_code 69 = .ok (.iload 8, 2) := by decide +kernel
theorem d_Md_rotate_71 : decode prog_10_method_35_code 71 = .ok (.ifCond .eq 27, 3) := by decide +kernel
theorem d_Md_rotate_74 : decode prog_10_method_35_code 74 = .ok (.iload 7, 2) := by decide +kernel
theorem d_Md_rotate_76 : decode prog_10_method_35_code 76 = .ok (.aload_n 0, 1) := by decide +kernel
theorem d_Md_rotate_77 : decode prog_10_method_35_code 77 = .ok (.getfield 167, 3) := by decide +kernel
theorem d_Md_rotate_80 : decode prog_10_method_35_code 80 = .ok (.if_icmp .ge 10, 3) := by decide +kernel
theorem d_Md_rotate_83 : decode prog_10_method_35_code 83 = .ok (.iload 5, 2) := by decide +kernel
theorem d_Md_rotate_85 : decode prog_10_method_35_code 85 = .ok (.iconst 1, 1) := by decide +kernel
theorem d_Md_rotate_86 : decode prog_10_method_35_code 86 = .ok (.iadd, 1) := by decide +kernel
theorem d_Md_rotate_87 : decode prog_10_method_35_code 87 = .ok (.goto 13, 3) := by decide +kernel
theorem d_Md_rotate_90 : decode prog_10_method_35_code 90 = .ok (.iload 5, 2) := by decide +kernel
theorem d_Md_rotate_92 : decode prog_10_method_35_code 92 = .ok (.bipush 100, 2) := by decide +kernel
theorem d_Md_rotate_94 : decode prog_10_method_35_code 94 = .ok (.iadd, 1) := by decide +kernel
theorem d_Md_rotate_95 : decode prog_10_method_35_code 95 = .ok (.goto 5, 3) := by decide +kernel
theorem d_Md_rotate_98 : decode prog_10_method_35_code 98 = .ok (.iload 5, 2) := by decide +kernel
theorem d_Md_rotate_100 : decode prog_10_method_35_code 100 = .ok (.istore 5, 2) := by decide +kernel
theorem d_Md_rotate_102 : decode prog_10_method_35_code 102 = .ok (.iload 8, 2) := by decide +kernel
theorem d_Md_rotate_104 : decode prog_10_method_35_code 104 = .ok (.ifCond .eq 16, 3) := by decide +kernel
theorem d_Md_rotate_107 : decode prog_10_method_35_code 107 = .ok (.iload 6, 2) := by decide +kernel
theorem d_Md_rotate_109 : decode prog_10_method_35_code 109 = .ok (.aload_n 0, 1) := by decide +kernel
theorem d_Md_rotate_110 : decode prog_10_method_35_code 110 = .ok (.getfield 76, 3) := by decide +kernel
theorem d_Md_rotate_113 : decode prog_10_method_35_code 113 = .ok (.iload 7, 2) := by decide +kernel
theorem d_Md_rotate_115 : decode prog_10_method_35_code 115 = .ok (.iaload, 1) := by decide +kernel
theorem d_Md_rotate_116 : decode prog_10_method_35_code 116 = .ok (.iadd, 1) := by decide +kernel
theorem d_Md_rotate_117 : decode prog_10_method_35_code 117 = .ok (.goto 5, 3) := by decide +kernel
theorem d_Md_rotate_120 : decode prog_10_method_35_code 120 = .ok (.iload 6, 2) := by decide +kernel
theorem d_Md_rotate_122 : decode prog_10_method_35_code 122 = .ok (.istore 6, 2) := by decide +kernel
theorem d_Md_rotate_124 : decode prog_10_method_35_code 124 = .ok (.iinc 7 1, 3) := by decide +kernel
theorem d_Md_rotate_127 : decode prog_10_method_35_code 127 = .ok (.goto (-83), 3) := by decide +kernel
theorem d_Md_rotate_130 : decode prog_10_method_35_code 130 = .ok (.iload 6, 2) := by decide +kernel
theorem d_Md_rotate_132 : decode prog_10_method_35_code 132 = .ok (.iload_n 1, 1) := by decide +kernel
theorem d_Md_rotate_133 : decode prog_10_method_35_code 133 = .ok (.if_icmp .lt 35, 3) := by decide +kernel
theorem d_Md_rotate_136 : decode prog_10_method_35_code 136 = .ok (.iload 5, 2) := by decide +kernel
theorem d_Md_rotate_138 : decode prog_10_method_35_code 138 = .ok (.iload_n 3, 1) := by decide +kernel
theorem d_Md_rotate_139 : decode prog_10_method_35_code 139 = .ok (.if_icmp .lt 25, 3) := by decide +kernel
theorem d_Md_rotate_142 : decode prog_10_method_35_code 142 = .ok (.iload 5, 2) := by decide +kernel
theorem d_Md_rotate_144 : decode prog_10_method_35_code 144 = .ok (.iload_n 3, 1) := by decide +kernel
theorem d_Md_rotate_145 : decode prog_10_method_35_code 145 = .ok (.if_icmp .ne 23, 3) := by decide +kernel
theorem d_Md_rotate_148 : decode prog_10_method_35_code 148 = .ok (.iload 5, 2) := by decide +kernel
theorem d_Md_rotate_150 : decode prog_10_method_35_code 150 = .ok (.bipush 99, 2) := by decide +kernel
theorem d_Md_rotate_152 : decode prog_10_method_35_code 152 = .ok (.if_icmp .ge 16, 3) := by decide +kernel
theorem d_Md_rotate_155 : decode prog_10_method_35_code 155 = .ok (.iload 4, 2) := by decide +kernel
theorem d_Md_rotate_157 : decode prog_10_method_35_code 157 = .ok (.iload_n 2, 1) := by decide +kernel
theorem d_Md_rotate_158 : decode prog_10_method_35_code 158 = .ok (.invokestatic 170, 3) := by decide +kernel
theorem d_Md_rotate_161 : decode prog_10_method_35_code 161 = .ok (.ifCond .eq 7, 3) := by decide +kernel
theorem d_Md_rotate_164 : decode prog_10_method_35_code 164 = .ok (.iconst 1, 1) := by decide +kernel
theorem d_Md_rotate_165 : decode prog_10_method_35_code 165 = .ok (.goto 4, 3) := by decide +kernel
theorem d_Md_rotate_168 : decode prog_10_method_35_code 168 = .ok (.iconst 0, 1) := by decide +kernel
theorem d_Md_rotate_169 : decode prog_10_method_35_code 169 = .ok (.istore 7, 2) := by decide +kernel
theorem d_Md_rotate_171 : decode prog_10_method_35_code 171 = .ok (.iload 7, 2) := by decide +kernel
theorem d_Md_rotate_173 : decode prog_10_method_35_code 173 = .ok (.ifCond .eq 8, 3) := by decide +kernel
theorem d_Md_rotate_176 : decode prog_10_method_35_code 176 = .ok (.iload 5, 2) := by decide +kernel
theorem d_Md_rotate_178 : decode prog_10_method_35_code 178 = .ok (.goto 4, 3) := by decide +kernel
theorem d_Md_rotate_181 : decode prog_10_method_35_code 181 = .ok (.iload_n 3, 1) := by decide +kernel
theorem d_Md_rotate_182 : decode prog_10_method_35_code 182 = .ok (.istore_n 3, 1) := by decide +kernel
theorem d_Md_rotate_183 : decode prog_10_method_35_code 183 = .ok (.iload 7, 2) := by decide +kernel
theorem d_Md_rotate_185 : decode prog_10_method_35_code 185 = .ok (.ifCond .eq 8, 3) := by decide +kernel
theorem d_Md_rotate_188 : decode prog_10_method_35_code 188 = .ok (.iload 4, 2) := by decide +kernel
theorem d_Md_rotate_190 : decode prog_10_method_35_code 190 = .ok (.goto 4, 3) := by decide +kernel
theorem d_Md_rotate_193 : decode prog_10_method_35_code 193 = .ok (.iload_n 2, 1) := by decide +kernel
theorem d_Md_rotate_194 : decode prog_10_method_35_code 194 = .ok (.istore_n 2, 1) := by decide +kernel
theorem d_Md_rotate_195 : decode prog_10_method_35_code 195 = .ok (.iinc 4 1, 3) := by decide +kernel
theorem d_Md_rotate_198 : decode prog_10_method_35_code 198 = .ok (.goto (-171), 3) := by decide +kernel
theorem d_Md_rotate_201 : decode prog_10_method_35_code 201 = .ok (.iload_n 3, 1) := by decide +kernel
theorem d_Md_rotate_202 : decode prog_10_method_35_code 202 = .ok (.bipush 12, 2) := by decide +kernel
theorem d_Md_rotate_204 : decode prog_10_method_35_code 204 = .ok (.if_icmp .le 5, 3) := by decide +kernel
theorem d_Md_rotate_207 : decode prog_10_method_35_code 207 = .ok (.iconst (-1), 1) := by decide +kernel
theorem d_Md_rotate_208 : decode prog_10_method_35_code 208 = .ok (.ireturn, 1) := by decide +kernel
theorem d_Md_rotate_209 : decode prog_10_method_35_code 209 = .ok (.aload_n 0, 1) := by decide +kernel
theorem d_Md_rotate_210 : decode prog_10_method_35_code 210 = .ok (.iconst 0, 1) := by decide +kernel
theorem d_Md_rotate_211 : decode prog_10_method_35_code 211 = .ok (.putfield 173, 3) := by decide +kernel
theorem d_Md_rotate_214 : decode prog_10_method_35_code 214 = .ok (.iconst 0, 1) := by decide +kernel
theorem d_Md_rotate_215 : decode prog_10_method_35_code 215 = .ok (.istore 4, 2) := by decide +kernel
theorem d_Md_rotate_217 : decode prog_10_method_35_code 217 = .ok (.iload 4, 2) := by decide +kernel
theorem d_Md_rotate_219 : decode prog_10_method_35_code 219 = .ok (.bipush 12, 2) := by decide +kernel
theorem d_Md_rotate_221 : decode prog_10_method_35_code 221 = .ok (.if_icmp .ge 40, 3) := by decide +kernel
theorem d_Md_rotate_224 : decode prog_10_method_35_code 224 = .ok (.iload_n 2, 1) := by decide +kernel
theorem d_Md_rotate_225 : decode prog_10_method_35_code 225 = .ok (.iload 4, 2) := by decide +kernel
theorem d_Md_rotate_227 : decode prog_10_method_35_code 227 = .ok (.ishr, 1) := by decide +kernel
theorem d_Md_rotate_228 : decode prog_10_method_35_code 228 = .ok (.iconst 1, 1) := by decide +kernel
theorem d_Md_rotate_229 : decode prog_10_method_35_code 229 = .ok (.iand, 1) := by decide +kernel
theorem d_Md_rotate_230 : decode prog_10_method_35_code 230 = .ok (.iconst 1, 1) := by decide +kernel
theorem d_Md_rotate_231 : decode prog_10_method_35_code 231 = .ok (.if_icmp .ne 24, 3) := by decide +kernel
theorem d_Md_rotate_234 : decode prog_10_method_35_code 234 = .ok (.aload_n 0, 1) := by decide +kernel
theorem d_Md_rotate_235 : decode prog_10_method_35_code 235 = .ok (.getfield 79, 3) := by decide +kernel
theorem d_Md_rotate_238 : decode prog_10_method_35_code 238 = .ok (.aload_n 0, 1) := by decide +kernel
theorem d_Md_rotate_239 : decode prog_10_method_35_code 239 = .ok (.getfield 173, 3) := by decide +kernel
theorem d_Md_rotate_242 : decode prog_10_method_35_code 242 = .ok (.iload 4, 2) := by decide +kernel
theorem d_Md_rotate_244 : decode prog_10_method_35_code 244 = .ok (.iastore, 1) := by decide +kernel
theorem d_Md_rotate_245 : decode prog_10_method_35_code 245 = .ok (.aload_n 0, 1) := by decide +kernel
theorem d_Md_rotate_246 : decode prog_10_method_35_code 246 = .ok (.dup, 1) := by decide +kernel
theorem d_Md_rotate_247 : decode prog_10_method_35_code 247 = .ok (.getfield 173, 3) := by decide +kernel
theorem d_Md_rotate_250 : decode prog_10_method_35_code 250 = .ok (.iconst 1, 1) := by decide +kernel
theorem d_Md_rotate_251 : decode prog_10_method_35_code 251 = .ok (.iadd, 1) := by decide +kernel
theorem d_Md_rotate_252 : decode prog_10_method_35_code 252 = .ok (.putfield 173, 3) := by decide +kernel
theorem d_Md_rotate_255 : decode prog_10_method_35_code 255 = .ok (.iinc 4 1, 3) := by decide +kernel
theorem d_Md_rotate_258 : decode prog_10_method_35_code 258 = .ok (.goto (-41), 3) := by decide +kernel
theorem d_Md_rotate_261 : decode prog_10_method_35_code 261 = .ok (.aload_n 0, 1) := by decide +kernel
theorem d_Md_rotate_262 : decode prog_10_method_35_code 262 = .ok (.getfield 173, 3) := by decide +kernel
theorem d_Md_rotate_265 : decode prog_10_method_35_code 265 = .ok (.iconst 1, 1) := by decide +kernel
theorem d_Md_rotate_266 : decode prog_10_method_35_code 266 = .ok (.isub, 1) := by decide +kernel
theorem d_Md_rotate_267 : decode prog_10_method_35_code 267 = .ok (.ireturn, 1) := by decide +kernel
def vc_Md_rotate (th : Int) (no : Int) (ca : Nat → Int) (ba : Nat → Int) (nl : Int) (xa : Nat → Int) (sa : Nat → Int) (da : Nat → Int) (la : Nat → Int) (ra : Nat → Int) (fa : Nat → Int) (ta : Nat → Int) (ua : Nat → Int) (uh : Nat → Int) (uo : Nat → Int) (ma : Nat → Int) (mh : Nat → Int) (ml : Nat → Int) (nf : Int) (fo : Nat → Int) (fh : Nat → Int) (fs : Nat → Int) (rs : Int) (ic : Int) (mn : Int) (bh : Nat → Int) (bo : Nat → Int) (ya : Nat → Int) (np : Int) (pa : Nat → Int) (nc : Int) (cp : Nat → Int) (hrs : Int) (post : Int → Int → (Nat → Int) → Int → Prop) : Prop := (r32 hrs) ∧ (((1 ≤ hrs ∧ hrs ≤ 30000) → ∃ (I4 : Int → Int → Int → Prop) (μ5 : Int → Int → Int → Nat), I4 0 99 1 ∧ ∀ (best : Int) (least : Int) (set_ : Int), I4 best least set_ → (r32 set_) ∧ ((4096 ≤ set_ → (r32 least) ∧ ((least ≤ 12 → ∃ (I12 : Int → (Nat → Int) → Int → Prop) (μ13 : Int → (Nat → Int) → Int → Nat), I12 0 cp 0 ∧ ∀ (p_ : Int) (gc : Nat → Int) (gn : Int), I12 p_ gc gn → (r32 p_) ∧ ((12 ≤ p_ → post (gn - 1) 0 gc gn) ∧ (p_ < 12 → (r32 (b_and (b_shr best p_) 1)) ∧ ((¬ b_and (b_shr best p_) 1 = 1 → I12 (p_ + 1) gc gn ∧ μ13 (p_ + 1) gc gn < μ13 p_ gc gn) ∧ (b_and (b_shr best p_) 1 = 1 → (0 ≤ gn ∧ gn < 12) ∧ (I12 (p_ + 1) (va_up gc (gn).toNat p_) (gn + 1) ∧ μ13 (p_ + 1) (va_up gc (gn).toNat p_) (gn + 1) < μ13 p_ gc gn)))))) ∧ (12 < least → post (-1) 0 cp nc))) ∧ (set_ < 4096 → ∃ (I24 : Int → Int → Int → Prop) (μ25 : Int → Int → Int → Nat), I24 0 0 0 ∧ ∀ (size_ : Int) (all_ : Int) (p_ : Int), I24 size_ all_ p_ → (r32 p_) ∧ ((12 ≤ p_ → (r32 all_) ∧ ((all_ < hrs → I4 best least (set_ + 1) ∧ μ5 best least (set_ + 1) < μ5 best least set_) ∧ (hrs ≤ all_ → (r32 size_) ∧ ((r32 least) ∧ ((size_ < least → I4 set_ size_ (set_ + 1) ∧ μ5 set_ size_ (set_ + 1) < μ5 best least set_) ∧ (least ≤ size_ → (¬ size_ = least → I4 best least (set_ + 1) ∧ μ5 best least (set_ + 1) < μ5 best least set_) ∧ (size_ = least → (99 ≤ size_ → I4 best least (set_ + 1) ∧ μ5 best least (set_ + 1) < μ5 best least set_) ∧ (size_ < 99 → ∃ P45 : Int → Prop, vc_Md_lower set_ best P45 ∧ ∀ z46 : Int, P45 z46 → (r32 z46) ∧ ((z46 = 0 → I4 best least (set_ + 1) ∧ μ5 best least (set_ + 1) < μ5 best least set_) ∧ (¬ z46 = 0 → I4 set_ size_ (set_ + 1) ∧ μ5 set_ size_ (set_ + 1) < μ5 best least set_)))))))))) ∧ (p_ < 12 → (r32 (b_and (b_shr set_ p_) 1)) ∧ ((¬ b_and (b_shr set_ p_) 1 = 1 → I24 size_ all_ (p_ + 1) ∧ μ25 size_ all_ (p_ + 1) < μ25 size_ all_ p_) ∧ (b_and (b_shr set_ p_) 1 = 1 → (r32 np) ∧ ((np ≤ p_ → (0 ≤ p_ ∧ p_ < 12) ∧ (I24 (size_ + 100) (all_ + (pa (p_).toNat)) (p_ + 1) ∧ μ25 (size_ + 100) (all_ + (pa (p_).toNat)) (p_ + 1) < μ25 size_ all_ p_)) ∧ (p_ < np → (0 ≤ p_ ∧ p_ < 12) ∧ (I24 (size_ + 1) (all_ + (pa (p_).toNat)) (p_ + 1) ∧ μ25 (size_ + 1) (all_ + (pa (p_).toNat)) (p_ + 1) < μ25 size_ all_ p_)))))))))) ∧ (¬ (1 ≤ hrs ∧ hrs ≤ 30000) → post 0 1 cp nc))
set_option maxHeartbeats 4000000 in
set_option maxRecDepth 100000 in
theorem m_Md_rotate (l : Launch) (D : va_G) (cI cJ cO cZ : ClassId) (h0 h1 h2 h3 h4 h5 h6 h7 h8 h9 h10 h11 h12 h13 h14 h15 h16 h17 h18 h19 h20 h21 h22 h23 : Nat) (sz : Nat) (th : Int) (no : Int) (ca : Nat → Int) (ba : Nat → Int) (nl : Int) (xa : Nat → Int) (sa : Nat → Int) (da : Nat → Int) (la : Nat → Int) (ra : Nat → Int) (fa : Nat → Int) (ta : Nat → Int) (ua : Nat → Int) (uh : Nat → Int) (uo : Nat → Int) (ma : Nat → Int) (mh : Nat → Int) (ml : Nat → Int) (nf : Int) (fo : Nat → Int) (fh : Nat → Int) (fs : Nat → Int) (rs : Int) (ic : Int) (mn : Int) (bh : Nat → Int) (bo : Nat → Int) (ya : Nat → Int) (np : Int) (pa : Nat → Int) (nc : Int) (cp : Nat → Int) (hrs : Int) (post : Int → Int → (Nat → Int) → Int → Prop) (v : vc_Md_rotate th no ca ba nl xa sa da la ra fa ta ua uh uo ma mh ml nf fo fh fs rs ic mn bh bo ya np pa nc cp hrs post) : Met l ⟨"LightDosesModel", "rotate", "(I)I"⟩ (.code ⟨"LightDosesModel", "rotate", "(I)I"⟩ prog_10_method_35_code 9 (some .int) :: TG) { frames := 1, cells := 0, slots := 0, locals := 23 } (va_Pc [.ref h0, .int (iI hrs)] (fun U => U.heap.size = sz ∧ va_P D vwCl (wMd cI cJ cZ h0 h1 h2 h3 h4 h5 h6 h7 h8 h9 h10 h11 h12 h13 h14 h15 h16 h17 h18 h19 h20 h21 h22 h23 th no ca ba nl xa sa da la ra fa ta ua uh uo ma mh ml nf fo fh fs rs ic mn bh bo ya np pa nc cp) U.heap ∧ va_K D vwCl (tyx cI cJ cO cZ) U ∧ va_D (fun _ => True) (wMd cI cJ cZ h0 h1 h2 h3 h4 h5 h6 h7 h8 h9 h10 h11 h12 h13 h14 h15 h16 h17 h18 h19 h20 h21 h22 h23 th no ca ba nl xa sa da la ra fa ta ua uh uo ma mh ml nf fo fh fs rs ic mn bh bo ya np pa nc cp))) (va_Qi (fun (r : Int32) (u : Int × (Nat → Int) × Int) => ∃ z : Int, r = iI z ∧ post z u.1 u.2.1 u.2.2) (fun u t => va_P D vwCl (wMd cI cJ cZ h0 h1 h2 h3 h4 h5 h6 h7 h8 h9 h10 h11 h12 h13 h14 h15 h16 h17 h18 h19 h20 h21 h22 h23 u.1 no ca ba nl xa sa da la ra fa ta ua uh uo ma mh ml nf fo fh fs rs ic mn bh bo ya np pa u.2.2 u.2.1) t.heap ∧ va_K D vwCl (tyx cI cJ cO cZ) t ∧ va_D (va_A (wMd cI cJ cZ h0 h1 h2 h3 h4 h5 h6 h7 h8 h9 h10 h11 h12 h13 h14 h15 h16 h17 h18 h19 h20 h21 h22 h23 th no ca ba nl xa sa da la ra fa ta ua uh uo ma mh ml nf fo fh fs rs ic mn bh bo ya np pa nc cp) sz) (wMd cI cJ cZ h0 h1 h2 h3 h4 h5 h6 h7 h8 h9 h10 h11 h12 h13 h14 h15 h16 h17 h18 h19 h20 h21 h22 h23 u.1 no ca ba nl xa sa da la ra fa ta ua uh uo ma mh ml nf fo fh fs rs ic mn bh bo ya np pa u.2.2 u.2.1)) (va_A (wMd cI cJ cZ h0 h1 h2 h3 h4 h5 h6 h7 h8 h9 h10 h11 h12 h13 h14 h15 h16 h17 h18 h19 h20 h21 h22 h23 th no ca ba nl xa sa da la ra fa ta ua uh uo ma mh ml nf fo fh fs rs ic mn bh bo ya np pa nc cp) sz)) 0 0 (va_A (wMd cI cJ cZ h0 h1 h2 h3 h4 h5 h6 h7 h8 h9 h10 h11 h12 h13 h14 h15 h16 h17 h18 h19 h20 h21 h22 h23 th no ca ba nl xa sa da la ra fa ta ua uh uo ma mh ml nf fo fh fs rs ic mn bh bo ya np pa nc cp) sz) := by
  refine Met.ofW (cc := prog_10_method_35_code) (maxL := 9) (ret := (some .int)) (by decide) rfl ?_
  intro p e s m args below meth c s₁ B hml hv
  obtain ⟨rfl, hsz, hP, hK, hD0⟩ := hv
  have hx := B.exec
  have hb := B.bytes
  have hr := B.returns
  have hts0 := atoms_spec (ws := (.code ⟨"LightDosesModel", "rotate", "(I)I"⟩ prog_10_method_35_code 9 (some .int) :: TG)) B.pre
  have hts : ∀ w ∈ TG, w.before _ s = true := fun w h => hts0 w (List.mem_cons_of_mem _ h)
  have hown : s.vm.findClass "LightDosesModel" = some m.cls := findClass_of_methodNamed B.named
  have hlocks := B.notSynchronized
  subst hsz
  have hD := hD0.self (sz := s.heap.size)
  generalize hAe : va_A (wMd cI cJ cZ h0 h1 h2 h3 h4 h5 h6 h7 h8 h9 h10 h11 h12 h13 h14 h15 h16 h17 h18 h19 h20 h21 h22 h23 th no ca ba nl xa sa da la ra fa ta ua uh uo ma mh ml nf fo fh fs rs ic mn bh bo ya np pa nc cp) s.heap.size = A at hD ⊢
  have hA : ∀ q : Nat, s.heap.size ≤ q → A q := fun q h => by rw [← hAe]; exact Or.inr h
  have hS : va_S A s.heap s.heap [] := va_S.rf
  have hP : va_P D vwCl (wMd cI cJ cZ h0 h1 h2 h3 h4 h5 h6 h7 h8 h9 h10 h11 h12 h13 h14 h15 h16 h17 h18 h19 h20 h21 h22 h23 th no ca ba nl xa sa da la ra fa ta ua uh uo ma mh ml nf fo fh fs rs ic mn bh bo ya np pa nc cp) s.heap := hP
  have hl := lv_entry ([Value.ref h0, Value.int (iI hrs)]) (n := 9) (Nat.le_of_ble_eq_true rfl)
  rw [lg_entry_eq]
  generalize (lg_sl ([Value.ref h0, Value.int (iI hrs)]) ++ List.replicate (9 - (lg_sl ([Value.ref h0, Value.int (iI hrs)])).length) Slot.unset).toArray = ls at hl ⊢
  have hl : lv_has ls 9 [(0, .ref h0), (1, .int (iI hrs))] := hl
  unfold vc_Md_rotate at v
  obtain ⟨H, hH⟩ : ∃ H, H = s.heap := ⟨_, rfl⟩
  obtain ⟨locs, hlc⟩ : ∃ L : List Loc, L = [] := ⟨_, rfl⟩
  rw [← hlc] at hS ⊢
  have hP : va_P D vwCl (wMd cI cJ cZ h0 h1 h2 h3 h4 h5 h6 h7 h8 h9 h10 h11 h12 h13 h14 h15 h16 h17 h18 h19 h20 h21 h22 h23 th no ca ba nl xa sa da la ra fa ta ua uh uo ma mh ml nf fo fh fs rs ic mn bh bo ya np pa nc cp) H := by rw [hH]; exact hP
  have hS : va_S A s.heap H locs := by rw [hH]; exact hS
  have hW0 : ∀ {X : Heap → Prop}, X H → X s.heap := fun h => by rw [← hH]; exact h
  refine hW0 (X := fun Z => W p l e _ s m _ below meth c Z locs 0 0 _ _) ?_
  refine lv_aload_n hx hb d_Md_rotate_0 rfl (lv_at hl 0 rfl) ?_
  refine lv_iload_n hx hb d_Md_rotate_1 rfl (lv_at hl 1 rfl) ?_
  refine nv_iconst (n := 1) hx hb d_Md_rotate_2 ?_
  refine nv_sipush (z := 30000) hx hb d_Md_rotate_3 (by decide) ?_
  obtain ⟨k1, v⟩ := v
  refine vp_callSi (nv_runS (wc := []) (As := [.int (iI hrs), .int (iI 1), .int (iI 30000)]) (rest := [.ref h0]) ⟨hx, hb, hml, hown, hts⟩ (m_Md_within l D cI cJ cO cZ hrs 1 30000 (fun z => (z = 1 ∧ (1 ≤ hrs ∧ hrs ≤ 30000)) ∨ (z = 0 ∧ ¬ (1 ≤ hrs ∧ hrs ≤ 30000))) (s_Md_within hrs 1 30000 k1 (by decide) (by decide))) (nv_cwS (n := 3) hts wd_809 wd_810 wd_10 wd_811 (by decide +kernel) ⟨Nat.le_of_ble_eq_true rfl, Nat.le_of_ble_eq_true rfl⟩) hK (hP.sub [] rfl) rfl hl.1 rfl (Nat.le_of_ble_eq_true rfl) d_Md_rotate_6 (Nat.le_of_ble_eq_true rfl) (Nat.le_of_ble_eq_true rfl)) (fun r hr => ?_)
  rcases hr with ⟨_, rfl, ⟨rfl, c2⟩ | ⟨rfl, c2⟩⟩
  · replace v := v.1 c2
    refine nv_iconst (n := 1) hx hb d_Md_rotate_9 ?_
    refine nv_iconst (n := 1) hx hb d_Md_rotate_10 ?_
    have hPc := hP.sub (ws' := (wMd cI cJ cZ h0 h1 h2 h3 h4 h5 h6 h7 h8 h9 h10 h11 h12 h13 h14 h15 h16 h17 h18 h19 h20 h21 h22 h23 th no ca ba nl xa sa da la ra fa ta ua uh uo ma mh ml nf fo fh fs rs ic mn bh bo ya np pa nc cp)) [0, 1, 2, 3, 4, 5, 6, 7, 8, 9, 10, 11, 12, 13, 14, 15, 16, 17, 18, 19, 20, 21, 22, 23] rfl
    have hDc := hD.sub (ws' := (wMd cI cJ cZ h0 h1 h2 h3 h4 h5 h6 h7 h8 h9 h10 h11 h12 h13 h14 h15 h16 h17 h18 h19 h20 h21 h22 h23 th no ca ba nl xa sa da la ra fa ta ua uh uo ma mh ml nf fo fh fs rs ic mn bh bo ya np pa nc cp)) [0, 1, 2, 3, 4, 5, 6, 7, 8, 9, 10, 11, 12, 13, 14, 15, 16, 17, 18, 19, 20, 21, 22, 23] (by decide) rfl
    have hFc := va_free (wc := (wMd cI cJ cZ h0 h1 h2 h3 h4 h5 h6 h7 h8 h9 h10 h11 h12 h13 h14 h15 h16 h17 h18 h19 h20 h21 h22 h23 th no ca ba nl xa sa da la ra fa ta ua uh uo ma mh ml nf fo fh fs rs ic mn bh bo ya np pa nc cp)) hD hS hA [0, 1, 2, 3, 4, 5, 6, 7, 8, 9, 10, 11, 12, 13, 14, 15, 16, 17, 18, 19, 20, 21, 22, 23] rfl
    refine va_calli (va_runV (As := [.int (iI 1), .int (iI 1), .int (iI 1)]) (rest := []) ⟨hx, hb, hml, hown, hts⟩ (m_Md_goes l D cI cJ cO cZ h0 h1 h2 h3 h4 h5 h6 h7 h8 h9 h10 h11 h12 h13 h14 h15 h16 h17 h18 h19 h20 h21 h22 h23 H.size th no ca ba nl xa sa da la ra fa ta ua uh uo ma mh ml nf fo fh fs rs ic mn bh bo ya np pa nc cp 1 1 1 (fun z t => z = 1 ∧ t = 0) (s_Md_goes_111 th no ca ba nl xa sa da la ra fa ta ua uh uo ma mh ml nf fo fh fs rs ic mn bh bo ya np pa nc cp)) (nv_cwV (n := 3) hts wd_812 wd_814 sl_17 wd_10 wd_815 (by decide +kernel) ⟨Nat.le_of_ble_eq_true rfl, Nat.le_of_ble_eq_true rfl⟩) ⟨blW, va_recv hK hPc (ci := 8) (q0 := 0) rfl rfl, fun U hU hW => ⟨rfl, by rw [hU], by rw [hU]; exact hPc, va_K.moved hW.alike hK, hDc.weaken (fun _ _ _ _ => trivial)⟩⟩ rfl rfl hl.1 rfl (lv_room (Nat.le_of_ble_eq_true rfl)) d_Md_rotate_11 ⟨Nat.le_of_ble_eq_true rfl, Nat.le_of_ble_eq_true rfl⟩) hS (fun q _ h => hFc q h) hFc (fun r u t H1 locs ht hvm hw hB hz1 hk1 hS => ?_)
    obtain ⟨hP1, hK1, hD1⟩ := hB
    rw [ht] at hP1
    obtain ⟨_, rfl, rfl, rfl⟩ := hw
    obtain ⟨hP, hD⟩ := va_join (wr := []) (w1 := (wMd cI cJ cZ h0 h1 h2 h3 h4 h5 h6 h7 h8 h9 h10 h11 h12 h13 h14 h15 h16 h17 h18 h19 h20 h21 h22 h23 0 no ca ba nl xa sa da la ra fa ta ua uh uo ma mh ml nf fo fh fs rs ic mn bh bo ya np pa nc cp)) hP hD [0, 1, 2, 3, 4, 5, 6, 7, 8, 9, 10, 11, 12, 13, 14, 15, 16, 17, 18, 19, 20, 21, 22, 23] [] rfl rfl (by decide) (by decide) hk1 hFc hP1 hD1
    generalize H1 = H at hP hS ⊢
    have hP : va_P D vwCl (wMd cI cJ cZ h0 h1 h2 h3 h4 h5 h6 h7 h8 h9 h10 h11 h12 h13 h14 h15 h16 h17 h18 h19 h20 h21 h22 h23 0 no ca ba nl xa sa da la ra fa ta ua uh uo ma mh ml nf fo fh fs rs ic mn bh bo ya np pa nc cp) H := hP
    have hD : va_D A (wMd cI cJ cZ h0 h1 h2 h3 h4 h5 h6 h7 h8 h9 h10 h11 h12 h13 h14 h15 h16 h17 h18 h19 h20 h21 h22 h23 0 no ca ba nl xa sa da la ra fa ta ua uh uo ma mh ml nf fo fh fs rs ic mn bh bo ya np pa nc cp) := hD
    refine W.widen (k := 0) (n := 0) (Nat.le_of_ble_eq_true rfl) (Nat.le_of_ble_eq_true rfl) ?_
    refine nv_if_ne (tgt := 19) hx hb d_Md_rotate_14 (by decide) (by decide) (fun _ => ?_) (fun c3 => absurd c3 (by decide))
    refine nv_iconst (n := 0) hx hb d_Md_rotate_19 ?_
    refine lv_istore_n (lv' := [(2, .int (iI 0)), (0, .ref h0), (1, .int (iI hrs))]) hx hb d_Md_rotate_20 rfl hl (by decide) rfl (fun ls hl => ?_)
    refine nv_bipush (z := 99) hx hb d_Md_rotate_21 (by decide) ?_
    refine lv_istore_n (lv' := [(3, .int (iI 99)), (2, .int (iI 0)), (0, .ref h0), (1, .int (iI hrs))]) hx hb d_Md_rotate_23 rfl hl (by decide) rfl (fun ls hl => ?_)
    refine nv_iconst (n := 1) hx hb d_Md_rotate_24 ?_
    refine lv_istore (lv' := [(4, .int (iI 1)), (3, .int (iI 99)), (2, .int (iI 0)), (0, .ref h0), (1, .int (iI hrs))]) hx hb d_Md_rotate_25 hl (by decide) rfl (fun ls hl => ?_)
    obtain ⟨I4, μ5, v68, v69⟩ := v
    have L70 : ∀ (N : Nat) (best : Int) (least : Int) (set_ : Int) (H : Heap) (locs : List Loc) (ls : Array Slot), μ5 best least set_ < N → I4 best least set_ → va_P D vwCl (wMd cI cJ cZ h0 h1 h2 h3 h4 h5 h6 h7 h8 h9 h10 h11 h12 h13 h14 h15 h16 h17 h18 h19 h20 h21 h22 h23 0 no ca ba nl xa sa da la ra fa ta ua uh uo ma mh ml nf fo fh fs rs ic mn bh bo ya np pa nc cp) H → va_D A (wMd cI cJ cZ h0 h1 h2 h3 h4 h5 h6 h7 h8 h9 h10 h11 h12 h13 h14 h15 h16 h17 h18 h19 h20 h21 h22 h23 0 no ca ba nl xa sa da la ra fa ta ua uh uo ma mh ml nf fo fh fs rs ic mn bh bo ya np pa nc cp) → va_S A s.heap H locs → lv_has ls 9 [(0, .ref h0), (1, .int (iI hrs)), (2, .int (iI best)), (3, .int (iI least)), (4, .int (iI set_))] → W p l e (headSpec (.code ⟨"LightDosesModel", "rotate", "(I)I"⟩ prog_10_method_35_code 9 (some .int) :: TG) { frames := 1, cells := 0, slots := 0, locals := 23 }).room s m ([Value.ref h0, Value.int (iI hrs)] : List Value).toArray below meth c H locs 0 0 (MQ below (va_Qi (fun (r : Int32) (u : Int × (Nat → Int) × Int) => ∃ z : Int, r = iI z ∧ post z u.1 u.2.1 u.2.2) (fun u t => va_P D vwCl (wMd cI cJ cZ h0 h1 h2 h3 h4 h5 h6 h7 h8 h9 h10 h11 h12 h13 h14 h15 h16 h17 h18 h19 h20 h21 h22 h23 u.1 no ca ba nl xa sa da la ra fa ta ua uh uo ma mh ml nf fo fh fs rs ic mn bh bo ya np pa u.2.2 u.2.1) t.heap ∧ va_K D vwCl (tyx cI cJ cO cZ) t ∧ va_D A (wMd cI cJ cZ h0 h1 h2 h3 h4 h5 h6 h7 h8 h9 h10 h11 h12 h13 h14 h15 h16 h17 h18 h19 h20 h21 h22 h23 u.1 no ca ba nl xa sa da la ra fa ta ua uh uo ma mh ml nf fo fh fs rs ic mn bh bo ya np pa u.2.2 u.2.1)) A) ([Value.ref h0, Value.int (iI hrs)] : List Value).toArray s 0 0 A) (F0 m 27 ls []) := by
      intro N
      induction N with
      | zero => intro best least set_ H locs ls hN; exact absurd hN (Nat.not_lt_zero _)
      | succ N ih6 =>
        intro best least set_ H locs ls hN7 hI hP hD hS hl
        have v := v69 best least set_ hI
        refine lv_iload hx hb d_Md_rotate_27 (lv_at hl 4 rfl) ?_
        refine nv_sipush (z := 4096) hx hb d_Md_rotate_29 (by decide) ?_
        obtain ⟨k8, v⟩ := v
        refine nv_icmp_ge (tgt := 201) hx hb d_Md_rotate_32 (by decide) k8 (by decide) (fun c9 => ?_) (fun c9 => ?_)
        · replace v := v.1 c9
          refine lv_iload_n hx hb d_Md_rotate_201 rfl (lv_at hl 3 rfl) ?_
          refine nv_bipush (z := 12) hx hb d_Md_rotate_202 (by decide) ?_
          obtain ⟨k10, v⟩ := v
          refine nv_icmp_le (tgt := 209) hx hb d_Md_rotate_204 (by decide) k10 (by decide) (fun c11 => ?_) (fun c11 => ?_)
          · replace v := v.1 c11
            refine lv_aload_n hx hb d_Md_rotate_209 rfl (lv_at hl 0 rfl) ?_
            refine nv_iconst (n := 0) hx hb d_Md_rotate_210 ?_
            refine va_put (D := D) (ci := 8) (v := .int (iI 0)) (ty := .int) (C := "LightDosesModel") (T := T_Md) (N := 32) hx hb hts in_Md t_Md tok_Md n_Md hown hK hP hD hS 0 rfl rfl 30 (by decide) (hts _ wd_733) (fun _ h9 => h9) rfl (by decide +kernel) rfl rfl (Nat.le_of_ble_eq_true rfl) d_Md_rotate_211 (fun H locs hP hD hS => ?_)
            have hP : va_P D vwCl (wMd cI cJ cZ h0 h1 h2 h3 h4 h5 h6 h7 h8 h9 h10 h11 h12 h13 h14 h15 h16 h17 h18 h19 h20 h21 h22 h23 0 no ca ba nl xa sa da la ra fa ta ua uh uo ma mh ml nf fo fh fs rs ic mn bh bo ya np pa 0 cp) H := hP
            have hD : va_D A (wMd cI cJ cZ h0 h1 h2 h3 h4 h5 h6 h7 h8 h9 h10 h11 h12 h13 h14 h15 h16 h17 h18 h19 h20 h21 h22 h23 0 no ca ba nl xa sa da la ra fa ta ua uh uo ma mh ml nf fo fh fs rs ic mn bh bo ya np pa 0 cp) := hD
            refine nv_iconst (n := 0) hx hb d_Md_rotate_214 ?_
            refine lv_istore (lv' := [(4, .int (iI 0)), (0, .ref h0), (1, .int (iI hrs)), (2, .int (iI best)), (3, .int (iI least))]) hx hb d_Md_rotate_215 hl (by decide) rfl (fun ls hl => ?_)
            obtain ⟨I12, μ13, v21, v22⟩ := v
            have L23 : ∀ (N : Nat) (p_ : Int) (gc : Nat → Int) (gn : Int) (H : Heap) (locs : List Loc) (ls : Array Slot), μ13 p_ gc gn < N → I12 p_ gc gn → va_P D vwCl (wMd cI cJ cZ h0 h1 h2 h3 h4 h5 h6 h7 h8 h9 h10 h11 h12 h13 h14 h15 h16 h17 h18 h19 h20 h21 h22 h23 0 no ca ba nl xa sa da la ra fa ta ua uh uo ma mh ml nf fo fh fs rs ic mn bh bo ya np pa gn gc) H → va_D A (wMd cI cJ cZ h0 h1 h2 h3 h4 h5 h6 h7 h8 h9 h10 h11 h12 h13 h14 h15 h16 h17 h18 h19 h20 h21 h22 h23 0 no ca ba nl xa sa da la ra fa ta ua uh uo ma mh ml nf fo fh fs rs ic mn bh bo ya np pa gn gc) → va_S A s.heap H locs → lv_has ls 9 [(0, .ref h0), (1, .int (iI hrs)), (2, .int (iI best)), (3, .int (iI least)), (4, .int (iI p_))] → W p l e (headSpec (.code ⟨"LightDosesModel", "rotate", "(I)I"⟩ prog_10_method_35_code 9 (some .int) :: TG) { frames := 1, cells := 0, slots := 0, locals := 23 }).room s m ([Value.ref h0, Value.int (iI hrs)] : List Value).toArray below meth c H locs 0 0 (MQ below (va_Qi (fun (r : Int32) (u : Int × (Nat → Int) × Int) => ∃ z : Int, r = iI z ∧ post z u.1 u.2.1 u.2.2) (fun u t => va_P D vwCl (wMd cI cJ cZ h0 h1 h2 h3 h4 h5 h6 h7 h8 h9 h10 h11 h12 h13 h14 h15 h16 h17 h18 h19 h20 h21 h22 h23 u.1 no ca ba nl xa sa da la ra fa ta ua uh uo ma mh ml nf fo fh fs rs ic mn bh bo ya np pa u.2.2 u.2.1) t.heap ∧ va_K D vwCl (tyx cI cJ cO cZ) t ∧ va_D A (wMd cI cJ cZ h0 h1 h2 h3 h4 h5 h6 h7 h8 h9 h10 h11 h12 h13 h14 h15 h16 h17 h18 h19 h20 h21 h22 h23 u.1 no ca ba nl xa sa da la ra fa ta ua uh uo ma mh ml nf fo fh fs rs ic mn bh bo ya np pa u.2.2 u.2.1)) A) ([Value.ref h0, Value.int (iI hrs)] : List Value).toArray s 0 0 A) (F0 m 217 ls []) := by
              intro N
              induction N with
              | zero => intro p_ gc gn H locs ls hN; exact absurd hN (Nat.not_lt_zero _)
              | succ N ih14 =>
                intro p_ gc gn H locs ls hN15 hI hP hD hS hl
                have v := v22 p_ gc gn hI
                refine lv_iload hx hb d_Md_rotate_217 (lv_at hl 4 rfl) ?_
                refine nv_bipush (z := 12) hx hb d_Md_rotate_219 (by decide) ?_
                obtain ⟨k16, v⟩ := v
                refine nv_icmp_ge (tgt := 261) hx hb d_Md_rotate_221 (by decide) k16 (by decide) (fun c17 => ?_) (fun c17 => ?_)
                · replace v := v.1 c17
                  refine lv_aload_n hx hb d_Md_rotate_261 rfl (lv_at hl 0 rfl) ?_
                  refine va_get (D := D) (ci := 8) (v := .int (iI gn)) (C := "LightDosesModel") (T := T_Md) (N := 32) hx hb hts in_Md hown hK hP 0 rfl rfl 30 (by decide) (hts _ wd_733) (fun _ h9 => h9) rfl d_Md_rotate_262 ?_
                  refine nv_iconst (n := 1) hx hb d_Md_rotate_265 ?_
                  refine nv_isub (z := gn - 1) hx hb d_Md_rotate_266 (by first | rfl | omega) ?_
                  have hP9 := hP.sub (ws' := (wMd cI cJ cZ h0 h1 h2 h3 h4 h5 h6 h7 h8 h9 h10 h11 h12 h13 h14 h15 h16 h17 h18 h19 h20 h21 h22 h23 0 no ca ba nl xa sa da la ra fa ta ua uh uo ma mh ml nf fo fh fs rs ic mn bh bo ya np pa gn gc)) [0, 1, 2, 3, 4, 5, 6, 7, 8, 9, 10, 11, 12, 13, 14, 15, 16, 17, 18, 19, 20, 21, 22, 23] rfl
                  have hD9 := hD.sub (ws' := (wMd cI cJ cZ h0 h1 h2 h3 h4 h5 h6 h7 h8 h9 h10 h11 h12 h13 h14 h15 h16 h17 h18 h19 h20 h21 h22 h23 0 no ca ba nl xa sa da la ra fa ta ua uh uo ma mh ml nf fo fh fs rs ic mn bh bo ya np pa gn gc)) [0, 1, 2, 3, 4, 5, 6, 7, 8, 9, 10, 11, 12, 13, 14, 15, 16, 17, 18, 19, 20, 21, 22, 23] (by decide) rfl
                  exact W.iret hx hb hr (fun t ht hW => ⟨⟨_, ((0), (gc), (gn)), rfl, ⟨_, rfl, v⟩, by rw [ht]; exact hP9, va_K.moved hW.alike hK, hD9⟩, hS.F ht⟩) hS.2.2 d_Md_rotate_267
                · replace v := v.2 c17
                  refine lv_iload_n hx hb d_Md_rotate_224 rfl (lv_at hl 2 rfl) ?_
                  refine lv_iload hx hb d_Md_rotate_225 (lv_at hl 4 rfl) ?_
                  refine nv_ishr hx hb d_Md_rotate_227 ?_
                  refine nv_iconst (n := 1) hx hb d_Md_rotate_228 ?_
                  refine nv_iand hx hb d_Md_rotate_229 ?_
                  refine nv_iconst (n := 1) hx hb d_Md_rotate_230 ?_
                  obtain ⟨k18, v⟩ := v
                  refine nv_icmp_ne (tgt := 255) hx hb d_Md_rotate_231 (by decide) k18 (by decide) (fun c19 => ?_) (fun c19 => ?_)
                  · replace v := v.1 c19
                    refine nv_iinc (k := 4) (z := p_ + 1) (lv' := [(4, .int (iI (p_ + 1))), (0, .ref h0), (1, .int (iI hrs)), (2, .int (iI best)), (3, .int (iI least))]) hx hb d_Md_rotate_255 hl rfl (by omega) (by decide) rfl (fun ls hl => ?_)
                    refine lv_goto (tgt := 217) hx hb d_Md_rotate_258 (by decide) ?_
                    exact ih14 (p_ + 1) gc gn H locs ls (Nat.lt_of_lt_of_le v.2 (Nat.le_of_lt_succ hN15)) v.1 hP hD hS (lv_sub hl [1, 2, 3, 4, 0] rfl)
                  · replace v := v.2 c19
                    refine lv_aload_n hx hb d_Md_rotate_234 rfl (lv_at hl 0 rfl) ?_
                    refine va_get (D := D) (ci := 8) (v := .ref h23) (C := "LightDosesModel") (T := T_Md) (N := 32) hx hb hts in_Md hown hK hP 0 rfl rfl 31 (by decide) (hts _ wd_734) (fun _ h9 => h9) rfl d_Md_rotate_235 ?_
                    refine lv_aload_n hx hb d_Md_rotate_238 rfl (lv_at hl 0 rfl) ?_
                    refine va_get (D := D) (ci := 8) (v := .int (iI gn)) (C := "LightDosesModel") (T := T_Md) (N := 32) hx hb hts in_Md hown hK hP 0 rfl rfl 30 (by decide) (hts _ wd_733) (fun _ h9 => h9) rfl d_Md_rotate_239 ?_
                    refine lv_iload hx hb d_Md_rotate_242 (lv_at hl 4 rfl) ?_
                    obtain ⟨k20, v⟩ := v
                    refine nv_iast (f := gc) hx hb hK hP hD hS 23 0 rfl rfl (gn).toNat (Int.toNat_of_nonneg k20.1).symm (by omega) (by decide) d_Md_rotate_244 (fun H locs hP hD hS => ?_)
                    have hP : va_P D vwCl (wMd cI cJ cZ h0 h1 h2 h3 h4 h5 h6 h7 h8 h9 h10 h11 h12 h13 h14 h15 h16 h17 h18 h19 h20 h21 h22 h23 0 no ca ba nl xa sa da la ra fa ta ua uh uo ma mh ml nf fo fh fs rs ic mn bh bo ya np pa gn (va_up gc (gn).toNat p_)) H := hP
                    have hD : va_D A (wMd cI cJ cZ h0 h1 h2 h3 h4 h5 h6 h7 h8 h9 h10 h11 h12 h13 h14 h15 h16 h17 h18 h19 h20 h21 h22 h23 0 no ca ba nl xa sa da la ra fa ta ua uh uo ma mh ml nf fo fh fs rs ic mn bh bo ya np pa gn (va_up gc (gn).toNat p_)) := hD
                    refine lv_aload_n hx hb d_Md_rotate_245 rfl (lv_at hl 0 rfl) ?_
                    refine lv_dup hx hb d_Md_rotate_246 rfl ?_
                    refine va_get (D := D) (ci := 8) (v := .int (iI gn)) (C := "LightDosesModel") (T := T_Md) (N := 32) hx hb hts in_Md hown hK hP 0 rfl rfl 30 (by decide) (hts _ wd_733) (fun _ h9 => h9) rfl d_Md_rotate_247 ?_
                    refine nv_iconst (n := 1) hx hb d_Md_rotate_250 ?_
                    refine nv_iadd (z := gn + 1) hx hb d_Md_rotate_251 (by first | rfl | omega) ?_
                    refine va_put (D := D) (ci := 8) (v := .int (iI (gn + 1))) (ty := .int) (C := "LightDosesModel") (T := T_Md) (N := 32) hx hb hts in_Md t_Md tok_Md n_Md hown hK hP hD hS 0 rfl rfl 30 (by decide) (hts _ wd_733) (fun _ h9 => h9) rfl (by decide +kernel) rfl rfl (Nat.le_of_ble_eq_true rfl) d_Md_rotate_252 (fun H locs hP hD hS => ?_)
                    have hP : va_P D vwCl (wMd cI cJ cZ h0 h1 h2 h3 h4 h5 h6 h7 h8 h9 h10 h11 h12 h13 h14 h15 h16 h17 h18 h19 h20 h21 h22 h23 0 no ca ba nl xa sa da la ra fa ta ua uh uo ma mh ml nf fo fh fs rs ic mn bh bo ya np pa (gn + 1) (va_up gc (gn).toNat p_)) H := hP
                    have hD : va_D A (wMd cI cJ cZ h0 h1 h2 h3 h4 h5 h6 h7 h8 h9 h10 h11 h12 h13 h14 h15 h16 h17 h18 h19 h20 h21 h22 h23 0 no ca ba nl xa sa da la ra fa ta ua uh uo ma mh ml nf fo fh fs rs ic mn bh bo ya np pa (gn + 1) (va_up gc (gn).toNat p_)) := hD
                    refine nv_iinc (k := 4) (z := p_ + 1) (lv' := [(4, .int (iI (p_ + 1))), (0, .ref h0), (1, .int (iI hrs)), (2, .int (iI best)), (3, .int (iI least))]) hx hb d_Md_rotate_255 hl rfl (by omega) (by decide) rfl (fun ls hl => ?_)
                    refine lv_goto (tgt := 217) hx hb d_Md_rotate_258 (by decide) ?_
                    exact ih14 (p_ + 1) (va_up gc (gn).toNat p_) (gn + 1) H locs ls (Nat.lt_of_lt_of_le v.2 (Nat.le_of_lt_succ hN15)) v.1 hP hD hS (lv_sub hl [1, 2, 3, 4, 0] rfl)
            exact L23 _ 0 cp 0 H locs ls (Nat.lt_succ_self _) v21 hP hD hS (lv_sub hl [1, 2, 3, 4, 0] rfl)
          · replace v := v.2 c11
            refine nv_iconst (n := (-1)) hx hb d_Md_rotate_207 ?_
            have hP9 := hP.sub (ws' := (wMd cI cJ cZ h0 h1 h2 h3 h4 h5 h6 h7 h8 h9 h10 h11 h12 h13 h14 h15 h16 h17 h18 h19 h20 h21 h22 h23 0 no ca ba nl xa sa da la ra fa ta ua uh uo ma mh ml nf fo fh fs rs ic mn bh bo ya np pa nc cp)) [0, 1, 2, 3, 4, 5, 6, 7, 8, 9, 10, 11, 12, 13, 14, 15, 16, 17, 18, 19, 20, 21, 22, 23] rfl
            have hD9 := hD.sub (ws' := (wMd cI cJ cZ h0 h1 h2 h3 h4 h5 h6 h7 h8 h9 h10 h11 h12 h13 h14 h15 h16 h17 h18 h19 h20 h21 h22 h23 0 no ca ba nl xa sa da la ra fa ta ua uh uo ma mh ml nf fo fh fs rs ic mn bh bo ya np pa nc cp)) [0, 1, 2, 3, 4, 5, 6, 7, 8, 9, 10, 11, 12, 13, 14, 15, 16, 17, 18, 19, 20, 21, 22, 23] (by decide) rfl
            exact W.iret hx hb hr (fun t ht hW => ⟨⟨_, ((0), (cp), (nc)), rfl, ⟨_, rfl, v⟩, by rw [ht]; exact hP9, va_K.moved hW.alike hK, hD9⟩, hS.F ht⟩) hS.2.2 d_Md_rotate_208
        · replace v := v.2 c9
          refine nv_iconst (n := 0) hx hb d_Md_rotate_35 ?_
          refine lv_istore (lv' := [(5, .int (iI 0)), (0, .ref h0), (1, .int (iI hrs)), (2, .int (iI best)), (3, .int (iI least)), (4, .int (iI set_))]) hx hb d_Md_rotate_36 hl (by decide) rfl (fun ls hl => ?_)
          refine nv_iconst (n := 0) hx hb d_Md_rotate_38 ?_
          refine lv_istore (lv' := [(6, .int (iI 0)), (5, .int (iI 0)), (0, .ref h0), (1, .int (iI hrs)), (2, .int (iI best)), (3, .int (iI least)), (4, .int (iI set_))]) hx hb d_Md_rotate_39 hl (by decide) rfl (fun ls hl => ?_)
          refine nv_iconst (n := 0) hx hb d_Md_rotate_41 ?_
          refine lv_istore (lv' := [(7, .int (iI 0)), (6, .int (iI 0)), (5, .int (iI 0)), (0, .ref h0), (1, .int (iI hrs)), (2, .int (iI best)), (3, .int (iI least)), (4, .int (iI set_))]) hx hb d_Md_rotate_42 hl (by decide) rfl (fun ls hl => ?_)
          obtain ⟨I24, μ25, v65, v66⟩ := v
          have L67 : ∀ (N : Nat) (size_ : Int) (all_ : Int) (p_ : Int) (H : Heap) (locs : List Loc) (ls : Array Slot), μ25 size_ all_ p_ < N → I24 size_ all_ p_ → va_P D vwCl (wMd cI cJ cZ h0 h1 h2 h3 h4 h5 h6 h7 h8 h9 h10 h11 h12 h13 h14 h15 h16 h17 h18 h19 h20 h21 h22 h23 0 no ca ba nl xa sa da la ra fa ta ua uh uo ma mh ml nf fo fh fs rs ic mn bh bo ya np pa nc cp) H → va_D A (wMd cI cJ cZ h0 h1 h2 h3 h4 h5 h6 h7 h8 h9 h10 h11 h12 h13 h14 h15 h16 h17 h18 h19 h20 h21 h22 h23 0 no ca ba nl xa sa da la ra fa ta ua uh uo ma mh ml nf fo fh fs rs ic mn bh bo ya np pa nc cp) → va_S A s.heap H locs → lv_has ls 9 [(0, .ref h0), (1, .int (iI hrs)), (2, .int (iI best)), (3, .int (iI least)), (4, .int (iI set_)), (5, .int (iI size_)), (6, .int (iI all_)), (7, .int (iI p_))] → W p l e (headSpec (.code ⟨"LightDosesModel", "rotate", "(I)I"⟩ prog_10_method_35_code 9 (some .int) :: TG) { frames := 1, cells := 0, slots := 0, locals := 23 }).room s m ([Value.ref h0, Value.int (iI hrs)] : List Value).toArray below meth c H locs 0 0 (MQ below (va_Qi (fun (r : Int32) (u : Int × (Nat → Int) × Int) => ∃ z : Int, r = iI z ∧ post z u.1 u.2.1 u.2.2) (fun u t => va_P D vwCl (wMd cI cJ cZ h0 h1 h2 h3 h4 h5 h6 h7 h8 h9 h10 h11 h12 h13 h14 h15 h16 h17 h18 h19 h20 h21 h22 h23 u.1 no ca ba nl xa sa da la ra fa ta ua uh uo ma mh ml nf fo fh fs rs ic mn bh bo ya np pa u.2.2 u.2.1) t.heap ∧ va_K D vwCl (tyx cI cJ cO cZ) t ∧ va_D A (wMd cI cJ cZ h0 h1 h2 h3 h4 h5 h6 h7 h8 h9 h10 h11 h12 h13 h14 h15 h16 h17 h18 h19 h20 h21 h22 h23 u.1 no ca ba nl xa sa da la ra fa ta ua uh uo ma mh ml nf fo fh fs rs ic mn bh bo ya np pa u.2.2 u.2.1)) A) ([Value.ref h0, Value.int (iI hrs)] : List Value).toArray s 0 0 A) (F0 m 44 ls []) := by
            intro N
            induction N with
            | zero => intro size_ all_ p_ H locs ls hN; exact absurd hN (Nat.not_lt_zero _)
            | succ N ih26 =>
              intro size_ all_ p_ H locs ls hN27 hI hP hD hS hl
              have v := v66 size_ all_ p_ hI
              refine lv_iload hx hb d_Md_rotate_44 (lv_at hl 7 rfl) ?_
              refine nv_bipush (z := 12) hx hb d_Md_rotate_46 (by decide) ?_
              obtain ⟨k28, v⟩ := v
              refine nv_icmp_ge (tgt := 130) hx hb d_Md_rotate_48 (by decide) k28 (by decide) (fun c29 => ?_) (fun c29 => ?_)
              · replace v := v.1 c29
                refine lv_iload hx hb d_Md_rotate_130 (lv_at hl 6 rfl) ?_
                refine lv_iload_n hx hb d_Md_rotate_132 rfl (lv_at hl 1 rfl) ?_
                obtain ⟨k30, v⟩ := v
                refine nv_icmp_lt (tgt := 168) hx hb d_Md_rotate_133 (by decide) k30 k1 (fun c31 => ?_) (fun c31 => ?_)
                · replace v := v.1 c31
                  refine nv_iconst (n := 0) hx hb d_Md_rotate_168 ?_
                  refine lv_istore (lv' := [(7, .int (iI 0)), (0, .ref h0), (1, .int (iI hrs)), (2, .int (iI best)), (3, .int (iI least)), (4, .int (iI set_)), (5, .int (iI size_)), (6, .int (iI all_))]) hx hb d_Md_rotate_169 hl (by decide) rfl (fun ls hl => ?_)
                  refine lv_iload hx hb d_Md_rotate_171 (lv_at hl 0 rfl) ?_
                  refine nv_if_eq (tgt := 181) hx hb d_Md_rotate_173 (by decide) (by decide) (fun _ => ?_) (fun c32 => absurd c32 (by decide))
                  refine lv_iload_n hx hb d_Md_rotate_181 rfl (lv_at hl 4 rfl) ?_
                  refine lv_istore_n (lv' := [(3, .int (iI least)), (7, .int (iI 0)), (0, .ref h0), (1, .int (iI hrs)), (2, .int (iI best)), (4, .int (iI set_)), (5, .int (iI size_)), (6, .int (iI all_))]) hx hb d_Md_rotate_182 rfl hl (by decide) rfl (fun ls hl => ?_)
                  refine lv_iload hx hb d_Md_rotate_183 (lv_at hl 1 rfl) ?_
                  refine nv_if_eq (tgt := 193) hx hb d_Md_rotate_185 (by decide) (by decide) (fun _ => ?_) (fun c33 => absurd c33 (by decide))
                  refine lv_iload_n hx hb d_Md_rotate_193 rfl (lv_at hl 4 rfl) ?_
                  refine lv_istore_n (lv' := [(2, .int (iI best)), (3, .int (iI least)), (7, .int (iI 0)), (0, .ref h0), (1, .int (iI hrs)), (4, .int (iI set_)), (5, .int (iI size_)), (6, .int (iI all_))]) hx hb d_Md_rotate_194 rfl hl (by decide) rfl (fun ls hl => ?_)
                  refine nv_iinc (k := 5) (z := set_ + 1) (lv' := [(4, .int (iI (set_ + 1))), (2, .int (iI best)), (3, .int (iI least)), (7, .int (iI 0)), (0, .ref h0), (1, .int (iI hrs)), (5, .int (iI size_)), (6, .int (iI all_))]) hx hb d_Md_rotate_195 hl rfl (by omega) (by decide) rfl (fun ls hl => ?_)
                  refine lv_goto (tgt := 27) hx hb d_Md_rotate_198 (by decide) ?_
                  exact ih6 best least (set_ + 1) H locs ls (Nat.lt_of_lt_of_le v.2 (Nat.le_of_lt_succ hN7)) v.1 hP hD hS (lv_sub hl [4, 5, 1, 2, 0] rfl)
                · replace v := v.2 c31
                  refine lv_iload hx hb d_Md_rotate_136 (lv_at hl 5 rfl) ?_
                  refine lv_iload_n hx hb d_Md_rotate_138 rfl (lv_at hl 3 rfl) ?_
                  obtain ⟨k34, v⟩ := v
                  obtain ⟨k35, v⟩ := v
                  refine nv_icmp_lt (tgt := 164) hx hb d_Md_rotate_139 (by decide) k34 k35 (fun c36 => ?_) (fun c36 => ?_)
                  · replace v := v.1 c36
                    refine nv_iconst (n := 1) hx hb d_Md_rotate_164 ?_
                    refine lv_goto (tgt := 169) hx hb d_Md_rotate_165 (by decide) ?_
                    refine lv_istore (lv' := [(7, .int (iI 1)), (0, .ref h0), (1, .int (iI hrs)), (2, .int (iI best)), (3, .int (iI least)), (4, .int (iI set_)), (5, .int (iI size_)), (6, .int (iI all_))]) hx hb d_Md_rotate_169 hl (by decide) rfl (fun ls hl => ?_)
                    refine lv_iload hx hb d_Md_rotate_171 (lv_at hl 0 rfl) ?_
                    refine nv_if_eq (tgt := 181) hx hb d_Md_rotate_173 (by decide) (by decide) (fun c37 => absurd c37 (by decide)) (fun _ => ?_)
                    refine lv_iload hx hb d_Md_rotate_176 (lv_at hl 6 rfl) ?_
                    refine lv_goto (tgt := 182) hx hb d_Md_rotate_178 (by decide) ?_
                    refine lv_istore_n (lv' := [(3, .int (iI size_)), (7, .int (iI 1)), (0, .ref h0), (1, .int (iI hrs)), (2, .int (iI best)), (4, .int (iI set_)), (5, .int (iI size_)), (6, .int (iI all_))]) hx hb d_Md_rotate_182 rfl hl (by decide) rfl (fun ls hl => ?_)
                    refine lv_iload hx hb d_Md_rotate_183 (lv_at hl 1 rfl) ?_
                    refine nv_if_eq (tgt := 193) hx hb d_Md_rotate_185 (by decide) (by decide) (fun c38 => absurd c38 (by decide)) (fun _ => ?_)
                    refine lv_iload hx hb d_Md_rotate_188 (lv_at hl 5 rfl) ?_
                    refine lv_goto (tgt := 194) hx hb d_Md_rotate_190 (by decide) ?_
                    refine lv_istore_n (lv' := [(2, .int (iI set_)), (3, .int (iI size_)), (7, .int (iI 1)), (0, .ref h0), (1, .int (iI hrs)), (4, .int (iI set_)), (5, .int (iI size_)), (6, .int (iI all_))]) hx hb d_Md_rotate_194 rfl hl (by decide) rfl (fun ls hl => ?_)
                    refine nv_iinc (k := 5) (z := set_ + 1) (lv' := [(4, .int (iI (set_ + 1))), (2, .int (iI set_)), (3, .int (iI size_)), (7, .int (iI 1)), (0, .ref h0), (1, .int (iI hrs)), (5, .int (iI size_)), (6, .int (iI all_))]) hx hb d_Md_rotate_195 hl rfl (by omega) (by decide) rfl (fun ls hl => ?_)
                    refine lv_goto (tgt := 27) hx hb d_Md_rotate_198 (by decide) ?_
                    exact ih6 set_ size_ (set_ + 1) H locs ls (Nat.lt_of_lt_of_le v.2 (Nat.le_of_lt_succ hN7)) v.1 hP hD hS (lv_sub hl [4, 5, 1, 2, 0] rfl)
                  · replace v := v.2 c36
                    refine lv_iload hx hb d_Md_rotate_142 (lv_at hl 5 rfl) ?_
                    refine lv_iload_n hx hb d_Md_rotate_144 rfl (lv_at hl 3 rfl) ?_
                    refine nv_icmp_ne (tgt := 168) hx hb d_Md_rotate_145 (by decide) k34 k35 (fun c39 => ?_) (fun c39 => ?_)
                    · replace v := v.1 c39
                      refine nv_iconst (n := 0) hx hb d_Md_rotate_168 ?_
                      refine lv_istore (lv' := [(7, .int (iI 0)), (0, .ref h0), (1, .int (iI hrs)), (2, .int (iI best)), (3, .int (iI least)), (4, .int (iI set_)), (5, .int (iI size_)), (6, .int (iI all_))]) hx hb d_Md_rotate_169 hl (by decide) rfl (fun ls hl => ?_)
                      refine lv_iload hx hb d_Md_rotate_171 (lv_at hl 0 rfl) ?_
                      refine nv_if_eq (tgt := 181) hx hb d_Md_rotate_173 (by decide) (by decide) (fun _ => ?_) (fun c40 => absurd c40 (by decide))
                      refine lv_iload_n hx hb d_Md_rotate_181 rfl (lv_at hl 4 rfl) ?_
                      refine lv_istore_n (lv' := [(3, .int (iI least)), (7, .int (iI 0)), (0, .ref h0), (1, .int (iI hrs)), (2, .int (iI best)), (4, .int (iI set_)), (5, .int (iI size_)), (6, .int (iI all_))]) hx hb d_Md_rotate_182 rfl hl (by decide) rfl (fun ls hl => ?_)
                      refine lv_iload hx hb d_Md_rotate_183 (lv_at hl 1 rfl) ?_
                      refine nv_if_eq (tgt := 193) hx hb d_Md_rotate_185 (by decide) (by decide) (fun _ => ?_) (fun c41 => absurd c41 (by decide))
                      refine lv_iload_n hx hb d_Md_rotate_193 rfl (lv_at hl 4 rfl) ?_
                      refine lv_istore_n (lv' := [(2, .int (iI best)), (3, .int (iI least)), (7, .int (iI 0)), (0, .ref h0), (1, .int (iI hrs)), (4, .int (iI set_)), (5, .int (iI size_)), (6, .int (iI all_))]) hx hb d_Md_rotate_194 rfl hl (by decide) rfl (fun ls hl => ?_)
                      refine nv_iinc (k := 5) (z := set_ + 1) (lv' := [(4, .int (iI (set_ + 1))), (2, .int (iI best)), (3, .int (iI least)), (7, .int (iI 0)), (0, .ref h0), (1, .int (iI hrs)), (5, .int (iI size_)), (6, .int (iI all_))]) hx hb d_Md_rotate_195 hl rfl (by omega) (by decide) rfl (fun ls hl => ?_)
                      refine lv_goto (tgt := 27) hx hb d_Md_rotate_198 (by decide) ?_
                      exact ih6 best least (set_ + 1) H locs ls (Nat.lt_of_lt_of_le v.2 (Nat.le_of_lt_succ hN7)) v.1 hP hD hS (lv_sub hl [4, 5, 1, 2, 0] rfl)
                    · replace v := v.2 c39
                      refine lv_iload hx hb d_Md_rotate_148 (lv_at hl 5 rfl) ?_
                      refine nv_bipush (z := 99) hx hb d_Md_rotate_150 (by decide) ?_
                      refine nv_icmp_ge (tgt := 168) hx hb d_Md_rotate_152 (by decide) k34 (by decide) (fun c42 => ?_) (fun c42 => ?_)
                      · replace v := v.1 c42
                        refine nv_iconst (n := 0) hx hb d_Md_rotate_168 ?_
                        refine lv_istore (lv' := [(7, .int (iI 0)), (0, .ref h0), (1, .int (iI hrs)), (2, .int (iI best)), (3, .int (iI least)), (4, .int (iI set_)), (5, .int (iI size_)), (6, .int (iI all_))]) hx hb d_Md_rotate_169 hl (by decide) rfl (fun ls hl => ?_)
                        refine lv_iload hx hb d_Md_rotate_171 (lv_at hl 0 rfl) ?_
                        refine nv_if_eq (tgt := 181) hx hb d_Md_rotate_173 (by decide) (by decide) (fun _ => ?_) (fun c43 => absurd c43 (by decide))
                        refine lv_iload_n hx hb d_Md_rotate_181 rfl (lv_at hl 4 rfl) ?_
                        refine lv_istore_n (lv' := [(3, .int (iI least)), (7, .int (iI 0)), (0, .ref h0), (1, .int (iI hrs)), (2, .int (iI best)), (4, .int (iI set_)), (5, .int (iI size_)), (6, .int (iI all_))]) hx hb d_Md_rotate_182 rfl hl (by decide) rfl (fun ls hl => ?_)
                        refine lv_iload hx hb d_Md_rotate_183 (lv_at hl 1 rfl) ?_
                        refine nv_if_eq (tgt := 193) hx hb d_Md_rotate_185 (by decide) (by decide) (fun _ => ?_) (fun c44 => absurd c44 (by decide))
                        refine lv_iload_n hx hb d_Md_rotate_193 rfl (lv_at hl 4 rfl) ?_
                        refine lv_istore_n (lv' := [(2, .int (iI best)), (3, .int (iI least)), (7, .int (iI 0)), (0, .ref h0), (1, .int (iI hrs)), (4, .int (iI set_)), (5, .int (iI size_)), (6, .int (iI all_))]) hx hb d_Md_rotate_194 rfl hl (by decide) rfl (fun ls hl => ?_)
                        refine nv_iinc (k := 5) (z := set_ + 1) (lv' := [(4, .int (iI (set_ + 1))), (2, .int (iI best)), (3, .int (iI least)), (7, .int (iI 0)), (0, .ref h0), (1, .int (iI hrs)), (5, .int (iI size_)), (6, .int (iI all_))]) hx hb d_Md_rotate_195 hl rfl (by omega) (by decide) rfl (fun ls hl => ?_)
                        refine lv_goto (tgt := 27) hx hb d_Md_rotate_198 (by decide) ?_
                        exact ih6 best least (set_ + 1) H locs ls (Nat.lt_of_lt_of_le v.2 (Nat.le_of_lt_succ hN7)) v.1 hP hD hS (lv_sub hl [4, 5, 1, 2, 0] rfl)
                      · replace v := v.2 c42
                        refine lv_iload hx hb d_Md_rotate_155 (lv_at hl 4 rfl) ?_
                        refine lv_iload_n hx hb d_Md_rotate_157 rfl (lv_at hl 2 rfl) ?_
                        obtain ⟨P45, q47, v⟩ := v
                        refine vp_callSi (nv_runS (wc := []) (As := [.int (iI set_), .int (iI best)]) (rest := []) ⟨hx, hb, hml, hown, hts⟩ (m_Md_lower l D cI cJ cO cZ set_ best P45 q47) (nv_cwS (n := 2) hts wd_935 wd_936 wd_10 wd_937 (by decide +kernel) ⟨Nat.le_of_ble_eq_true rfl, Nat.le_of_ble_eq_true rfl⟩) hK (hP.sub [] rfl) rfl hl.1 rfl (Nat.le_of_ble_eq_true rfl) d_Md_rotate_158 (Nat.le_of_ble_eq_true rfl) (Nat.le_of_ble_eq_true rfl)) (fun r hr => ?_)
                        obtain ⟨z46, rfl, hz⟩ := hr
                        replace v := v z46 hz
                        obtain ⟨k48, v⟩ := v
                        refine nv_if_eq (tgt := 168) hx hb d_Md_rotate_161 (by decide) k48 (fun c49 => ?_) (fun c49 => ?_)
                        · replace v := v.1 c49
                          refine nv_iconst (n := 0) hx hb d_Md_rotate_168 ?_
                          refine lv_istore (lv' := [(7, .int (iI 0)), (0, .ref h0), (1, .int (iI hrs)), (2, .int (iI best)), (3, .int (iI least)), (4, .int (iI set_)), (5, .int (iI size_)), (6, .int (iI all_))]) hx hb d_Md_rotate_169 hl (by decide) rfl (fun ls hl => ?_)
                          refine lv_iload hx hb d_Md_rotate_171 (lv_at hl 0 rfl) ?_
                          refine nv_if_eq (tgt := 181) hx hb d_Md_rotate_173 (by decide) (by decide) (fun _ => ?_) (fun c50 => absurd c50 (by decide))
                          refine lv_iload_n hx hb d_Md_rotate_181 rfl (lv_at hl 4 rfl) ?_
                          refine lv_istore_n (lv' := [(3, .int (iI least)), (7, .int (iI 0)), (0, .ref h0), (1, .int (iI hrs)), (2, .int (iI best)), (4, .int (iI set_)), (5, .int (iI size_)), (6, .int (iI all_))]) hx hb d_Md_rotate_182 rfl hl (by decide) rfl (fun ls hl => ?_)
                          refine lv_iload hx hb d_Md_rotate_183 (lv_at hl 1 rfl) ?_
                          refine nv_if_eq (tgt := 193) hx hb d_Md_rotate_185 (by decide) (by decide) (fun _ => ?_) (fun c51 => absurd c51 (by decide))
                          refine lv_iload_n hx hb d_Md_rotate_193 rfl (lv_at hl 4 rfl) ?_
                          refine lv_istore_n (lv' := [(2, .int (iI best)), (3, .int (iI least)), (7, .int (iI 0)), (0, .ref h0), (1, .int (iI hrs)), (4, .int (iI set_)), (5, .int (iI size_)), (6, .int (iI all_))]) hx hb d_Md_rotate_194 rfl hl (by decide) rfl (fun ls hl => ?_)
                          refine nv_iinc (k := 5) (z := set_ + 1) (lv' := [(4, .int (iI (set_ + 1))), (2, .int (iI best)), (3, .int (iI least)), (7, .int (iI 0)), (0, .ref h0), (1, .int (iI hrs)), (5, .int (iI size_)), (6, .int (iI all_))]) hx hb d_Md_rotate_195 hl rfl (by omega) (by decide) rfl (fun ls hl => ?_)
                          refine lv_goto (tgt := 27) hx hb d_Md_rotate_198 (by decide) ?_
                          exact ih6 best least (set_ + 1) H locs ls (Nat.lt_of_lt_of_le v.2 (Nat.le_of_lt_succ hN7)) v.1 hP hD hS (lv_sub hl [4, 5, 1, 2, 0] rfl)
                        · replace v := v.2 c49
                          refine nv_iconst (n := 1) hx hb d_Md_rotate_164 ?_
                          refine lv_goto (tgt := 169) hx hb d_Md_rotate_165 (by decide) ?_
                          refine lv_istore (lv' := [(7, .int (iI 1)), (0, .ref h0), (1, .int (iI hrs)), (2, .int (iI best)), (3, .int (iI least)), (4, .int (iI set_)), (5, .int (iI size_)), (6, .int (iI all_))]) hx hb d_Md_rotate_169 hl (by decide) rfl (fun ls hl => ?_)
                          refine lv_iload hx hb d_Md_rotate_171 (lv_at hl 0 rfl) ?_
                          refine nv_if_eq (tgt := 181) hx hb d_Md_rotate_173 (by decide) (by decide) (fun c52 => absurd c52 (by decide)) (fun _ => ?_)
                          refine lv_iload hx hb d_Md_rotate_176 (lv_at hl 6 rfl) ?_
                          refine lv_goto (tgt := 182) hx hb d_Md_rotate_178 (by decide) ?_
                          refine lv_istore_n (lv' := [(3, .int (iI size_)), (7, .int (iI 1)), (0, .ref h0), (1, .int (iI hrs)), (2, .int (iI best)), (4, .int (iI set_)), (5, .int (iI size_)), (6, .int (iI all_))]) hx hb d_Md_rotate_182 rfl hl (by decide) rfl (fun ls hl => ?_)
                          refine lv_iload hx hb d_Md_rotate_183 (lv_at hl 1 rfl) ?_
                          refine nv_if_eq (tgt := 193) hx hb d_Md_rotate_185 (by decide) (by decide) (fun c53 => absurd c53 (by decide)) (fun _ => ?_)
                          refine lv_iload hx hb d_Md_rotate_188 (lv_at hl 5 rfl) ?_
                          refine lv_goto (tgt := 194) hx hb d_Md_rotate_190 (by decide) ?_
                          refine lv_istore_n (lv' := [(2, .int (iI set_)), (3, .int (iI size_)), (7, .int (iI 1)), (0, .ref h0), (1, .int (iI hrs)), (4, .int (iI set_)), (5, .int (iI size_)), (6, .int (iI all_))]) hx hb d_Md_rotate_194 rfl hl (by decide) rfl (fun ls hl => ?_)
                          refine nv_iinc (k := 5) (z := set_ + 1) (lv' := [(4, .int (iI (set_ + 1))), (2, .int (iI set_)), (3, .int (iI size_)), (7, .int (iI 1)), (0, .ref h0), (1, .int (iI hrs)), (5, .int (iI size_)), (6, .int (iI all_))]) hx hb d_Md_rotate_195 hl rfl (by omega) (by decide) rfl (fun ls hl => ?_)
                          refine lv_goto (tgt := 27) hx hb d_Md_rotate_198 (by decide) ?_
                          exact ih6 set_ size_ (set_ + 1) H locs ls (Nat.lt_of_lt_of_le v.2 (Nat.le_of_lt_succ hN7)) v.1 hP hD hS (lv_sub hl [4, 5, 1, 2, 0] rfl)
              · replace v := v.2 c29
                refine lv_iload hx hb d_Md_rotate_51 (lv_at hl 4 rfl) ?_
                refine lv_iload hx hb d_Md_rotate_53 (lv_at hl 7 rfl) ?_
                refine nv_ishr hx hb d_Md_rotate_55 ?_
                refine nv_iconst (n := 1) hx hb d_Md_rotate_56 ?_
                refine nv_iand hx hb d_Md_rotate_57 ?_
                refine nv_iconst (n := 1) hx hb d_Md_rotate_58 ?_
                obtain ⟨k54, v⟩ := v
                refine nv_icmp_ne (tgt := 66) hx hb d_Md_rotate_59 (by decide) k54 (by decide) (fun c55 => ?_) (fun c55 => ?_)
                · replace v := v.1 c55
                  refine nv_iconst (n := 0) hx hb d_Md_rotate_66 ?_
                  refine lv_istore (lv' := [(8, .int (iI 0)), (0, .ref h0), (1, .int (iI hrs)), (2, .int (iI best)), (3, .int (iI least)), (4, .int (iI set_)), (5, .int (iI size_)), (6, .int (iI all_)), (7, .int (iI p_))]) hx hb d_Md_rotate_67 hl (by decide) rfl (fun ls hl => ?_)
                  refine lv_iload hx hb d_Md_rotate_69 (lv_at hl 0 rfl) ?_
                  refine nv_if_eq (tgt := 98) hx hb d_Md_rotate_71 (by decide) (by decide) (fun _ => ?_) (fun c56 => absurd c56 (by decide))
                  refine lv_iload hx hb d_Md_rotate_98 (lv_at hl 6 rfl) ?_
                  refine lv_istore (lv' := [(5, .int (iI size_)), (8, .int (iI 0)), (0, .ref h0), (1, .int (iI hrs)), (2, .int (iI best)), (3, .int (iI least)), (4, .int (iI set_)), (6, .int (iI all_)), (7, .int (iI p_))]) hx hb d_Md_rotate_100 hl (by decide) rfl (fun ls hl => ?_)
                  refine lv_iload hx hb d_Md_rotate_102 (lv_at hl 1 rfl) ?_
                  refine nv_if_eq (tgt := 120) hx hb d_Md_rotate_104 (by decide) (by decide) (fun _ => ?_) (fun c57 => absurd c57 (by decide))
                  refine lv_iload hx hb d_Md_rotate_120 (lv_at hl 7 rfl) ?_
                  refine lv_istore (lv' := [(6, .int (iI all_)), (5, .int (iI size_)), (8, .int (iI 0)), (0, .ref h0), (1, .int (iI hrs)), (2, .int (iI best)), (3, .int (iI least)), (4, .int (iI set_)), (7, .int (iI p_))]) hx hb d_Md_rotate_122 hl (by decide) rfl (fun ls hl => ?_)
                  refine nv_iinc (k := 8) (z := p_ + 1) (lv' := [(7, .int (iI (p_ + 1))), (6, .int (iI all_)), (5, .int (iI size_)), (8, .int (iI 0)), (0, .ref h0), (1, .int (iI hrs)), (2, .int (iI best)), (3, .int (iI least)), (4, .int (iI set_))]) hx hb d_Md_rotate_124 hl rfl (by omega) (by decide) rfl (fun ls hl => ?_)
                  refine lv_goto (tgt := 44) hx hb d_Md_rotate_127 (by decide) ?_
                  exact ih26 size_ all_ (p_ + 1) H locs ls (Nat.lt_of_lt_of_le v.2 (Nat.le_of_lt_succ hN27)) v.1 hP hD hS (lv_sub hl [4, 5, 6, 7, 8, 2, 1, 0] rfl)
                · replace v := v.2 c55
                  refine nv_iconst (n := 1) hx hb d_Md_rotate_62 ?_
                  refine lv_goto (tgt := 67) hx hb d_Md_rotate_63 (by decide) ?_
                  refine lv_istore (lv' := [(8, .int (iI 1)), (0, .ref h0), (1, .int (iI hrs)), (2, .int (iI best)), (3, .int (iI least)), (4, .int (iI set_)), (5, .int (iI size_)), (6, .int (iI all_)), (7, .int (iI p_))]) hx hb d_Md_rotate_67 hl (by decide) rfl (fun ls hl => ?_)
                  refine lv_iload hx hb d_Md_rotate_69 (lv_at hl 0 rfl) ?_
                  refine nv_if_eq (tgt := 98) hx hb d_Md_rotate_71 (by decide) (by decide) (fun c58 => absurd c58 (by decide)) (fun _ => ?_)
                  refine lv_iload hx hb d_Md_rotate_74 (lv_at hl 8 rfl) ?_
                  refine lv_aload_n hx hb d_Md_rotate_76 rfl (lv_at hl 1 rfl) ?_
                  refine va_get (D := D) (ci := 8) (v := .int (iI np)) (C := "LightDosesModel") (T := T_Md) (N := 32) hx hb hts in_Md hown hK hP 0 rfl rfl 28 (by decide) (hts _ wd_731) (fun _ h9 => h9) rfl d_Md_rotate_77 ?_
                  obtain ⟨k59, v⟩ := v
                  refine nv_icmp_ge (tgt := 90) hx hb d_Md_rotate_80 (by decide) k28 k59 (fun c60 => ?_) (fun c60 => ?_)
                  · replace v := v.1 c60
                    refine lv_iload hx hb d_Md_rotate_90 (lv_at hl 6 rfl) ?_
                    refine nv_bipush (z := 100) hx hb d_Md_rotate_92 (by decide) ?_
                    refine nv_iadd (z := size_ + 100) hx hb d_Md_rotate_94 (by first | rfl | omega) ?_
                    refine lv_goto (tgt := 100) hx hb d_Md_rotate_95 (by decide) ?_
                    refine lv_istore (lv' := [(5, .int (iI (size_ + 100))), (8, .int (iI 1)), (0, .ref h0), (1, .int (iI hrs)), (2, .int (iI best)), (3, .int (iI least)), (4, .int (iI set_)), (6, .int (iI all_)), (7, .int (iI p_))]) hx hb d_Md_rotate_100 hl (by decide) rfl (fun ls hl => ?_)
                    refine lv_iload hx hb d_Md_rotate_102 (lv_at hl 1 rfl) ?_
                    refine nv_if_eq (tgt := 120) hx hb d_Md_rotate_104 (by decide) (by decide) (fun c61 => absurd c61 (by decide)) (fun _ => ?_)
                    refine lv_iload hx hb d_Md_rotate_107 (lv_at hl 7 rfl) ?_
                    refine lv_aload_n hx hb d_Md_rotate_109 rfl (lv_at hl 2 rfl) ?_
                    refine va_get (D := D) (ci := 8) (v := .ref h22) (C := "LightDosesModel") (T := T_Md) (N := 32) hx hb hts in_Md hown hK hP 0 rfl rfl 29 (by decide) (hts _ wd_732) (fun _ h9 => h9) rfl d_Md_rotate_110 ?_
                    refine lv_iload hx hb d_Md_rotate_113 (lv_at hl 8 rfl) ?_
                    obtain ⟨k62, v⟩ := v
                    refine nv_iald (f := pa) hx hb hK 0 (hP 22 _ rfl) rfl (p_).toNat (Int.toNat_of_nonneg k62.1).symm (by omega) (by decide) d_Md_rotate_115 ?_
                    refine nv_iadd (z := all_ + (pa (p_).toNat)) hx hb d_Md_rotate_116 (by first | rfl | omega) ?_
                    refine lv_goto (tgt := 122) hx hb d_Md_rotate_117 (by decide) ?_
                    refine lv_istore (lv' := [(6, .int (iI (all_ + (pa (p_).toNat)))), (5, .int (iI (size_ + 100))), (8, .int (iI 1)), (0, .ref h0), (1, .int (iI hrs)), (2, .int (iI best)), (3, .int (iI least)), (4, .int (iI set_)), (7, .int (iI p_))]) hx hb d_Md_rotate_122 hl (by decide) rfl (fun ls hl => ?_)
                    refine nv_iinc (k := 8) (z := p_ + 1) (lv' := [(7, .int (iI (p_ + 1))), (6, .int (iI (all_ + (pa (p_).toNat)))), (5, .int (iI (size_ + 100))), (8, .int (iI 1)), (0, .ref h0), (1, .int (iI hrs)), (2, .int (iI best)), (3, .int (iI least)), (4, .int (iI set_))]) hx hb d_Md_rotate_124 hl rfl (by omega) (by decide) rfl (fun ls hl => ?_)
                    refine lv_goto (tgt := 44) hx hb d_Md_rotate_127 (by decide) ?_
                    exact ih26 (size_ + 100) (all_ + (pa (p_).toNat)) (p_ + 1) H locs ls (Nat.lt_of_lt_of_le v.2 (Nat.le_of_lt_succ hN27)) v.1 hP hD hS (lv_sub hl [4, 5, 6, 7, 8, 2, 1, 0] rfl)
                  · replace v := v.2 c60
                    refine lv_iload hx hb d_Md_rotate_83 (lv_at hl 6 rfl) ?_
                    refine nv_iconst (n := 1) hx hb d_Md_rotate_85 ?_
                    refine nv_iadd (z := size_ + 1) hx hb d_Md_rotate_86 (by first | rfl | omega) ?_
                    refine lv_goto (tgt := 100) hx hb d_Md_rotate_87 (by decide) ?_
                    refine lv_istore (lv' := [(5, .int (iI (size_ + 1))), (8, .int (iI 1)), (0, .ref h0), (1, .int (iI hrs)), (2, .int (iI best)), (3, .int (iI least)), (4, .int (iI set_)), (6, .int (iI all_)), (7, .int (iI p_))]) hx hb d_Md_rotate_100 hl (by decide) rfl (fun ls hl => ?_)
                    refine lv_iload hx hb d_Md_rotate_102 (lv_at hl 1 rfl) ?_
                    refine nv_if_eq (tgt := 120) hx hb d_Md_rotate_104 (by decide) (by decide) (fun c63 => absurd c63 (by decide)) (fun _ => ?_)
                    refine lv_iload hx hb d_Md_rotate_107 (lv_at hl 7 rfl) ?_
                    refine lv_aload_n hx hb d_Md_rotate_109 rfl (lv_at hl 2 rfl) ?_
                    refine va_get (D := D) (ci := 8) (v := .ref h22) (C := "LightDosesModel") (T := T_Md) (N := 32) hx hb hts in_Md hown hK hP 0 rfl rfl 29 (by decide) (hts _ wd_732) (fun _ h9 => h9) rfl d_Md_rotate_110 ?_
                    refine lv_iload hx hb d_Md_rotate_113 (lv_at hl 8 rfl) ?_
                    obtain ⟨k64, v⟩ := v
                    refine nv_iald (f := pa) hx hb hK 0 (hP 22 _ rfl) rfl (p_).toNat (Int.toNat_of_nonneg k64.1).symm (by omega) (by decide) d_Md_rotate_115 ?_
                    refine nv_iadd (z := all_ + (pa (p_).toNat)) hx hb d_Md_rotate_116 (by first | rfl | omega) ?_
                    refine lv_goto (tgt := 122) hx hb d_Md_rotate_117 (by decide) ?_
                    refine lv_istore (lv' := [(6, .int (iI (all_ + (pa (p_).toNat)))), (5, .int (iI (size_ + 1))), (8, .int (iI 1)), (0, .ref h0), (1, .int (iI hrs)), (2, .int (iI best)), (3, .int (iI least)), (4, .int (iI set_)), (7, .int (iI p_))]) hx hb d_Md_rotate_122 hl (by decide) rfl (fun ls hl => ?_)
                    refine nv_iinc (k := 8) (z := p_ + 1) (lv' := [(7, .int (iI (p_ + 1))), (6, .int (iI (all_ + (pa (p_).toNat)))), (5, .int (iI (size_ + 1))), (8, .int (iI 1)), (0, .ref h0), (1, .int (iI hrs)), (2, .int (iI best)), (3, .int (iI least)), (4, .int (iI set_))]) hx hb d_Md_rotate_124 hl rfl (by omega) (by decide) rfl (fun ls hl => ?_)
                    refine lv_goto (tgt := 44) hx hb d_Md_rotate_127 (by decide) ?_
                    exact ih26 (size_ + 1) (all_ + (pa (p_).toNat)) (p_ + 1) H locs ls (Nat.lt_of_lt_of_le v.2 (Nat.le_of_lt_succ hN27)) v.1 hP hD hS (lv_sub hl [4, 5, 6, 7, 8, 2, 1, 0] rfl)
          exact L67 _ 0 0 0 H locs ls (Nat.lt_succ_self _) v65 hP hD hS (lv_sub hl [3, 4, 5, 6, 7, 2, 1, 0] rfl)
    exact L70 _ 0 99 1 H locs ls (Nat.lt_succ_self _) v68 hP hD hS (lv_sub hl [3, 4, 2, 1, 0] rfl)
  · replace v := v.2 c2
    refine nv_iconst (n := 1) hx hb d_Md_rotate_9 ?_
    refine nv_iconst (n := 1) hx hb d_Md_rotate_10 ?_
    have hPc := hP.sub (ws' := (wMd cI cJ cZ h0 h1 h2 h3 h4 h5 h6 h7 h8 h9 h10 h11 h12 h13 h14 h15 h16 h17 h18 h19 h20 h21 h22 h23 th no ca ba nl xa sa da la ra fa ta ua uh uo ma mh ml nf fo fh fs rs ic mn bh bo ya np pa nc cp)) [0, 1, 2, 3, 4, 5, 6, 7, 8, 9, 10, 11, 12, 13, 14, 15, 16, 17, 18, 19, 20, 21, 22, 23] rfl
    have hDc := hD.sub (ws' := (wMd cI cJ cZ h0 h1 h2 h3 h4 h5 h6 h7 h8 h9 h10 h11 h12 h13 h14 h15 h16 h17 h18 h19 h20 h21 h22 h23 th no ca ba nl xa sa da la ra fa ta ua uh uo ma mh ml nf fo fh fs rs ic mn bh bo ya np pa nc cp)) [0, 1, 2, 3, 4, 5, 6, 7, 8, 9, 10, 11, 12, 13, 14, 15, 16, 17, 18, 19, 20, 21, 22, 23] (by decide) rfl
    have hFc := va_free (wc := (wMd cI cJ cZ h0 h1 h2 h3 h4 h5 h6 h7 h8 h9 h10 h11 h12 h13 h14 h15 h16 h17 h18 h19 h20 h21 h22 h23 th no ca ba nl xa sa da la ra fa ta ua uh uo ma mh ml nf fo fh fs rs ic mn bh bo ya np pa nc cp)) hD hS hA [0, 1, 2, 3, 4, 5, 6, 7, 8, 9, 10, 11, 12, 13, 14, 15, 16, 17, 18, 19, 20, 21, 22, 23] rfl
    refine va_calli (va_runV (As := [.int (iI 0), .int (iI 1), .int (iI 1)]) (rest := []) ⟨hx, hb, hml, hown, hts⟩ (m_Md_goes l D cI cJ cO cZ h0 h1 h2 h3 h4 h5 h6 h7 h8 h9 h10 h11 h12 h13 h14 h15 h16 h17 h18 h19 h20 h21 h22 h23 H.size th no ca ba nl xa sa da la ra fa ta ua uh uo ma mh ml nf fo fh fs rs ic mn bh bo ya np pa nc cp 0 1 1 (fun z t => z = 0 ∧ t = 1) (s_Md_goes_011 th no ca ba nl xa sa da la ra fa ta ua uh uo ma mh ml nf fo fh fs rs ic mn bh bo ya np pa nc cp)) (nv_cwV (n := 3) hts wd_812 wd_814 sl_17 wd_10 wd_815 (by decide +kernel) ⟨Nat.le_of_ble_eq_true rfl, Nat.le_of_ble_eq_true rfl⟩) ⟨blW, va_recv hK hPc (ci := 8) (q0 := 0) rfl rfl, fun U hU hW => ⟨rfl, by rw [hU], by rw [hU]; exact hPc, va_K.moved hW.alike hK, hDc.weaken (fun _ _ _ _ => trivial)⟩⟩ rfl rfl hl.1 rfl (lv_room (Nat.le_of_ble_eq_true rfl)) d_Md_rotate_11 ⟨Nat.le_of_ble_eq_true rfl, Nat.le_of_ble_eq_true rfl⟩) hS (fun q _ h => hFc q h) hFc (fun r u t H1 locs ht hvm hw hB hz1 hk1 hS => ?_)
    obtain ⟨hP1, hK1, hD1⟩ := hB
    rw [ht] at hP1
    obtain ⟨_, rfl, rfl, rfl⟩ := hw
    obtain ⟨hP, hD⟩ := va_join (wr := []) (w1 := (wMd cI cJ cZ h0 h1 h2 h3 h4 h5 h6 h7 h8 h9 h10 h11 h12 h13 h14 h15 h16 h17 h18 h19 h20 h21 h22 h23 1 no ca ba nl xa sa da la ra fa ta ua uh uo ma mh ml nf fo fh fs rs ic mn bh bo ya np pa nc cp)) hP hD [0, 1, 2, 3, 4, 5, 6, 7, 8, 9, 10, 11, 12, 13, 14, 15, 16, 17, 18, 19, 20, 21, 22, 23] [] rfl rfl (by decide) (by decide) hk1 hFc hP1 hD1
    generalize H1 = H at hP hS ⊢
    have hP : va_P D vwCl (wMd cI cJ cZ h0 h1 h2 h3 h4 h5 h6 h7 h8 h9 h10 h11 h12 h13 h14 h15 h16 h17 h18 h19 h20 h21 h22 h23 1 no ca ba nl xa sa da la ra fa ta ua uh uo ma mh ml nf fo fh fs rs ic mn bh bo ya np pa nc cp) H := hP
    have hD : va_D A (wMd cI cJ cZ h0 h1 h2 h3 h4 h5 h6 h7 h8 h9 h10 h11 h12 h13 h14 h15 h16 h17 h18 h19 h20 h21 h22 h23 1 no ca ba nl xa sa da la ra fa ta ua uh uo ma mh ml nf fo fh fs rs ic mn bh bo ya np pa nc cp) := hD
    refine W.widen (k := 0) (n := 0) (Nat.le_of_ble_eq_true rfl) (Nat.le_of_ble_eq_true rfl) ?_
    refine nv_if_ne (tgt := 19) hx hb d_Md_rotate_14 (by decide) (by decide) (fun c71 => absurd c71 (by decide)) (fun _ => ?_)
    refine nv_iconst (n := 0) hx hb d_Md_rotate_17 ?_
    have hP9 := hP.sub (ws' := (wMd cI cJ cZ h0 h1 h2 h3 h4 h5 h6 h7 h8 h9 h10 h11 h12 h13 h14 h15 h16 h17 h18 h19 h20 h21 h22 h23 1 no ca ba nl xa sa da la ra fa ta ua uh uo ma mh ml nf fo fh fs rs ic mn bh bo ya np pa nc cp)) [0, 1, 2, 3, 4, 5, 6, 7, 8, 9, 10, 11, 12, 13, 14, 15, 16, 17, 18, 19, 20, 21, 22, 23] rfl
    have hD9 := hD.sub (ws' := (wMd cI cJ cZ h0 h1 h2 h3 h4 h5 h6 h7 h8 h9 h10 h11 h12 h13 h14 h15 h16 h17 h18 h19 h20 h21 h22 h23 1 no ca ba nl xa sa da la ra fa ta ua uh uo ma mh ml nf fo fh fs rs ic mn bh bo ya np pa nc cp)) [0, 1, 2, 3, 4, 5, 6, 7, 8, 9, 10, 11, 12, 13, 14, 15, 16, 17, 18, 19, 20, 21, 22, 23] (by decide) rfl
    exact W.iret hx hb hr (fun t ht hW => ⟨⟨_, ((1), (cp), (nc)), rfl, ⟨_, rfl, v⟩, by rw [ht]; exact hP9, va_K.moved hW.alike hK, hD9⟩, hS.F ht⟩) hS.2.2 d_Md_rotate_18

