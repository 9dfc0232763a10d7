/-! MODULE Model: what only reads -/
theorem d_Md_thrown_0 : decode prog_10_method_2_code 0 = .ok (.aload_n 0, 1) := by decide +kernel
theorem d_Md_thrown_1 : decode prog_10_method_2_code 1 = .ok (.getfield 82, 3) := by decide +kernel
theorem d_Md_thrown_4 : decode prog_10_method_2_code 4 = .ok (.ireturn, 1) := by decide +kernel
def vc_Md_thrown (th : Int) (no : Int) (ca : Nat → Int) (ba : Nat → Int) (nl : Int) (xa : Nat → Int) (sa : Nat → Int) (da : Nat → Int) (la : Nat → Int) (ra : Nat → Int) (fa : Nat → Int) (ta : Nat → Int) (ua : Nat → Int) (uh : Nat → Int) (uo : Nat → Int) (ma : Nat → Int) (mh : Nat → Int) (ml : Nat → Int) (nf : Int) (fo : Nat → Int) (fh : Nat → Int) (fs : Nat → Int) (rs : Int) (ic : Int) (mn : Int) (bh : Nat → Int) (bo : Nat → Int) (ya : Nat → Int) (np : Int) (pa : Nat → Int) (nc : Int) (cp : Nat → Int) (post : Int → Prop) : Prop := post th
set_option maxHeartbeats 4000000 in
set_option maxRecDepth 100000 in
theorem m_Md_thrown (l : Launch) (D : va_G) (cI cJ cO cZ : ClassId) (h0 h1 h2 h3 h4 h5 h6 h7 h8 h9 h10 h11 h12 h13 h14 h15 h16 h17 h18 h19 h20 h21 h22 h23 : Nat) (th : Int) (no : Int) (ca : Nat → Int) (ba : Nat → Int) (nl : Int) (xa : Nat → Int) (sa : Nat → Int) (da : Nat → Int) (la : Nat → Int) (ra : Nat → Int) (fa : Nat → Int) (ta : Nat → Int) (ua : Nat → Int) (uh : Nat → Int) (uo : Nat → Int) (ma : Nat → Int) (mh : Nat → Int) (ml : Nat → Int) (nf : Int) (fo : Nat → Int) (fh : Nat → Int) (fs : Nat → Int) (rs : Int) (ic : Int) (mn : Int) (bh : Nat → Int) (bo : Nat → Int) (ya : Nat → Int) (np : Int) (pa : Nat → Int) (nc : Int) (cp : Nat → Int) (post : Int → Prop) (v : vc_Md_thrown th no ca ba nl xa sa da la ra fa ta ua uh uo ma mh ml nf fo fh fs rs ic mn bh bo ya np pa nc cp post) : Met l ⟨"LightDosesModel", "thrown", "()I"⟩ (.code ⟨"LightDosesModel", "thrown", "()I"⟩ prog_10_method_2_code 1 (some .int) :: TG) { frames := 0, cells := 0, slots := 0, locals := 0 } (va_Pc [.ref h0] (fun U => va_K D vwCl (tyx cI cJ cO cZ) U ∧ va_P D vwCl (wMd cI cJ cZ h0 h1 h2 h3 h4 h5 h6 h7 h8 h9 h10 h11 h12 h13 h14 h15 h16 h17 h18 h19 h20 h21 h22 h23 th no ca ba nl xa sa da la ra fa ta ua uh uo ma mh ml nf fo fh fs rs ic mn bh bo ya np pa nc cp) U.heap)) (vp_Si (fun r => ∃ z : Int, r = iI z ∧ post z)) 0 0 (fun _ => False) := by
  refine Met.ofW (cc := prog_10_method_2_code) (maxL := 1) (ret := (some .int)) (by decide) rfl ?_
  intro p e s m args below meth c s₁ B hml hv
  obtain ⟨rfl, hK, hP⟩ := hv
  have hx := B.exec
  have hb := B.bytes
  have hr := B.returns
  have hts0 := atoms_spec (ws := (.code ⟨"LightDosesModel", "thrown", "()I"⟩ prog_10_method_2_code 1 (some .int) :: TG)) B.pre
  have hts : ∀ w ∈ TG, w.before _ s = true := fun w h => hts0 w (List.mem_cons_of_mem _ h)
  have hown : s.vm.findClass "LightDosesModel" = some m.cls := findClass_of_methodNamed B.named
  have hlocks := B.notSynchronized
  have hP : va_P D vwCl (wMd cI cJ cZ h0 h1 h2 h3 h4 h5 h6 h7 h8 h9 h10 h11 h12 h13 h14 h15 h16 h17 h18 h19 h20 h21 h22 h23 th no ca ba nl xa sa da la ra fa ta ua uh uo ma mh ml nf fo fh fs rs ic mn bh bo ya np pa nc cp) s.heap := hP
  have hl := lv_entry ([Value.ref h0]) (n := 1) (Nat.le_of_ble_eq_true rfl)
  rw [lg_entry_eq]
  generalize (lg_sl ([Value.ref h0]) ++ List.replicate (1 - (lg_sl ([Value.ref h0])).length) Slot.unset).toArray = ls at hl ⊢
  have hl : lv_has ls 1 [(0, .ref h0)] := hl
  unfold vc_Md_thrown at v
  refine lv_aload_n hx hb d_Md_thrown_0 rfl (lv_at hl 0 rfl) ?_
  refine va_get (D := D) (ci := 8) (v := .int (iI th)) (C := "LightDosesModel") (T := T_Md) (N := 32) hx hb hts in_Md hown hK hP 0 rfl rfl 0 (by decide) (hts _ wd_703) (fun _ h9 => h9) rfl d_Md_thrown_1 ?_
  exact W.iret hx hb hr (fun t ht hW => ⟨_, rfl, ⟨_, rfl, v⟩, ht⟩) (fun q h => by cases h) d_Md_thrown_4

theorem d_Md_isShown_0 : decode prog_10_method_19_code 0 = .ok (.iconst 0, 1) := by decide +kernel
theorem d_Md_isShown_1 : decode prog_10_method_19_code 1 = .ok (.istore_n 3, 1) := by decide +kernel
theorem d_Md_isShown_2 : decode prog_10_method_19_code 2 = .ok (.bipush 16, 2) := by decide +kernel
theorem d_Md_isShown_4 : decode prog_10_method_19_code 4 = .ok (.iload_n 1, 1) := by decide +kernel
theorem d_Md_isShown_5 : decode prog_10_method_19_code 5 = .ok (.imul, 1) := by decide +kernel
theorem d_Md_isShown_6 : decode prog_10_method_19_code 6 = .ok (.istore 4, 2) := by decide +kernel
theorem d_Md_isShown_8 : decode prog_10_method_19_code 8 = .ok (.iload 4, 2) := by decide +kernel
theorem d_Md_isShown_10 : decode prog_10_method_19_code 10 = .ok (.bipush 16, 2) := by decide +kernel
theorem d_Md_isShown_12 : decode prog_10_method_19_code 12 = .ok (.iload_n 1, 1) := by decide +kernel
theorem d_Md_isShown_13 : decode prog_10_method_19_code 13 = .ok (.imul, 1) := by decide +kernel
theorem d_Md_isShown_14 : decode prog_10_method_19_code 14 = .ok (.aload_n 0, 1) := by decide +kernel
theorem d_Md_isShown_15 : decode prog_10_method_19_code 15 = .ok (.getfield 29, 3) := by decide +kernel
theorem d_Md_isShown_18 : decode prog_10_method_19_code 18 = .ok (.iload_n 1, 1) := by decide +kernel
theorem d_Md_isShown_19 : decode prog_10_method_19_code 19 = .ok (.iaload, 1) := by decide +kernel
theorem d_Md_isShown_20 : decode prog_10_method_19_code 20 = .ok (.iadd, 1) := by decide +kernel
theorem d_Md_isShown_21 : decode prog_10_method_19_code 21 = .ok (.if_icmp .ge 41, 3) := by decide +kernel
theorem d_Md_isShown_24 : decode prog_10_method_19_code 24 = .ok (.iload_n 3, 1) := by decide +kernel
theorem d_Md_isShown_25 : decode prog_10_method_19_code 25 = .ok (.ifCond .ne 25, 3) := by decide +kernel
theorem d_Md_isShown_28 : decode prog_10_method_19_code 28 = .ok (.iload_n 2, 1) := by decide +kernel
theorem d_Md_isShown_29 : decode prog_10_method_19_code 29 = .ok (.aload_n 0, 1) := by decide +kernel
theorem d_Md_isShown_30 : decode prog_10_method_19_code 30 = .ok (.getfield 32, 3) := by decide +kernel
theorem d_Md_isShown_33 : decode prog_10_method_19_code 33 = .ok (.iload 4, 2) := by decide +kernel
theorem d_Md_isShown_35 : decode prog_10_method_19_code 35 = .ok (.iaload, 1) := by decide +kernel
theorem d_Md_isShown_36 : decode prog_10_method_19_code 36 = .ok (.if_icmp .lt 18, 3) := by decide +kernel
theorem d_Md_isShown_39 : decode prog_10_method_19_code 39 = .ok (.iload_n 2, 1) := by decide +kernel
theorem d_Md_isShown_40 : decode prog_10_method_19_code 40 = .ok (.aload_n 0, 1) := by decide +kernel
theorem d_Md_isShown_41 : decode prog_10_method_19_code 41 = .ok (.getfield 35, 3) := by decide +kernel
theorem d_Md_isShown_44 : decode prog_10_method_19_code 44 = .ok (.iload 4, 2) := by decide +kernel
theorem d_Md_isShown_46 : decode prog_10_method_19_code 46 = .ok (.iaload, 1) := by decide +kernel
theorem d_Md_isShown_47 : decode prog_10_method_19_code 47 = .ok (.if_icmp .ge 7, 3) := by decide +kernel
theorem d_Md_isShown_50 : decode prog_10_method_19_code 50 = .ok (.iconst 1, 1) := by decide +kernel
theorem d_Md_isShown_51 : decode prog_10_method_19_code 51 = .ok (.goto 4, 3) := by decide +kernel
theorem d_Md_isShown_54 : decode prog_10_method_19_code 54 = .ok (.iconst 0, 1) := by decide +kernel
theorem d_Md_isShown_55 : decode prog_10_method_19_code 55 = .ok (.istore_n 3, 1) := by decide +kernel
theorem d_Md_isShown_56 : decode prog_10_method_19_code 56 = .ok (.iinc 4 1, 3) := by decide +kernel
theorem d_Md_isShown_59 : decode prog_10_method_19_code 59 = .ok (.goto (-51), 3) := by decide +kernel
theorem d_Md_isShown_62 : decode prog_10_method_19_code 62 = .ok (.iload_n 3, 1) := by decide +kernel
theorem d_Md_isShown_63 : decode prog_10_method_19_code 63 = .ok (.ireturn, 1) := by decide +kernel
def vc_Md_isShown (th : Int) (no : Int) (ca : Nat → Int) (ba : Nat → Int) (nl : Int) (xa : Nat → Int) (sa : Nat → Int) (da : Nat → Int) (la : Nat → Int) (ra : Nat → Int) (fa : Nat → Int) (ta : Nat → Int) (ua : Nat → Int) (uh : Nat → Int) (uo : Nat → Int) (ma : Nat → Int) (mh : Nat → Int) (ml : Nat → Int) (nf : Int) (fo : Nat → Int) (fh : Nat → Int) (fs : Nat → Int) (rs : Int) (ic : Int) (mn : Int) (bh : Nat → Int) (bo : Nat → Int) (ya : Nat → Int) (np : Int) (pa : Nat → Int) (nc : Int) (cp : Nat → Int) (ob : Int) (hour : Int) (post : Int → Prop) : Prop := ∃ (I1 : Int → Int → Prop) (μ2 : Int → Int → Nat), I1 0 (16 * ob) ∧ ∀ (is_ : Int) (k : Int), I1 is_ k → (0 ≤ ob ∧ ob < 12) ∧ ((r32 k) ∧ ((r32 (16 * ob + (ra (ob).toNat))) ∧ ((16 * ob + (ra (ob).toNat) ≤ k → (is_ = 0 ∨ is_ = 1) ∧ post is_) ∧ (k < 16 * ob + (ra (ob).toNat) → (r32 is_) ∧ ((¬ is_ = 0 → I1 1 (k + 1) ∧ μ2 1 (k + 1) < μ2 is_ k) ∧ (is_ = 0 → (0 ≤ k ∧ k < 192) ∧ ((r32 hour) ∧ ((r32 (fa (k).toNat)) ∧ ((hour < fa (k).toNat → I1 0 (k + 1) ∧ μ2 0 (k + 1) < μ2 is_ k) ∧ (fa (k).toNat ≤ hour → (0 ≤ k ∧ k < 192) ∧ ((r32 (ta (k).toNat)) ∧ ((ta (k).toNat ≤ hour → I1 0 (k + 1) ∧ μ2 0 (k + 1) < μ2 is_ k) ∧ (hour < ta (k).toNat → I1 1 (k + 1) ∧ μ2 1 (k + 1) < μ2 is_ k)))))))))))))
set_option maxHeartbeats 4000000 in
set_option maxRecDepth 100000 in
theorem m_Md_isShown (l : Launch) (D : va_G) (cI cJ cO cZ : ClassId) (h0 h1 h2 h3 h4 h5 h6 h7 h8 h9 h10 h11 h12 h13 h14 h15 h16 h17 h18 h19 h20 h21 h22 h23 : Nat) (th : Int) (no : Int) (ca : Nat → Int) (ba : Nat → Int) (nl : Int) (xa : Nat → Int) (sa : Nat → Int) (da : Nat → Int) (la : Nat → Int) (ra : Nat → Int) (fa : Nat → Int) (ta : Nat → Int) (ua : Nat → Int) (uh : Nat → Int) (uo : Nat → Int) (ma : Nat → Int) (mh : Nat → Int) (ml : Nat → Int) (nf : Int) (fo : Nat → Int) (fh : Nat → Int) (fs : Nat → Int) (rs : Int) (ic : Int) (mn : Int) (bh : Nat → Int) (bo : Nat → Int) (ya : Nat → Int) (np : Int) (pa : Nat → Int) (nc : Int) (cp : Nat → Int) (ob : Int) (hour : Int) (post : Int → Prop) (v : vc_Md_isShown th no ca ba nl xa sa da la ra fa ta ua uh uo ma mh ml nf fo fh fs rs ic mn bh bo ya np pa nc cp ob hour post) : Met l ⟨"LightDosesModel", "isShown", "(II)Z"⟩ (.code ⟨"LightDosesModel", "isShown", "(II)Z"⟩ prog_10_method_19_code 5 (some .boolean) :: TG) { frames := 0, cells := 0, slots := 0, locals := 0 } (va_Pc [.ref h0, .int (iI ob), .int (iI hour)] (fun U => va_K D vwCl (tyx cI cJ cO cZ) U ∧ va_P D vwCl (wMd cI cJ cZ h0 h1 h2 h3 h4 h5 h6 h7 h8 h9 h10 h11 h12 h13 h14 h15 h16 h17 h18 h19 h20 h21 h22 h23 th no ca ba nl xa sa da la ra fa ta ua uh uo ma mh ml nf fo fh fs rs ic mn bh bo ya np pa nc cp) U.heap)) (vp_Si (fun r => ∃ z : Int, r = iI z ∧ post z)) 0 0 (fun _ => False) := by
  refine Met.ofW (cc := prog_10_method_19_code) (maxL := 5) (ret := (some .boolean)) (by decide) rfl ?_
  intro p e s m args below meth c s₁ B hml hv
  obtain ⟨rfl, hK, hP⟩ := hv
  have hx := B.exec
  have hb := B.bytes
  have hr := B.returns
  have hts0 := atoms_spec (ws := (.code ⟨"LightDosesModel", "isShown", "(II)Z"⟩ prog_10_method_19_code 5 (some .boolean) :: TG)) B.pre
  have hts : ∀ w ∈ TG, w.before _ s = true := fun w h => hts0 w (List.mem_cons_of_mem _ h)
  have hown : s.vm.findClass "LightDosesModel" = some m.cls := findClass_of_methodNamed B.named
  have hlocks := B.notSynchronized
  have hP : va_P D vwCl (wMd cI cJ cZ h0 h1 h2 h3 h4 h5 h6 h7 h8 h9 h10 h11 h12 h13 h14 h15 h16 h17 h18 h19 h20 h21 h22 h23 th no ca ba nl xa sa da la ra fa ta ua uh uo ma mh ml nf fo fh fs rs ic mn bh bo ya np pa nc cp) s.heap := hP
  have hl := lv_entry ([Value.ref h0, Value.int (iI ob), Value.int (iI hour)]) (n := 5) (Nat.le_of_ble_eq_true rfl)
  rw [lg_entry_eq]
  generalize (lg_sl ([Value.ref h0, Value.int (iI ob), Value.int (iI hour)]) ++ List.replicate (5 - (lg_sl ([Value.ref h0, Value.int (iI ob), Value.int (iI hour)])).length) Slot.unset).toArray = ls at hl ⊢
  have hl : lv_has ls 5 [(0, .ref h0), (1, .int (iI ob)), (2, .int (iI hour))] := hl
  unfold vc_Md_isShown at v
  refine nv_iconst (n := 0) hx hb d_Md_isShown_0 ?_
  refine lv_istore_n (lv' := [(3, .int (iI 0)), (0, .ref h0), (1, .int (iI ob)), (2, .int (iI hour))]) hx hb d_Md_isShown_1 rfl hl (by decide) rfl (fun ls hl => ?_)
  refine nv_bipush (z := 16) hx hb d_Md_isShown_2 (by decide) ?_
  refine lv_iload_n hx hb d_Md_isShown_4 rfl (lv_at hl 2 rfl) ?_
  refine nv_imul (z := 16 * ob) hx hb d_Md_isShown_5 (by first | rfl | omega) ?_
  refine lv_istore (lv' := [(4, .int (iI (16 * ob))), (3, .int (iI 0)), (0, .ref h0), (1, .int (iI ob)), (2, .int (iI hour))]) hx hb d_Md_isShown_6 hl (by decide) rfl (fun ls hl => ?_)
  obtain ⟨I1, μ2, v18, v19⟩ := v
  have L20 : ∀ (N : Nat) (is_ : Int) (k : Int) (ls : Array Slot), μ2 is_ k < N → I1 is_ k → lv_has ls 5 [(0, .ref h0), (1, .int (iI ob)), (2, .int (iI hour)), (3, .int (iI is_)), (4, .int (iI k))] → W p l e (headSpec (.code ⟨"LightDosesModel", "isShown", "(II)Z"⟩ prog_10_method_19_code 5 (some .boolean) :: TG) { frames := 0, cells := 0, slots := 0, locals := 0 }).room s m ([Value.ref h0, Value.int (iI ob), Value.int (iI hour)] : List Value).toArray below meth c s.heap [] 0 0 (MQ below (vp_Si (fun r => ∃ z : Int, r = iI z ∧ post z)) ([Value.ref h0, Value.int (iI ob), Value.int (iI hour)] : List Value).toArray s 0 0 (fun _ => False)) (F0 m 8 ls []) := by
    intro N
    induction N with
    | zero => intro is_ k ls hN; exact absurd hN (Nat.not_lt_zero _)
    | succ N ih3 =>
      intro is_ k ls hN4 hI hl
      have v := v19 is_ k hI
      refine lv_iload hx hb d_Md_isShown_8 (lv_at hl 4 rfl) ?_
      refine nv_bipush (z := 16) hx hb d_Md_isShown_10 (by decide) ?_
      refine lv_iload_n hx hb d_Md_isShown_12 rfl (lv_at hl 1 rfl) ?_
      refine nv_imul (z := 16 * ob) hx hb d_Md_isShown_13 (by first | rfl | omega) ?_
      refine lv_aload_n hx hb d_Md_isShown_14 rfl (lv_at hl 0 rfl) ?_
      refine va_get (D := D) (ci := 8) (v := .ref h7) (C := "LightDosesModel") (T := T_Md) (N := 32) hx hb hts in_Md hown hK hP 0 rfl rfl 9 (by decide) (hts _ wd_712) (fun _ h9 => h9) rfl d_Md_isShown_15 ?_
      refine lv_iload_n hx hb d_Md_isShown_18 rfl (lv_at hl 1 rfl) ?_
      obtain ⟨k5, v⟩ := v
      refine nv_iald (f := ra) hx hb hK 0 (hP 7 _ rfl) rfl (ob).toNat (Int.toNat_of_nonneg k5.1).symm (by omega) (by decide) d_Md_isShown_19 ?_
      refine nv_iadd (z := 16 * ob + (ra (ob).toNat)) hx hb d_Md_isShown_20 (by first | rfl | omega) ?_
      obtain ⟨k6, v⟩ := v
      obtain ⟨k7, v⟩ := v
      refine nv_icmp_ge (tgt := 62) hx hb d_Md_isShown_21 (by decide) k6 k7 (fun c8 => ?_) (fun c8 => ?_)
      · replace v := v.1 c8
        refine lv_iload_n hx hb d_Md_isShown_62 rfl (lv_at hl 3 rfl) ?_
        exact W.zret hx hb hr (nar_b v.1) (fun t ht hW => ⟨_, rfl, ⟨_, rfl, v.2⟩, ht⟩) (fun q h => by cases h) d_Md_isShown_63
      · replace v := v.2 c8
        refine lv_iload_n hx hb d_Md_isShown_24 rfl (lv_at hl 3 rfl) ?_
        obtain ⟨k9, v⟩ := v
        refine nv_if_ne (tgt := 50) hx hb d_Md_isShown_25 (by decide) k9 (fun c10 => ?_) (fun c10 => ?_)
        · replace v := v.1 c10
          refine nv_iconst (n := 1) hx hb d_Md_isShown_50 ?_
          refine lv_goto (tgt := 55) hx hb d_Md_isShown_51 (by decide) ?_
          refine lv_istore_n (lv' := [(3, .int (iI 1)), (0, .ref h0), (1, .int (iI ob)), (2, .int (iI hour)), (4, .int (iI k))]) hx hb d_Md_isShown_55 rfl hl (by decide) rfl (fun ls hl => ?_)
          refine nv_iinc (k := 4) (z := k + 1) (lv' := [(4, .int (iI (k + 1))), (3, .int (iI 1)), (0, .ref h0), (1, .int (iI ob)), (2, .int (iI hour))]) hx hb d_Md_isShown_56 hl rfl (by omega) (by decide) rfl (fun ls hl => ?_)
          refine lv_goto (tgt := 8) hx hb d_Md_isShown_59 (by decide) ?_
          exact ih3 1 (k + 1) ls (Nat.lt_of_lt_of_le v.2 (Nat.le_of_lt_succ hN4)) v.1 (lv_sub hl [2, 3, 4, 1, 0] rfl)
        · replace v := v.2 c10
          refine lv_iload_n hx hb d_Md_isShown_28 rfl (lv_at hl 2 rfl) ?_
          refine lv_aload_n hx hb d_Md_isShown_29 rfl (lv_at hl 0 rfl) ?_
          refine va_get (D := D) (ci := 8) (v := .ref h8) (C := "LightDosesModel") (T := T_Md) (N := 32) hx hb hts in_Md hown hK hP 0 rfl rfl 10 (by decide) (hts _ wd_713) (fun _ h9 => h9) rfl d_Md_isShown_30 ?_
          refine lv_iload hx hb d_Md_isShown_33 (lv_at hl 4 rfl) ?_
          obtain ⟨k11, v⟩ := v
          refine nv_iald (f := fa) hx hb hK 0 (hP 8 _ rfl) rfl (k).toNat (Int.toNat_of_nonneg k11.1).symm (by omega) (by decide) d_Md_isShown_35 ?_
          obtain ⟨k12, v⟩ := v
          obtain ⟨k13, v⟩ := v
          refine nv_icmp_lt (tgt := 54) hx hb d_Md_isShown_36 (by decide) k12 k13 (fun c14 => ?_) (fun c14 => ?_)
          · replace v := v.1 c14
            refine nv_iconst (n := 0) hx hb d_Md_isShown_54 ?_
            refine lv_istore_n (lv' := [(3, .int (iI 0)), (0, .ref h0), (1, .int (iI ob)), (2, .int (iI hour)), (4, .int (iI k))]) hx hb d_Md_isShown_55 rfl hl (by decide) rfl (fun ls hl => ?_)
            refine nv_iinc (k := 4) (z := k + 1) (lv' := [(4, .int (iI (k + 1))), (3, .int (iI 0)), (0, .ref h0), (1, .int (iI ob)), (2, .int (iI hour))]) hx hb d_Md_isShown_56 hl rfl (by omega) (by decide) rfl (fun ls hl => ?_)
            refine lv_goto (tgt := 8) hx hb d_Md_isShown_59 (by decide) ?_
            exact ih3 0 (k + 1) ls (Nat.lt_of_lt_of_le v.2 (Nat.le_of_lt_succ hN4)) v.1 (lv_sub hl [2, 3, 4, 1, 0] rfl)
          · replace v := v.2 c14
            refine lv_iload_n hx hb d_Md_isShown_39 rfl (lv_at hl 2 rfl) ?_
            refine lv_aload_n hx hb d_Md_isShown_40 rfl (lv_at hl 0 rfl) ?_
            refine va_get (D := D) (ci := 8) (v := .ref h9) (C := "LightDosesModel") (T := T_Md) (N := 32) hx hb hts in_Md hown hK hP 0 rfl rfl 11 (by decide) (hts _ wd_714) (fun _ h9 => h9) rfl d_Md_isShown_41 ?_
            refine lv_iload hx hb d_Md_isShown_44 (lv_at hl 4 rfl) ?_
            obtain ⟨k15, v⟩ := v
            refine nv_iald (f := ta) hx hb hK 0 (hP 9 _ rfl) rfl (k).toNat (Int.toNat_of_nonneg k15.1).symm (by omega) (by decide) d_Md_isShown_46 ?_
            obtain ⟨k16, v⟩ := v
            refine nv_icmp_ge (tgt := 54) hx hb d_Md_isShown_47 (by decide) k12 k16 (fun c17 => ?_) (fun c17 => ?_)
            · replace v := v.1 c17
              refine nv_iconst (n := 0) hx hb d_Md_isShown_54 ?_
              refine lv_istore_n (lv' := [(3, .int (iI 0)), (0, .ref h0), (1, .int (iI ob)), (2, .int (iI hour)), (4, .int (iI k))]) hx hb d_Md_isShown_55 rfl hl (by decide) rfl (fun ls hl => ?_)
              refine nv_iinc (k := 4) (z := k + 1) (lv' := [(4, .int (iI (k + 1))), (3, .int (iI 0)), (0, .ref h0), (1, .int (iI ob)), (2, .int (iI hour))]) hx hb d_Md_isShown_56 hl rfl (by omega) (by decide) rfl (fun ls hl => ?_)
              refine lv_goto (tgt := 8) hx hb d_Md_isShown_59 (by decide) ?_
              exact ih3 0 (k + 1) ls (Nat.lt_of_lt_of_le v.2 (Nat.le_of_lt_succ hN4)) v.1 (lv_sub hl [2, 3, 4, 1, 0] rfl)
            · replace v := v.2 c17
              refine nv_iconst (n := 1) hx hb d_Md_isShown_50 ?_
              refine lv_goto (tgt := 55) hx hb d_Md_isShown_51 (by decide) ?_
              refine lv_istore_n (lv' := [(3, .int (iI 1)), (0, .ref h0), (1, .int (iI ob)), (2, .int (iI hour)), (4, .int (iI k))]) hx hb d_Md_isShown_55 rfl hl (by decide) rfl (fun ls hl => ?_)
              refine nv_iinc (k := 4) (z := k + 1) (lv' := [(4, .int (iI (k + 1))), (3, .int (iI 1)), (0, .ref h0), (1, .int (iI ob)), (2, .int (iI hour))]) hx hb d_Md_isShown_56 hl rfl (by omega) (by decide) rfl (fun ls hl => ?_)
              refine lv_goto (tgt := 8) hx hb d_Md_isShown_59 (by decide) ?_
              exact ih3 1 (k + 1) ls (Nat.lt_of_lt_of_le v.2 (Nat.le_of_lt_succ hN4)) v.1 (lv_sub hl [2, 3, 4, 1, 0] rfl)
  exact L20 _ 0 (16 * ob) ls (Nat.lt_succ_self _) v18 (lv_sub hl [2, 3, 4, 1, 0] rfl)

theorem d_Md_bright_0 : decode prog_10_method_20_code 0 = .ok (.ldc2_w 125, 3) := by decide +kernel
theorem d_Md_bright_3 : decode prog_10_method_20_code 3 = .ok (.aload_n 0, 1) := by decide +kernel
theorem d_Md_bright_4 : decode prog_10_method_20_code 4 = .ok (.getfield 22, 3) := by decide +kernel
theorem d_Md_bright_7 : decode prog_10_method_20_code 7 = .ok (.iload_n 2, 1) := by decide +kernel
theorem d_Md_bright_8 : decode prog_10_method_20_code 8 = .ok (.bipush 24, 2) := by decide +kernel
theorem d_Md_bright_10 : decode prog_10_method_20_code 10 = .ok (.irem, 1) := by decide +kernel
theorem d_Md_bright_11 : decode prog_10_method_20_code 11 = .ok (.iaload, 1) := by decide +kernel
theorem d_Md_bright_12 : decode prog_10_method_20_code 12 = .ok (.i2l, 1) := by decide +kernel
theorem d_Md_bright_13 : decode prog_10_method_20_code 13 = .ok (.lmul, 1) := by decide +kernel
theorem d_Md_bright_14 : decode prog_10_method_20_code 14 = .ok (.lstore_n 3, 1) := by decide +kernel
theorem d_Md_bright_15 : decode prog_10_method_20_code 15 = .ok (.iconst 0, 1) := by decide +kernel
theorem d_Md_bright_16 : decode prog_10_method_20_code 16 = .ok (.istore 5, 2) := by decide +kernel
theorem d_Md_bright_18 : decode prog_10_method_20_code 18 = .ok (.iload 5, 2) := by decide +kernel
theorem d_Md_bright_20 : decode prog_10_method_20_code 20 = .ok (.aload_n 0, 1) := by decide +kernel
theorem d_Md_bright_21 : decode prog_10_method_20_code 21 = .ok (.getfield 89, 3) := by decide +kernel
theorem d_Md_bright_24 : decode prog_10_method_20_code 24 = .ok (.if_icmp .ge 44, 3) := by decide +kernel
theorem d_Md_bright_27 : decode prog_10_method_20_code 27 = .ok (.lload_n 3, 1) := by decide +kernel
theorem d_Md_bright_28 : decode prog_10_method_20_code 28 = .ok (.ldc2_w 127, 3) := by decide +kernel
theorem d_Md_bright_31 : decode prog_10_method_20_code 31 = .ok (.aload_n 0, 1) := by decide +kernel
theorem d_Md_bright_32 : decode prog_10_method_20_code 32 = .ok (.getfield 19, 3) := by decide +kernel
theorem d_Md_bright_35 : decode prog_10_method_20_code 35 = .ok (.bipush 12, 2) := by decide +kernel
theorem d_Md_bright_37 : decode prog_10_method_20_code 37 = .ok (.iload 5, 2) := by decide +kernel
theorem d_Md_bright_39 : decode prog_10_method_20_code 39 = .ok (.imul, 1) := by decide +kernel
theorem d_Md_bright_40 : decode prog_10_method_20_code 40 = .ok (.iload_n 1, 1) := by decide +kernel
theorem d_Md_bright_41 : decode prog_10_method_20_code 41 = .ok (.iadd, 1) := by decide +kernel
theorem d_Md_bright_42 : decode prog_10_method_20_code 42 = .ok (.iaload, 1) := by decide +kernel
theorem d_Md_bright_43 : decode prog_10_method_20_code 43 = .ok (.i2l, 1) := by decide +kernel
theorem d_Md_bright_44 : decode prog_10_method_20_code 44 = .ok (.lmul, 1) := by decide +kernel
theorem d_Md_bright_45 : decode prog_10_method_20_code 45 = .ok (.aload_n 0, 1) := by decide +kernel
theorem d_Md_bright_46 : decode prog_10_method_20_code 46 = .ok (.getfield 26, 3) := by decide +kernel
theorem d_Md_bright_49 : decode prog_10_method_20_code 49 = .ok (.sipush 26280, 3) := by decide +kernel
theorem d_Md_bright_52 : decode prog_10_method_20_code 52 = .ok (.iload 5, 2) := by decide +kernel
theorem d_Md_bright_54 : decode prog_10_method_20_code 54 = .ok (.imul, 1) := by decide +kernel
theorem d_Md_bright_55 : decode prog_10_method_20_code 55 = .ok (.iload_n 2, 1) := by decide +kernel
theorem d_Md_bright_56 : decode prog_10_method_20_code 56 = .ok (.iadd, 1) := by decide +kernel
theorem d_Md_bright_57 : decode prog_10_method_20_code 57 = .ok (.iaload, 1) := by decide +kernel
theorem d_Md_bright_58 : decode prog_10_method_20_code 58 = .ok (.i2l, 1) := by decide +kernel
theorem d_Md_bright_59 : decode prog_10_method_20_code 59 = .ok (.lmul, 1) := by decide +kernel
theorem d_Md_bright_60 : decode prog_10_method_20_code 60 = .ok (.ladd, 1) := by decide +kernel
theorem d_Md_bright_61 : decode prog_10_method_20_code 61 = .ok (.lstore_n 3, 1) := by decide +kernel
theorem d_Md_bright_62 : decode prog_10_method_20_code 62 = .ok (.iinc 5 1, 3) := by decide +kernel
theorem d_Md_bright_65 : decode prog_10_method_20_code 65 = .ok (.goto (-47), 3) := by decide +kernel
theorem d_Md_bright_68 : decode prog_10_method_20_code 68 = .ok (.lload_n 3, 1) := by decide +kernel
theorem d_Md_bright_69 : decode prog_10_method_20_code 69 = .ok (.lreturn, 1) := by decide +kernel
def vc_Md_bright (th : Int) (no : Int) (ca : Nat → Int) (ba : Nat → Int) (nl : Int) (xa : Nat → Int) (sa : Nat → Int) (da : Nat → Int) (la : Nat → Int) (ra : Nat → Int) (fa : Nat → Int) (ta : Nat → Int) (ua : Nat → Int) (uh : Nat → Int) (uo : Nat → Int) (ma : Nat → Int) (mh : Nat → Int) (ml : Nat → Int) (nf : Int) (fo : Nat → Int) (fh : Nat → Int) (fs : Nat → Int) (rs : Int) (ic : Int) (mn : Int) (bh : Nat → Int) (bo : Nat → Int) (ya : Nat → Int) (np : Int) (pa : Nat → Int) (nc : Int) (cp : Nat → Int) (ob : Int) (hour : Int) (post : Int → Prop) : Prop := (r32 hour) ∧ ((0 ≤ hour) ∧ ((0 ≤ hour % 24 ∧ hour % 24 < 24) ∧ ((r32 (da (hour % 24).toNat)) ∧ (∃ (I5 : Int → Int → Prop) (μ6 : Int → Int → Nat), I5 (3600000 * (da (hour % 24).toNat)) 0 ∧ ∀ (tot : Int) (j : Int), I5 tot j → (r32 j) ∧ ((r32 nl) ∧ ((nl ≤ j → post tot) ∧ (j < nl → (0 ≤ 12 * j + ob ∧ 12 * j + ob < 96) ∧ ((r32 (sa (12 * j + ob).toNat)) ∧ ((0 ≤ 26280 * j + hour ∧ 26280 * j + hour < 210240) ∧ ((r32 (la (26280 * j + hour).toNat)) ∧ (I5 (tot + ((3600 * (sa (12 * j + ob).toNat)) * (la (26280 * j + hour).toNat))) (j + 1) ∧ μ6 (tot + ((3600 * (sa (12 * j + ob).toNat)) * (la (26280 * j + hour).toNat))) (j + 1) < μ6 tot j)))))))))))
set_option maxHeartbeats 4000000 in
set_option maxRecDepth 100000 in
theorem m_Md_bright (l : Launch) (D : va_G) (cI cJ cO cZ : ClassId) (h0 h1 h2 h3 h4 h5 h6 h7 h8 h9 h10 h11 h12 h13 h14 h15 h16 h17 h18 h19 h20 h21 h22 h23 : Nat) (th : Int) (no : Int) (ca : Nat → Int) (ba : Nat → Int) (nl : Int) (xa : Nat → Int) (sa : Nat → Int) (da : Nat → Int) (la : Nat → Int) (ra : Nat → Int) (fa : Nat → Int) (ta : Nat → Int) (ua : Nat → Int) (uh : Nat → Int) (uo : Nat → Int) (ma : Nat → Int) (mh : Nat → Int) (ml : Nat → Int) (nf : Int) (fo : Nat → Int) (fh : Nat → Int) (fs : Nat → Int) (rs : Int) (ic : Int) (mn : Int) (bh : Nat → Int) (bo : Nat → Int) (ya : Nat → Int) (np : Int) (pa : Nat → Int) (nc : Int) (cp : Nat → Int) (ob : Int) (hour : Int) (post : Int → Prop) (v : vc_Md_bright th no ca ba nl xa sa da la ra fa ta ua uh uo ma mh ml nf fo fh fs rs ic mn bh bo ya np pa nc cp ob hour post) : Met l ⟨"LightDosesModel", "bright", "(II)J"⟩ (.code ⟨"LightDosesModel", "bright", "(II)J"⟩ prog_10_method_20_code 6 (some .long) :: TG) { frames := 0, cells := 0, slots := 0, locals := 0 } (va_Pc [.ref h0, .int (iI ob), .int (iI hour)] (fun U => va_K D vwCl (tyx cI cJ cO cZ) U ∧ va_P D vwCl (wMd cI cJ cZ h0 h1 h2 h3 h4 h5 h6 h7 h8 h9 h10 h11 h12 h13 h14 h15 h16 h17 h18 h19 h20 h21 h22 h23 th no ca ba nl xa sa da la ra fa ta ua uh uo ma mh ml nf fo fh fs rs ic mn bh bo ya np pa nc cp) U.heap)) (vp_Sl (fun r => ∃ z : Int, r = lI z ∧ post z)) 0 0 (fun _ => False) := by
  refine Met.ofW (cc := prog_10_method_20_code) (maxL := 6) (ret := (some .long)) (by decide) rfl ?_
  intro p e s m args below meth c s₁ B hml hv
  obtain ⟨rfl, hK, hP⟩ := hv
  have hx := B.exec
  have hb := B.bytes
  have hr := B.returns
  have hts0 := atoms_spec (ws := (.code ⟨"LightDosesModel", "bright", "(II)J"⟩ prog_10_method_20_code 6 (some .long) :: TG)) B.pre
  have hts : ∀ w ∈ TG, w.before _ s = true := fun w h => hts0 w (List.mem_cons_of_mem _ h)
  have hown : s.vm.findClass "LightDosesModel" = some m.cls := findClass_of_methodNamed B.named
  have hlocks := B.notSynchronized
  have hP : va_P D vwCl (wMd cI cJ cZ h0 h1 h2 h3 h4 h5 h6 h7 h8 h9 h10 h11 h12 h13 h14 h15 h16 h17 h18 h19 h20 h21 h22 h23 th no ca ba nl xa sa da la ra fa ta ua uh uo ma mh ml nf fo fh fs rs ic mn bh bo ya np pa nc cp) s.heap := hP
  have hl := lv_entry ([Value.ref h0, Value.int (iI ob), Value.int (iI hour)]) (n := 6) (Nat.le_of_ble_eq_true rfl)
  rw [lg_entry_eq]
  generalize (lg_sl ([Value.ref h0, Value.int (iI ob), Value.int (iI hour)]) ++ List.replicate (6 - (lg_sl ([Value.ref h0, Value.int (iI ob), Value.int (iI hour)])).length) Slot.unset).toArray = ls at hl ⊢
  have hl : lv_has ls 6 [(0, .ref h0), (1, .int (iI ob)), (2, .int (iI hour))] := hl
  unfold vc_Md_bright at v
  refine nv_ldc2 (z := 3600000) hx hb hown (hts _ wd_888) (by decide) d_Md_bright_0 ?_
  refine lv_aload_n hx hb d_Md_bright_3 rfl (lv_at hl 0 rfl) ?_
  refine va_get (D := D) (ci := 8) (v := .ref h5) (C := "LightDosesModel") (T := T_Md) (N := 32) hx hb hts in_Md hown hK hP 0 rfl rfl 7 (by decide) (hts _ wd_710) (fun _ h9 => h9) rfl d_Md_bright_4 ?_
  refine lv_iload_n hx hb d_Md_bright_7 rfl (lv_at hl 2 rfl) ?_
  refine nv_bipush (z := 24) hx hb d_Md_bright_8 (by decide) ?_
  obtain ⟨k1, v⟩ := v
  obtain ⟨k2, v⟩ := v
  refine nv_irem (z := hour % 24) hx hb d_Md_bright_10 k1 (by decide) k2 (by decide) rfl ?_
  obtain ⟨k3, v⟩ := v
  refine nv_iald (f := da) hx hb hK 0 (hP 5 _ rfl) rfl (hour % 24).toNat (Int.toNat_of_nonneg k3.1).symm (by omega) (by decide) d_Md_bright_11 ?_
  obtain ⟨k4, v⟩ := v
  refine nv_i2l hx hb d_Md_bright_12 k4 ?_
  refine nv_lmul (z := 3600000 * (da (hour % 24).toNat)) hx hb d_Md_bright_13 (by first | rfl | omega) ?_
  refine lv_lstore_n (lv' := [(3, .long (lI (3600000 * (da (hour % 24).toNat)))), (0, .ref h0), (1, .int (iI ob)), (2, .int (iI hour))]) hx hb d_Md_bright_14 rfl hl (by decide) rfl (fun ls hl => ?_)
  refine nv_iconst (n := 0) hx hb d_Md_bright_15 ?_
  refine lv_istore (lv' := [(5, .int (iI 0)), (3, .long (lI (3600000 * (da (hour % 24).toNat)))), (0, .ref h0), (1, .int (iI ob)), (2, .int (iI hour))]) hx hb d_Md_bright_16 hl (by decide) rfl (fun ls hl => ?_)
  obtain ⟨I5, μ6, v16, v17⟩ := v
  have L18 : ∀ (N : Nat) (tot : Int) (j : Int) (ls : Array Slot), μ6 tot j < N → I5 tot j → lv_has ls 6 [(0, .ref h0), (1, .int (iI ob)), (2, .int (iI hour)), (3, .long (lI tot)), (5, .int (iI j))] → W p l e (headSpec (.code ⟨"LightDosesModel", "bright", "(II)J"⟩ prog_10_method_20_code 6 (some .long) :: TG) { frames := 0, cells := 0, slots := 0, locals := 0 }).room s m ([Value.ref h0, Value.int (iI ob), Value.int (iI hour)] : List Value).toArray below meth c s.heap [] 0 0 (MQ below (vp_Sl (fun r => ∃ z : Int, r = lI z ∧ post z)) ([Value.ref h0, Value.int (iI ob), Value.int (iI hour)] : List Value).toArray s 0 0 (fun _ => False)) (F0 m 18 ls []) := by
    intro N
    induction N with
    | zero => intro tot j ls hN; exact absurd hN (Nat.not_lt_zero _)
    | succ N ih7 =>
      intro tot j ls hN8 hI hl
      have v := v17 tot j hI
      refine lv_iload hx hb d_Md_bright_18 (lv_at hl 4 rfl) ?_
      refine lv_aload_n hx hb d_Md_bright_20 rfl (lv_at hl 0 rfl) ?_
      refine va_get (D := D) (ci := 8) (v := .int (iI nl)) (C := "LightDosesModel") (T := T_Md) (N := 32) hx hb hts in_Md hown hK hP 0 rfl rfl 4 (by decide) (hts _ wd_707) (fun _ h9 => h9) rfl d_Md_bright_21 ?_
      obtain ⟨k9, v⟩ := v
      obtain ⟨k10, v⟩ := v
      refine nv_icmp_ge (tgt := 68) hx hb d_Md_bright_24 (by decide) k9 k10 (fun c11 => ?_) (fun c11 => ?_)
      · replace v := v.1 c11
        refine lv_lload_n hx hb d_Md_bright_68 rfl (lv_at hl 3 rfl) ?_
        exact W.lret hx hb hr (fun t ht hW => ⟨_, rfl, ⟨_, rfl, v⟩, ht⟩) (fun q h => by cases h) d_Md_bright_69
      · replace v := v.2 c11
        refine lv_lload_n hx hb d_Md_bright_27 rfl (lv_at hl 3 rfl) ?_
        refine nv_ldc2 (z := 3600) hx hb hown (hts _ wd_889) (by decide) d_Md_bright_28 ?_
        refine lv_aload_n hx hb d_Md_bright_31 rfl (lv_at hl 0 rfl) ?_
        refine va_get (D := D) (ci := 8) (v := .ref h4) (C := "LightDosesModel") (T := T_Md) (N := 32) hx hb hts in_Md hown hK hP 0 rfl rfl 6 (by decide) (hts _ wd_709) (fun _ h9 => h9) rfl d_Md_bright_32 ?_
        refine nv_bipush (z := 12) hx hb d_Md_bright_35 (by decide) ?_
        refine lv_iload hx hb d_Md_bright_37 (lv_at hl 4 rfl) ?_
        refine nv_imul (z := 12 * j) hx hb d_Md_bright_39 (by first | rfl | omega) ?_
        refine lv_iload_n hx hb d_Md_bright_40 rfl (lv_at hl 1 rfl) ?_
        refine nv_iadd (z := 12 * j + ob) hx hb d_Md_bright_41 (by first | rfl | omega) ?_
        obtain ⟨k12, v⟩ := v
        refine nv_iald (f := sa) hx hb hK 0 (hP 4 _ rfl) rfl (12 * j + ob).toNat (Int.toNat_of_nonneg k12.1).symm (by omega) (by decide) d_Md_bright_42 ?_
        obtain ⟨k13, v⟩ := v
        refine nv_i2l hx hb d_Md_bright_43 k13 ?_
        refine nv_lmul (z := 3600 * (sa (12 * j + ob).toNat)) hx hb d_Md_bright_44 (by first | rfl | omega) ?_
        refine lv_aload_n hx hb d_Md_bright_45 rfl (lv_at hl 0 rfl) ?_
        refine va_get (D := D) (ci := 8) (v := .ref h6) (C := "LightDosesModel") (T := T_Md) (N := 32) hx hb hts in_Md hown hK hP 0 rfl rfl 8 (by decide) (hts _ wd_711) (fun _ h9 => h9) rfl d_Md_bright_46 ?_
        refine nv_sipush (z := 26280) hx hb d_Md_bright_49 (by decide) ?_
        refine lv_iload hx hb d_Md_bright_52 (lv_at hl 4 rfl) ?_
        refine nv_imul (z := 26280 * j) hx hb d_Md_bright_54 (by first | rfl | omega) ?_
        refine lv_iload_n hx hb d_Md_bright_55 rfl (lv_at hl 2 rfl) ?_
        refine nv_iadd (z := 26280 * j + hour) hx hb d_Md_bright_56 (by first | rfl | omega) ?_
        obtain ⟨k14, v⟩ := v
        refine nv_iald (f := la) hx hb hK 0 (hP 6 _ rfl) rfl (26280 * j + hour).toNat (Int.toNat_of_nonneg k14.1).symm (by omega) (by decide) d_Md_bright_57 ?_
        obtain ⟨k15, v⟩ := v
        refine nv_i2l hx hb d_Md_bright_58 k15 ?_
        refine nv_lmul (z := (3600 * (sa (12 * j + ob).toNat)) * (la (26280 * j + hour).toNat)) hx hb d_Md_bright_59 (by first | rfl | omega) ?_
        refine nv_ladd (z := tot + ((3600 * (sa (12 * j + ob).toNat)) * (la (26280 * j + hour).toNat))) hx hb d_Md_bright_60 (by first | rfl | omega) ?_
        refine lv_lstore_n (lv' := [(3, .long (lI (tot + ((3600 * (sa (12 * j + ob).toNat)) * (la (26280 * j + hour).toNat))))), (0, .ref h0), (1, .int (iI ob)), (2, .int (iI hour)), (5, .int (iI j))]) hx hb d_Md_bright_61 rfl hl (by decide) rfl (fun ls hl => ?_)
        refine nv_iinc (k := 4) (z := j + 1) (lv' := [(5, .int (iI (j + 1))), (3, .long (lI (tot + ((3600 * (sa (12 * j + ob).toNat)) * (la (26280 * j + hour).toNat))))), (0, .ref h0), (1, .int (iI ob)), (2, .int (iI hour))]) hx hb d_Md_bright_62 hl rfl (by omega) (by decide) rfl (fun ls hl => ?_)
        refine lv_goto (tgt := 18) hx hb d_Md_bright_65 (by decide) ?_
        exact ih7 (tot + ((3600 * (sa (12 * j + ob).toNat)) * (la (26280 * j + hour).toNat))) (j + 1) ls (Nat.lt_of_lt_of_le v.2 (Nat.le_of_lt_succ hN8)) v.1 (lv_sub hl [2, 3, 4, 1, 0] rfl)
  exact L18 _ (3600000 * (da (hour % 24).toNat)) 0 ls (Nat.lt_succ_self _) v16 (lv_sub hl [2, 3, 4, 1, 0] rfl)

theorem d_Md_flashed_0 : decode prog_10_method_21_code 0 = .ok (.lconst 0, 1) := by decide +kernel
theorem d_Md_flashed_1 : decode prog_10_method_21_code 1 = .ok (.lstore 4, 2) := by decide +kernel
theorem d_Md_flashed_3 : decode prog_10_method_21_code 3 = .ok (.iconst 0, 1) := by decide +kernel
theorem d_Md_flashed_4 : decode prog_10_method_21_code 4 = .ok (.istore 6, 2) := by decide +kernel
theorem d_Md_flashed_6 : decode prog_10_method_21_code 6 = .ok (.iload 6, 2) := by decide +kernel
theorem d_Md_flashed_8 : decode prog_10_method_21_code 8 = .ok (.aload_n 0, 1) := by decide +kernel
theorem d_Md_flashed_9 : decode prog_10_method_21_code 9 = .ok (.getfield 122, 3) := by decide +kernel
theorem d_Md_flashed_12 : decode prog_10_method_21_code 12 = .ok (.if_icmp .ge 76, 3) := by decide +kernel
theorem d_Md_flashed_15 : decode prog_10_method_21_code 15 = .ok (.aload_n 0, 1) := by decide +kernel
theorem d_Md_flashed_16 : decode prog_10_method_21_code 16 = .ok (.getfield 57, 3) := by decide +kernel
theorem d_Md_flashed_19 : decode prog_10_method_21_code 19 = .ok (.iload 6, 2) := by decide +kernel
theorem d_Md_flashed_21 : decode prog_10_method_21_code 21 = .ok (.iaload, 1) := by decide +kernel
theorem d_Md_flashed_22 : decode prog_10_method_21_code 22 = .ok (.iload_n 1, 1) := by decide +kernel
theorem d_Md_flashed_23 : decode prog_10_method_21_code 23 = .ok (.if_icmp .ne 29, 3) := by decide +kernel
theorem d_Md_flashed_26 : decode prog_10_method_21_code 26 = .ok (.aload_n 0, 1) := by decide +kernel
theorem d_Md_flashed_27 : decode prog_10_method_21_code 27 = .ok (.getfield 60, 3) := by decide +kernel
theorem d_Md_flashed_30 : decode prog_10_method_21_code 30 = .ok (.iload 6, 2) := by decide +kernel
theorem d_Md_flashed_32 : decode prog_10_method_21_code 32 = .ok (.iaload, 1) := by decide +kernel
theorem d_Md_flashed_33 : decode prog_10_method_21_code 33 = .ok (.iload_n 2, 1) := by decide +kernel
theorem d_Md_flashed_34 : decode prog_10_method_21_code 34 = .ok (.if_icmp .lt 18, 3) := by decide +kernel
theorem d_Md_flashed_37 : decode prog_10_method_21_code 37 = .ok (.aload_n 0, 1) := by decide +kernel
theorem d_Md_flashed_38 : decode prog_10_method_21_code 38 = .ok (.getfield 60, 3) := by decide +kernel
theorem d_Md_flashed_41 : decode prog_10_method_21_code 41 = .ok (.iload 6, 2) := by decide +kernel
theorem d_Md_flashed_43 : decode prog_10_method_21_code 43 = .ok (.iaload, 1) := by decide +kernel
theorem d_Md_flashed_44 : decode prog_10_method_21_code 44 = .ok (.iload_n 3, 1) := by decide +kernel
theorem d_Md_flashed_45 : decode prog_10_method_21_code 45 = .ok (.if_icmp .ge 7, 3) := by decide +kernel
theorem d_Md_flashed_48 : decode prog_10_method_21_code 48 = .ok (.iconst 1, 1) := by decide +kernel
theorem d_Md_flashed_49 : decode prog_10_method_21_code 49 = .ok (.goto 4, 3) := by decide +kernel
theorem d_Md_flashed_52 : decode prog_10_method_21_code 52 = .ok (.iconst 0, 1) := by decide +kernel
theorem d_Md_flashed_53 : decode prog_10_method_21_code 53 = .ok (.istore 7, 2) := by decide +kernel
theorem d_Md_flashed_55 : decode prog_10_method_21_code 55 = .ok (.iload 7, 2) := by decide +kernel
theorem d_Md_flashed_57 : decode prog_10_method_21_code 57 = .ok (.ifCond .eq 21, 3) := by decide +kernel
theorem d_Md_flashed_60 : decode prog_10_method_21_code 60 = .ok (.lload 4, 2) := by decide +kernel
theorem d_Md_flashed_62 : decode prog_10_method_21_code 62 = .ok (.ldc2_w 129, 3) := by decide +kernel
theorem d_Md_flashed_65 : decode prog_10_method_21_code 65 = .ok (.aload_n 0, 1) := by decide +kernel
theorem d_Md_flashed_66 : decode prog_10_method_21_code 66 = .ok (.getfield 63, 3) := by decide +kernel
theorem d_Md_flashed_69 : decode prog_10_method_21_code 69 = .ok (.iload 6, 2) := by decide +kernel
theorem d_Md_flashed_71 : decode prog_10_method_21_code 71 = .ok (.iaload, 1) := by decide +kernel
theorem d_Md_flashed_72 : decode prog_10_method_21_code 72 = .ok (.i2l, 1) := by decide +kernel
theorem d_Md_flashed_73 : decode prog_10_method_21_code 73 = .ok (.lmul, 1) := by decide +kernel
theorem d_Md_flashed_74 : decode prog_10_method_21_code 74 = .ok (.ladd, 1) := by decide +kernel
theorem d_Md_flashed_75 : decode prog_10_method_21_code 75 = .ok (.goto 5, 3) := by decide +kernel
theorem d_Md_flashed_78 : decode prog_10_method_21_code 78 = .ok (.lload 4, 2) := by decide +kernel
theorem d_Md_flashed_80 : decode prog_10_method_21_code 80 = .ok (.lstore 4, 2) := by decide +kernel
theorem d_Md_flashed_82 : decode prog_10_method_21_code 82 = .ok (.iinc 6 1, 3) := by decide +kernel
theorem d_Md_flashed_85 : decode prog_10_method_21_code 85 = .ok (.goto (-79), 3) := by decide +kernel
theorem d_Md_flashed_88 : decode prog_10_method_21_code 88 = .ok (.lload 4, 2) := by decide +kernel
theorem d_Md_flashed_90 : decode prog_10_method_21_code 90 = .ok (.lreturn, 1) := by decide +kernel
def vc_Md_flashed (th : Int) (no : Int) (ca : Nat → Int) (ba : Nat → Int) (nl : Int) (xa : Nat → Int) (sa : Nat → Int) (da : Nat → Int) (la : Nat → Int) (ra : Nat → Int) (fa : Nat → Int) (ta : Nat → Int) (ua : Nat → Int) (uh : Nat → Int) (uo : Nat → Int) (ma : Nat → Int) (mh : Nat → Int) (ml : Nat → Int) (nf : Int) (fo : Nat → Int) (fh : Nat → Int) (fs : Nat → Int) (rs : Int) (ic : Int) (mn : Int) (bh : Nat → Int) (bo : Nat → Int) (ya : Nat → Int) (np : Int) (pa : Nat → Int) (nc : Int) (cp : Nat → Int) (ob : Int) (from_ : Int) (to_ : Int) (post : Int → Prop) : Prop := ∃ (I1 : Int → Int → Prop) (μ2 : Int → Int → Nat), I1 0 0 ∧ ∀ (tot : Int) (k : Int), I1 tot k → (r32 k) ∧ ((r32 nf) ∧ ((nf ≤ k → post tot) ∧ (k < nf → (0 ≤ k ∧ k < 40) ∧ ((r32 (fo (k).toNat)) ∧ ((r32 ob) ∧ ((¬ fo (k).toNat = ob → I1 tot (k + 1) ∧ μ2 tot (k + 1) < μ2 tot k) ∧ (fo (k).toNat = ob → (0 ≤ k ∧ k < 40) ∧ ((r32 (fh (k).toNat)) ∧ ((r32 from_) ∧ ((fh (k).toNat < from_ → I1 tot (k + 1) ∧ μ2 tot (k + 1) < μ2 tot k) ∧ (from_ ≤ fh (k).toNat → (0 ≤ k ∧ k < 40) ∧ ((r32 to_) ∧ ((to_ ≤ fh (k).toNat → I1 tot (k + 1) ∧ μ2 tot (k + 1) < μ2 tot k) ∧ (fh (k).toNat < to_ → (0 ≤ k ∧ k < 40) ∧ ((r32 (fs (k).toNat)) ∧ (I1 (tot + (1000 * (fs (k).toNat))) (k + 1) ∧ μ2 (tot + (1000 * (fs (k).toNat))) (k + 1) < μ2 tot k))))))))))))))))
set_option maxHeartbeats 4000000 in
set_option maxRecDepth 100000 in
theorem m_Md_flashed (l : Launch) (D : va_G) (cI cJ cO cZ : ClassId) (h0 h1 h2 h3 h4 h5 h6 h7 h8 h9 h10 h11 h12 h13 h14 h15 h16 h17 h18 h19 h20 h21 h22 h23 : Nat) (th : Int) (no : Int) (ca : Nat → Int) (ba : Nat → Int) (nl : Int) (xa : Nat → Int) (sa : Nat → Int) (da : Nat → Int) (la : Nat → Int) (ra : Nat → Int) (fa : Nat → Int) (ta : Nat → Int) (ua : Nat → Int) (uh : Nat → Int) (uo : Nat → Int) (ma : Nat → Int) (mh : Nat → Int) (ml : Nat → Int) (nf : Int) (fo : Nat → Int) (fh : Nat → Int) (fs : Nat → Int) (rs : Int) (ic : Int) (mn : Int) (bh : Nat → Int) (bo : Nat → Int) (ya : Nat → Int) (np : Int) (pa : Nat → Int) (nc : Int) (cp : Nat → Int) (ob : Int) (from_ : Int) (to_ : Int) (post : Int → Prop) (v : vc_Md_flashed th no ca ba nl xa sa da la ra fa ta ua uh uo ma mh ml nf fo fh fs rs ic mn bh bo ya np pa nc cp ob from_ to_ post) : Met l ⟨"LightDosesModel", "flashed", "(III)J"⟩ (.code ⟨"LightDosesModel", "flashed", "(III)J"⟩ prog_10_method_21_code 8 (some .long) :: TG) { frames := 0, cells := 0, slots := 0, locals := 0 } (va_Pc [.ref h0, .int (iI ob), .int (iI from_), .int (iI to_)] (fun U => va_K D vwCl (tyx cI cJ cO cZ) U ∧ va_P D vwCl (wMd cI cJ cZ h0 h1 h2 h3 h4 h5 h6 h7 h8 h9 h10 h11 h12 h13 h14 h15 h16 h17 h18 h19 h20 h21 h22 h23 th no ca ba nl xa sa da la ra fa ta ua uh uo ma mh ml nf fo fh fs rs ic mn bh bo ya np pa nc cp) U.heap)) (vp_Sl (fun r => ∃ z : Int, r = lI z ∧ post z)) 0 0 (fun _ => False) := by
  refine Met.ofW (cc := prog_10_method_21_code) (maxL := 8) (ret := (some .long)) (by decide) rfl ?_
  intro p e s m args below meth c s₁ B hml hv
  obtain ⟨rfl, hK, hP⟩ := hv
  have hx := B.exec
  have hb := B.bytes
  have hr := B.returns
  have hts0 := atoms_spec (ws := (.code ⟨"LightDosesModel", "flashed", "(III)J"⟩ prog_10_method_21_code 8 (some .long) :: TG)) B.pre
  have hts : ∀ w ∈ TG, w.before _ s = true := fun w h => hts0 w (List.mem_cons_of_mem _ h)
  have hown : s.vm.findClass "LightDosesModel" = some m.cls := findClass_of_methodNamed B.named
  have hlocks := B.notSynchronized
  have hP : va_P D vwCl (wMd cI cJ cZ h0 h1 h2 h3 h4 h5 h6 h7 h8 h9 h10 h11 h12 h13 h14 h15 h16 h17 h18 h19 h20 h21 h22 h23 th no ca ba nl xa sa da la ra fa ta ua uh uo ma mh ml nf fo fh fs rs ic mn bh bo ya np pa nc cp) s.heap := hP
  have hl := lv_entry ([Value.ref h0, Value.int (iI ob), Value.int (iI from_), Value.int (iI to_)]) (n := 8) (Nat.le_of_ble_eq_true rfl)
  rw [lg_entry_eq]
  generalize (lg_sl ([Value.ref h0, Value.int (iI ob), Value.int (iI from_), Value.int (iI to_)]) ++ List.replicate (8 - (lg_sl ([Value.ref h0, Value.int (iI ob), Value.int (iI from_), Value.int (iI to_)])).length) Slot.unset).toArray = ls at hl ⊢
  have hl : lv_has ls 8 [(0, .ref h0), (1, .int (iI ob)), (2, .int (iI from_)), (3, .int (iI to_))] := hl
  unfold vc_Md_flashed at v
  refine lv_lconst (v := lI 0) hx hb d_Md_flashed_0 (by decide) ?_
  refine lv_lstore (lv' := [(4, .long (lI 0)), (0, .ref h0), (1, .int (iI ob)), (2, .int (iI from_)), (3, .int (iI to_))]) hx hb d_Md_flashed_1 hl (by decide) rfl (fun ls hl => ?_)
  refine nv_iconst (n := 0) hx hb d_Md_flashed_3 ?_
  refine lv_istore (lv' := [(6, .int (iI 0)), (4, .long (lI 0)), (0, .ref h0), (1, .int (iI ob)), (2, .int (iI from_)), (3, .int (iI to_))]) hx hb d_Md_flashed_4 hl (by decide) rfl (fun ls hl => ?_)
  obtain ⟨I1, μ2, v25, v26⟩ := v
  have L27 : ∀ (N : Nat) (tot : Int) (k : Int) (ls : Array Slot), μ2 tot k < N → I1 tot k → lv_has ls 8 [(0, .ref h0), (1, .int (iI ob)), (2, .int (iI from_)), (3, .int (iI to_)), (4, .long (lI tot)), (6, .int (iI k))] → W p l e (headSpec (.code ⟨"LightDosesModel", "flashed", "(III)J"⟩ prog_10_method_21_code 8 (some .long) :: TG) { frames := 0, cells := 0, slots := 0, locals := 0 }).room s m ([Value.ref h0, Value.int (iI ob), Value.int (iI from_), Value.int (iI to_)] : List Value).toArray below meth c s.heap [] 0 0 (MQ below (vp_Sl (fun r => ∃ z : Int, r = lI z ∧ post z)) ([Value.ref h0, Value.int (iI ob), Value.int (iI from_), Value.int (iI to_)] : List Value).toArray s 0 0 (fun _ => False)) (F0 m 6 ls []) := by
    intro N
    induction N with
    | zero => intro tot k ls hN; exact absurd hN (Nat.not_lt_zero _)
    | succ N ih3 =>
      intro tot k ls hN4 hI hl
      have v := v26 tot k hI
      refine lv_iload hx hb d_Md_flashed_6 (lv_at hl 5 rfl) ?_
      refine lv_aload_n hx hb d_Md_flashed_8 rfl (lv_at hl 0 rfl) ?_
      refine va_get (D := D) (ci := 8) (v := .int (iI nf)) (C := "LightDosesModel") (T := T_Md) (N := 32) hx hb hts in_Md hown hK hP 0 rfl rfl 18 (by decide) (hts _ wd_721) (fun _ h9 => h9) rfl d_Md_flashed_9 ?_
      obtain ⟨k5, v⟩ := v
      obtain ⟨k6, v⟩ := v
      refine nv_icmp_ge (tgt := 88) hx hb d_Md_flashed_12 (by decide) k5 k6 (fun c7 => ?_) (fun c7 => ?_)
      · replace v := v.1 c7
        refine lv_lload hx hb d_Md_flashed_88 (lv_at hl 4 rfl) ?_
        exact W.lret hx hb hr (fun t ht hW => ⟨_, rfl, ⟨_, rfl, v⟩, ht⟩) (fun q h => by cases h) d_Md_flashed_90
      · replace v := v.2 c7
        refine lv_aload_n hx hb d_Md_flashed_15 rfl (lv_at hl 0 rfl) ?_
        refine va_get (D := D) (ci := 8) (v := .ref h16) (C := "LightDosesModel") (T := T_Md) (N := 32) hx hb hts in_Md hown hK hP 0 rfl rfl 19 (by decide) (hts _ wd_722) (fun _ h9 => h9) rfl d_Md_flashed_16 ?_
        refine lv_iload hx hb d_Md_flashed_19 (lv_at hl 5 rfl) ?_
        obtain ⟨k8, v⟩ := v
        refine nv_iald (f := fo) hx hb hK 0 (hP 16 _ rfl) rfl (k).toNat (Int.toNat_of_nonneg k8.1).symm (by omega) (by decide) d_Md_flashed_21 ?_
        refine lv_iload_n hx hb d_Md_flashed_22 rfl (lv_at hl 1 rfl) ?_
        obtain ⟨k9, v⟩ := v
        obtain ⟨k10, v⟩ := v
        refine nv_icmp_ne (tgt := 52) hx hb d_Md_flashed_23 (by decide) k9 k10 (fun c11 => ?_) (fun c11 => ?_)
        · replace v := v.1 c11
          refine nv_iconst (n := 0) hx hb d_Md_flashed_52 ?_
          refine lv_istore (lv' := [(7, .int (iI 0)), (0, .ref h0), (1, .int (iI ob)), (2, .int (iI from_)), (3, .int (iI to_)), (4, .long (lI tot)), (6, .int (iI k))]) hx hb d_Md_flashed_53 hl (by decide) rfl (fun ls hl => ?_)
          refine lv_iload hx hb d_Md_flashed_55 (lv_at hl 0 rfl) ?_
          refine nv_if_eq (tgt := 78) hx hb d_Md_flashed_57 (by decide) (by decide) (fun _ => ?_) (fun c12 => absurd c12 (by decide))
          refine lv_lload hx hb d_Md_flashed_78 (lv_at hl 5 rfl) ?_
          refine lv_lstore (lv' := [(4, .long (lI tot)), (7, .int (iI 0)), (0, .ref h0), (1, .int (iI ob)), (2, .int (iI from_)), (3, .int (iI to_)), (6, .int (iI k))]) hx hb d_Md_flashed_80 hl (by decide) rfl (fun ls hl => ?_)
          refine nv_iinc (k := 6) (z := k + 1) (lv' := [(6, .int (iI (k + 1))), (4, .long (lI tot)), (7, .int (iI 0)), (0, .ref h0), (1, .int (iI ob)), (2, .int (iI from_)), (3, .int (iI to_))]) hx hb d_Md_flashed_82 hl rfl (by omega) (by decide) rfl (fun ls hl => ?_)
          refine lv_goto (tgt := 6) hx hb d_Md_flashed_85 (by decide) ?_
          exact ih3 tot (k + 1) ls (Nat.lt_of_lt_of_le v.2 (Nat.le_of_lt_succ hN4)) v.1 (lv_sub hl [3, 4, 5, 6, 1, 0] rfl)
        · replace v := v.2 c11
          refine lv_aload_n hx hb d_Md_flashed_26 rfl (lv_at hl 0 rfl) ?_
          refine va_get (D := D) (ci := 8) (v := .ref h17) (C := "LightDosesModel") (T := T_Md) (N := 32) hx hb hts in_Md hown hK hP 0 rfl rfl 20 (by decide) (hts _ wd_723) (fun _ h9 => h9) rfl d_Md_flashed_27 ?_
          refine lv_iload hx hb d_Md_flashed_30 (lv_at hl 5 rfl) ?_
          obtain ⟨k13, v⟩ := v
          refine nv_iald (f := fh) hx hb hK 0 (hP 17 _ rfl) rfl (k).toNat (Int.toNat_of_nonneg k13.1).symm (by omega) (by decide) d_Md_flashed_32 ?_
          refine lv_iload_n hx hb d_Md_flashed_33 rfl (lv_at hl 2 rfl) ?_
          obtain ⟨k14, v⟩ := v
          obtain ⟨k15, v⟩ := v
          refine nv_icmp_lt (tgt := 52) hx hb d_Md_flashed_34 (by decide) k14 k15 (fun c16 => ?_) (fun c16 => ?_)
          · replace v := v.1 c16
            refine nv_iconst (n := 0) hx hb d_Md_flashed_52 ?_
            refine lv_istore (lv' := [(7, .int (iI 0)), (0, .ref h0), (1, .int (iI ob)), (2, .int (iI from_)), (3, .int (iI to_)), (4, .long (lI tot)), (6, .int (iI k))]) hx hb d_Md_flashed_53 hl (by decide) rfl (fun ls hl => ?_)
            refine lv_iload hx hb d_Md_flashed_55 (lv_at hl 0 rfl) ?_
            refine nv_if_eq (tgt := 78) hx hb d_Md_flashed_57 (by decide) (by decide) (fun _ => ?_) (fun c17 => absurd c17 (by decide))
            refine lv_lload hx hb d_Md_flashed_78 (lv_at hl 5 rfl) ?_
            refine lv_lstore (lv' := [(4, .long (lI tot)), (7, .int (iI 0)), (0, .ref h0), (1, .int (iI ob)), (2, .int (iI from_)), (3, .int (iI to_)), (6, .int (iI k))]) hx hb d_Md_flashed_80 hl (by decide) rfl (fun ls hl => ?_)
            refine nv_iinc (k := 6) (z := k + 1) (lv' := [(6, .int (iI (k + 1))), (4, .long (lI tot)), (7, .int (iI 0)), (0, .ref h0), (1, .int (iI ob)), (2, .int (iI from_)), (3, .int (iI to_))]) hx hb d_Md_flashed_82 hl rfl (by omega) (by decide) rfl (fun ls hl => ?_)
            refine lv_goto (tgt := 6) hx hb d_Md_flashed_85 (by decide) ?_
            exact ih3 tot (k + 1) ls (Nat.lt_of_lt_of_le v.2 (Nat.le_of_lt_succ hN4)) v.1 (lv_sub hl [3, 4, 5, 6, 1, 0] rfl)
          · replace v := v.2 c16
            refine lv_aload_n hx hb d_Md_flashed_37 rfl (lv_at hl 0 rfl) ?_
            refine va_get (D := D) (ci := 8) (v := .ref h17) (C := "LightDosesModel") (T := T_Md) (N := 32) hx hb hts in_Md hown hK hP 0 rfl rfl 20 (by decide) (hts _ wd_723) (fun _ h9 => h9) rfl d_Md_flashed_38 ?_
            refine lv_iload hx hb d_Md_flashed_41 (lv_at hl 5 rfl) ?_
            obtain ⟨k18, v⟩ := v
            refine nv_iald (f := fh) hx hb hK 0 (hP 17 _ rfl) rfl (k).toNat (Int.toNat_of_nonneg k18.1).symm (by omega) (by decide) d_Md_flashed_43 ?_
            refine lv_iload_n hx hb d_Md_flashed_44 rfl (lv_at hl 3 rfl) ?_
            obtain ⟨k19, v⟩ := v
            refine nv_icmp_ge (tgt := 52) hx hb d_Md_flashed_45 (by decide) k14 k19 (fun c20 => ?_) (fun c20 => ?_)
            · replace v := v.1 c20
              refine nv_iconst (n := 0) hx hb d_Md_flashed_52 ?_
              refine lv_istore (lv' := [(7, .int (iI 0)), (0, .ref h0), (1, .int (iI ob)), (2, .int (iI from_)), (3, .int (iI to_)), (4, .long (lI tot)), (6, .int (iI k))]) hx hb d_Md_flashed_53 hl (by decide) rfl (fun ls hl => ?_)
              refine lv_iload hx hb d_Md_flashed_55 (lv_at hl 0 rfl) ?_
              refine nv_if_eq (tgt := 78) hx hb d_Md_flashed_57 (by decide) (by decide) (fun _ => ?_) (fun c21 => absurd c21 (by decide))
              refine lv_lload hx hb d_Md_flashed_78 (lv_at hl 5 rfl) ?_
              refine lv_lstore (lv' := [(4, .long (lI tot)), (7, .int (iI 0)), (0, .ref h0), (1, .int (iI ob)), (2, .int (iI from_)), (3, .int (iI to_)), (6, .int (iI k))]) hx hb d_Md_flashed_80 hl (by decide) rfl (fun ls hl => ?_)
              refine nv_iinc (k := 6) (z := k + 1) (lv' := [(6, .int (iI (k + 1))), (4, .long (lI tot)), (7, .int (iI 0)), (0, .ref h0), (1, .int (iI ob)), (2, .int (iI from_)), (3, .int (iI to_))]) hx hb d_Md_flashed_82 hl rfl (by omega) (by decide) rfl (fun ls hl => ?_)
              refine lv_goto (tgt := 6) hx hb d_Md_flashed_85 (by decide) ?_
              exact ih3 tot (k + 1) ls (Nat.lt_of_lt_of_le v.2 (Nat.le_of_lt_succ hN4)) v.1 (lv_sub hl [3, 4, 5, 6, 1, 0] rfl)
            · replace v := v.2 c20
              refine nv_iconst (n := 1) hx hb d_Md_flashed_48 ?_
              refine lv_goto (tgt := 53) hx hb d_Md_flashed_49 (by decide) ?_
              refine lv_istore (lv' := [(7, .int (iI 1)), (0, .ref h0), (1, .int (iI ob)), (2, .int (iI from_)), (3, .int (iI to_)), (4, .long (lI tot)), (6, .int (iI k))]) hx hb d_Md_flashed_53 hl (by decide) rfl (fun ls hl => ?_)
              refine lv_iload hx hb d_Md_flashed_55 (lv_at hl 0 rfl) ?_
              refine nv_if_eq (tgt := 78) hx hb d_Md_flashed_57 (by decide) (by decide) (fun c22 => absurd c22 (by decide)) (fun _ => ?_)
              refine lv_lload hx hb d_Md_flashed_60 (lv_at hl 5 rfl) ?_
              refine nv_ldc2 (z := 1000) hx hb hown (hts _ wd_879) (by decide) d_Md_flashed_62 ?_
              refine lv_aload_n hx hb d_Md_flashed_65 rfl (lv_at hl 1 rfl) ?_
              refine va_get (D := D) (ci := 8) (v := .ref h18) (C := "LightDosesModel") (T := T_Md) (N := 32) hx hb hts in_Md hown hK hP 0 rfl rfl 21 (by decide) (hts _ wd_724) (fun _ h9 => h9) rfl d_Md_flashed_66 ?_
              refine lv_iload hx hb d_Md_flashed_69 (lv_at hl 6 rfl) ?_
              obtain ⟨k23, v⟩ := v
              refine nv_iald (f := fs) hx hb hK 0 (hP 18 _ rfl) rfl (k).toNat (Int.toNat_of_nonneg k23.1).symm (by omega) (by decide) d_Md_flashed_71 ?_
              obtain ⟨k24, v⟩ := v
              refine nv_i2l hx hb d_Md_flashed_72 k24 ?_
              refine nv_lmul (z := 1000 * (fs (k).toNat)) hx hb d_Md_flashed_73 (by first | rfl | omega) ?_
              refine nv_ladd (z := tot + (1000 * (fs (k).toNat))) hx hb d_Md_flashed_74 (by first | rfl | omega) ?_
              refine lv_goto (tgt := 80) hx hb d_Md_flashed_75 (by decide) ?_
              refine lv_lstore (lv' := [(4, .long (lI (tot + (1000 * (fs (k).toNat))))), (7, .int (iI 1)), (0, .ref h0), (1, .int (iI ob)), (2, .int (iI from_)), (3, .int (iI to_)), (6, .int (iI k))]) hx hb d_Md_flashed_80 hl (by decide) rfl (fun ls hl => ?_)
              refine nv_iinc (k := 6) (z := k + 1) (lv' := [(6, .int (iI (k + 1))), (4, .long (lI (tot + (1000 * (fs (k).toNat))))), (7, .int (iI 1)), (0, .ref h0), (1, .int (iI ob)), (2, .int (iI from_)), (3, .int (iI to_))]) hx hb d_Md_flashed_82 hl rfl (by omega) (by decide) rfl (fun ls hl => ?_)
              refine lv_goto (tgt := 6) hx hb d_Md_flashed_85 (by decide) ?_
              exact ih3 (tot + (1000 * (fs (k).toNat))) (k + 1) ls (Nat.lt_of_lt_of_le v.2 (Nat.le_of_lt_succ hN4)) v.1 (lv_sub hl [3, 4, 5, 6, 1, 0] rfl)
  exact L27 _ 0 0 ls (Nat.lt_succ_self _) v25 (lv_sub hl [2, 3, 4, 5, 1, 0] rfl)

theorem d_Md_parts_0 : decode prog_10_method_22_code 0 = .ok (.aload_n 0, 1) := by decide +kernel
theorem d_Md_parts_1 : decode prog_10_method_22_code 1 = .ok (.iload_n 1, 1) := by decide +kernel
theorem d_Md_parts_2 : decode prog_10_method_22_code 2 = .ok (.iload_n 2, 1) := by decide +kernel
theorem d_Md_parts_3 : decode prog_10_method_22_code 3 = .ok (.iload_n 3, 1) := by decide +kernel
theorem d_Md_parts_4 : decode prog_10_method_22_code 4 = .ok (.invokevirtual 131, 3) := by decide +kernel
theorem d_Md_parts_7 : decode prog_10_method_22_code 7 = .ok (.lstore 4, 2) := by decide +kernel
theorem d_Md_parts_9 : decode prog_10_method_22_code 9 = .ok (.iload_n 2, 1) := by decide +kernel
theorem d_Md_parts_10 : decode prog_10_method_22_code 10 = .ok (.istore 6, 2) := by decide +kernel
theorem d_Md_parts_12 : decode prog_10_method_22_code 12 = .ok (.iload 6, 2) := by decide +kernel
theorem d_Md_parts_14 : decode prog_10_method_22_code 14 = .ok (.iload_n 3, 1) := by decide +kernel
theorem d_Md_parts_15 : decode prog_10_method_22_code 15 = .ok (.if_icmp .ge 31, 3) := by decide +kernel
theorem d_Md_parts_18 : decode prog_10_method_22_code 18 = .ok (.aload_n 0, 1) := by decide +kernel
theorem d_Md_parts_19 : decode prog_10_method_22_code 19 = .ok (.iload_n 1, 1) := by decide +kernel
theorem d_Md_parts_20 : decode prog_10_method_22_code 20 = .ok (.iload 6, 2) := by decide +kernel
theorem d_Md_parts_22 : decode prog_10_method_22_code 22 = .ok (.invokevirtual 135, 3) := by decide +kernel
theorem d_Md_parts_25 : decode prog_10_method_22_code 25 = .ok (.ifCond .eq 15, 3) := by decide +kernel
theorem d_Md_parts_28 : decode prog_10_method_22_code 28 = .ok (.lload 4, 2) := by decide +kernel
theorem d_Md_parts_30 : decode prog_10_method_22_code 30 = .ok (.aload_n 0, 1) := by decide +kernel
theorem d_Md_parts_31 : decode prog_10_method_22_code 31 = .ok (.iload_n 1, 1) := by decide +kernel
theorem d_Md_parts_32 : decode prog_10_method_22_code 32 = .ok (.iload 6, 2) := by decide +kernel
theorem d_Md_parts_34 : decode prog_10_method_22_code 34 = .ok (.invokevirtual 139, 3) := by decide +kernel
theorem d_Md_parts_37 : decode prog_10_method_22_code 37 = .ok (.ladd, 1) := by decide +kernel
theorem d_Md_parts_38 : decode prog_10_method_22_code 38 = .ok (.lstore 4, 2) := by decide +kernel
theorem d_Md_parts_40 : decode prog_10_method_22_code 40 = .ok (.iinc 6 1, 3) := by decide +kernel
theorem d_Md_parts_43 : decode prog_10_method_22_code 43 = .ok (.goto (-31), 3) := by decide +kernel
theorem d_Md_parts_46 : decode prog_10_method_22_code 46 = .ok (.lload 4, 2) := by decide +kernel
theorem d_Md_parts_48 : decode prog_10_method_22_code 48 = .ok (.lreturn, 1) := by decide +kernel
def vc_Md_parts (th : Int) (no : Int) (ca : Nat → Int) (ba : Nat → Int) (nl : Int) (xa : Nat → Int) (sa : Nat → Int) (da : Nat → Int) (la : Nat → Int) (ra : Nat → Int) (fa : Nat → Int) (ta : Nat → Int) (ua : Nat → Int) (uh : Nat → Int) (uo : Nat → Int) (ma : Nat → Int) (mh : Nat → Int) (ml : Nat → Int) (nf : Int) (fo : Nat → Int) (fh : Nat → Int) (fs : Nat → Int) (rs : Int) (ic : Int) (mn : Int) (bh : Nat → Int) (bo : Nat → Int) (ya : Nat → Int) (np : Int) (pa : Nat → Int) (nc : Int) (cp : Nat → Int) (ob : Int) (from_ : Int) (to_ : Int) (post : Int → Prop) : Prop := ∃ P1 : Int → Prop, vc_Md_flashed th no ca ba nl xa sa da la ra fa ta ua uh uo ma mh ml nf fo fh fs rs ic mn bh bo ya np pa nc cp ob from_ to_ P1 ∧ ∀ z2 : Int, P1 z2 → ∃ (I4 : Int → Int → Prop) (μ5 : Int → Int → Nat), I4 z2 from_ ∧ ∀ (tot : Int) (hh : Int), I4 tot hh → (r32 hh) ∧ ((r32 to_) ∧ ((to_ ≤ hh → post tot) ∧ (hh < to_ → ∃ P11 : Int → Prop, vc_Md_isShown th no ca ba nl xa sa da la ra fa ta ua uh uo ma mh ml nf fo fh fs rs ic mn bh bo ya np pa nc cp ob hh P11 ∧ ∀ z12 : Int, P11 z12 → (r32 z12) ∧ ((z12 = 0 → I4 tot (hh + 1) ∧ μ5 tot (hh + 1) < μ5 tot hh) ∧ (¬ z12 = 0 → ∃ P16 : Int → Prop, vc_Md_bright th no ca ba nl xa sa da la ra fa ta ua uh uo ma mh ml nf fo fh fs rs ic mn bh bo ya np pa nc cp ob hh P16 ∧ ∀ z17 : Int, P16 z17 → I4 (tot + z17) (hh + 1) ∧ μ5 (tot + z17) (hh + 1) < μ5 tot hh)))))
set_option maxHeartbeats 4000000 in
set_option maxRecDepth 100000 in
theorem m_Md_parts (l : Launch) (D : va_G) (cI cJ cO cZ : ClassId) (h0 h1 h2 h3 h4 h5 h6 h7 h8 h9 h10 h11 h12 h13 h14 h15 h16 h17 h18 h19 h20 h21 h22 h23 : Nat) (th : Int) (no : Int) (ca : Nat → Int) (ba : Nat → Int) (nl : Int) (xa : Nat → Int) (sa : Nat → Int) (da : Nat → Int) (la : Nat → Int) (ra : Nat → Int) (fa : Nat → Int) (ta : Nat → Int) (ua : Nat → Int) (uh : Nat → Int) (uo : Nat → Int) (ma : Nat → Int) (mh : Nat → Int) (ml : Nat → Int) (nf : Int) (fo : Nat → Int) (fh : Nat → Int) (fs : Nat → Int) (rs : Int) (ic : Int) (mn : Int) (bh : Nat → Int) (bo : Nat → Int) (ya : Nat → Int) (np : Int) (pa : Nat → Int) (nc : Int) (cp : Nat → Int) (ob : Int) (from_ : Int) (to_ : Int) (post : Int → Prop) (v : vc_Md_parts th no ca ba nl xa sa da la ra fa ta ua uh uo ma mh ml nf fo fh fs rs ic mn bh bo ya np pa nc cp ob from_ to_ post) : Met l ⟨"LightDosesModel", "parts", "(III)J"⟩ (.code ⟨"LightDosesModel", "parts", "(III)J"⟩ prog_10_method_22_code 7 (some .long) :: TG) { frames := 1, cells := 0, slots := 0, locals := 27 } (va_Pc [.ref h0, .int (iI ob), .int (iI from_), .int (iI to_)] (fun U => va_K D vwCl (tyx cI cJ cO cZ) U ∧ va_P D vwCl (wMd cI cJ cZ h0 h1 h2 h3 h4 h5 h6 h7 h8 h9 h10 h11 h12 h13 h14 h15 h16 h17 h18 h19 h20 h21 h22 h23 th no ca ba nl xa sa da la ra fa ta ua uh uo ma mh ml nf fo fh fs rs ic mn bh bo ya np pa nc cp) U.heap)) (vp_Sl (fun r => ∃ z : Int, r = lI z ∧ post z)) 0 0 (fun _ => False) := by
  refine Met.ofW (cc := prog_10_method_22_code) (maxL := 7) (ret := (some .long)) (by decide) rfl ?_
  intro p e s m args below meth c s₁ B hml hv
  obtain ⟨rfl, hK, hP⟩ := hv
  have hx := B.exec
  have hb := B.bytes
  have hr := B.returns
  have hts0 := atoms_spec (ws := (.code ⟨"LightDosesModel", "parts", "(III)J"⟩ prog_10_method_22_code 7 (some .long) :: TG)) B.pre
  have hts : ∀ w ∈ TG, w.before _ s = true := fun w h => hts0 w (List.mem_cons_of_mem _ h)
  have hown : s.vm.findClass "LightDosesModel" = some m.cls := findClass_of_methodNamed B.named
  have hlocks := B.notSynchronized
  have hP : va_P D vwCl (wMd cI cJ cZ h0 h1 h2 h3 h4 h5 h6 h7 h8 h9 h10 h11 h12 h13 h14 h15 h16 h17 h18 h19 h20 h21 h22 h23 th no ca ba nl xa sa da la ra fa ta ua uh uo ma mh ml nf fo fh fs rs ic mn bh bo ya np pa nc cp) s.heap := hP
  have hl := lv_entry ([Value.ref h0, Value.int (iI ob), Value.int (iI from_), Value.int (iI to_)]) (n := 7) (Nat.le_of_ble_eq_true rfl)
  rw [lg_entry_eq]
  generalize (lg_sl ([Value.ref h0, Value.int (iI ob), Value.int (iI from_), Value.int (iI to_)]) ++ List.replicate (7 - (lg_sl ([Value.ref h0, Value.int (iI ob), Value.int (iI from_), Value.int (iI to_)])).length) Slot.unset).toArray = ls at hl ⊢
  have hl : lv_has ls 7 [(0, .ref h0), (1, .int (iI ob)), (2, .int (iI from_)), (3, .int (iI to_))] := hl
  unfold vc_Md_parts at v
  refine lv_aload_n hx hb d_Md_parts_0 rfl (lv_at hl 0 rfl) ?_
  refine lv_iload_n hx hb d_Md_parts_1 rfl (lv_at hl 1 rfl) ?_
  refine lv_iload_n hx hb d_Md_parts_2 rfl (lv_at hl 2 rfl) ?_
  refine lv_iload_n hx hb d_Md_parts_3 rfl (lv_at hl 3 rfl) ?_
  obtain ⟨P1, q3, v⟩ := v
  refine vp_callSl (nv_runV (wc := (wMd cI cJ cZ h0 h1 h2 h3 h4 h5 h6 h7 h8 h9 h10 h11 h12 h13 h14 h15 h16 h17 h18 h19 h20 h21 h22 h23 th no ca ba nl xa sa da la ra fa ta ua uh uo ma mh ml nf fo fh fs rs ic mn bh bo ya np pa nc cp)) (As := [.int (iI ob), .int (iI from_), .int (iI to_)]) (rest := []) ⟨hx, hb, hml, hown, hts⟩ (m_Md_flashed l D cI cJ cO cZ h0 h1 h2 h3 h4 h5 h6 h7 h8 h9 h10 h11 h12 h13 h14 h15 h16 h17 h18 h19 h20 h21 h22 h23 th no ca ba nl xa sa da la ra fa ta ua uh uo ma mh ml nf fo fh fs rs ic mn bh bo ya np pa nc cp ob from_ to_ P1 q3) (nv_cwV (n := 3) hts wd_875 wd_877 sl_22 wd_10 wd_878 (by decide +kernel) ⟨Nat.le_of_ble_eq_true rfl, Nat.le_of_ble_eq_true rfl⟩) hK (hP.sub [0, 1, 2, 3, 4, 5, 6, 7, 8, 9, 10, 11, 12, 13, 14, 15, 16, 17, 18, 19, 20, 21, 22, 23] rfl) (va_recv hK hP (ci := 8) (q0 := 0) rfl rfl) rfl hl.1 rfl (Nat.le_of_ble_eq_true rfl) d_Md_parts_4 (Nat.le_of_ble_eq_true rfl) (Nat.le_of_ble_eq_true rfl)) (fun r hr => ?_)
  obtain ⟨z2, rfl, hz⟩ := hr
  replace v := v z2 hz
  refine lv_lstore (lv' := [(4, .long (lI z2)), (0, .ref h0), (1, .int (iI ob)), (2, .int (iI from_)), (3, .int (iI to_))]) hx hb d_Md_parts_7 hl (by decide) rfl (fun ls hl => ?_)
  refine lv_iload_n hx hb d_Md_parts_9 rfl (lv_at hl 3 rfl) ?_
  refine lv_istore (lv' := [(6, .int (iI from_)), (4, .long (lI z2)), (0, .ref h0), (1, .int (iI ob)), (2, .int (iI from_)), (3, .int (iI to_))]) hx hb d_Md_parts_10 hl (by decide) rfl (fun ls hl => ?_)
  obtain ⟨I4, μ5, v19, v20⟩ := v
  have L21 : ∀ (N : Nat) (tot : Int) (hh : Int) (ls : Array Slot), μ5 tot hh < N → I4 tot hh → lv_has ls 7 [(0, .ref h0), (1, .int (iI ob)), (2, .int (iI from_)), (3, .int (iI to_)), (4, .long (lI tot)), (6, .int (iI hh))] → W p l e (headSpec (.code ⟨"LightDosesModel", "parts", "(III)J"⟩ prog_10_method_22_code 7 (some .long) :: TG) { frames := 1, cells := 0, slots := 0, locals := 27 }).room s m ([Value.ref h0, Value.int (iI ob), Value.int (iI from_), Value.int (iI to_)] : List Value).toArray below meth c s.heap [] 0 0 (MQ below (vp_Sl (fun r => ∃ z : Int, r = lI z ∧ post z)) ([Value.ref h0, Value.int (iI ob), Value.int (iI from_), Value.int (iI to_)] : List Value).toArray s 0 0 (fun _ => False)) (F0 m 12 ls []) := by
    intro N
    induction N with
    | zero => intro tot hh ls hN; exact absurd hN (Nat.not_lt_zero _)
    | succ N ih6 =>
      intro tot hh ls hN7 hI hl
      have v := v20 tot hh hI
      refine lv_iload hx hb d_Md_parts_12 (lv_at hl 5 rfl) ?_
      refine lv_iload_n hx hb d_Md_parts_14 rfl (lv_at hl 3 rfl) ?_
      obtain ⟨k8, v⟩ := v
      obtain ⟨k9, v⟩ := v
      refine nv_icmp_ge (tgt := 46) hx hb d_Md_parts_15 (by decide) k8 k9 (fun c10 => ?_) (fun c10 => ?_)
      · replace v := v.1 c10
        refine lv_lload hx hb d_Md_parts_46 (lv_at hl 4 rfl) ?_
        exact W.lret hx hb hr (fun t ht hW => ⟨_, rfl, ⟨_, rfl, v⟩, ht⟩) (fun q h => by cases h) d_Md_parts_48
      · replace v := v.2 c10
        refine lv_aload_n hx hb d_Md_parts_18 rfl (lv_at hl 0 rfl) ?_
        refine lv_iload_n hx hb d_Md_parts_19 rfl (lv_at hl 1 rfl) ?_
        refine lv_iload hx hb d_Md_parts_20 (lv_at hl 5 rfl) ?_
        obtain ⟨P11, q13, v⟩ := v
        refine vp_callSi (nv_runV (wc := (wMd cI cJ cZ h0 h1 h2 h3 h4 h5 h6 h7 h8 h9 h10 h11 h12 h13 h14 h15 h16 h17 h18 h19 h20 h21 h22 h23 th no ca ba nl xa sa da la ra fa ta ua uh uo ma mh ml nf fo fh fs rs ic mn bh bo ya np pa nc cp)) (As := [.int (iI ob), .int (iI hh)]) (rest := []) ⟨hx, hb, hml, hown, hts⟩ (m_Md_isShown l D cI cJ cO cZ h0 h1 h2 h3 h4 h5 h6 h7 h8 h9 h10 h11 h12 h13 h14 h15 h16 h17 h18 h19 h20 h21 h22 h23 th no ca ba nl xa sa da la ra fa ta ua uh uo ma mh ml nf fo fh fs rs ic mn bh bo ya np pa nc cp ob hh P11 q13) (nv_cwV (n := 2) hts wd_880 wd_882 sl_23 wd_10 wd_883 (by decide +kernel) ⟨Nat.le_of_ble_eq_true rfl, Nat.le_of_ble_eq_true rfl⟩) hK (hP.sub [0, 1, 2, 3, 4, 5, 6, 7, 8, 9, 10, 11, 12, 13, 14, 15, 16, 17, 18, 19, 20, 21, 22, 23] rfl) (va_recv hK hP (ci := 8) (q0 := 0) rfl rfl) rfl hl.1 rfl (Nat.le_of_ble_eq_true rfl) d_Md_parts_22 (Nat.le_of_ble_eq_true rfl) (Nat.le_of_ble_eq_true rfl)) (fun r hr => ?_)
        obtain ⟨z12, rfl, hz⟩ := hr
        replace v := v z12 hz
        obtain ⟨k14, v⟩ := v
        refine nv_if_eq (tgt := 40) hx hb d_Md_parts_25 (by decide) k14 (fun c15 => ?_) (fun c15 => ?_)
        · replace v := v.1 c15
          refine nv_iinc (k := 5) (z := hh + 1) (lv' := [(6, .int (iI (hh + 1))), (0, .ref h0), (1, .int (iI ob)), (2, .int (iI from_)), (3, .int (iI to_)), (4, .long (lI tot))]) hx hb d_Md_parts_40 hl rfl (by omega) (by decide) rfl (fun ls hl => ?_)
          refine lv_goto (tgt := 12) hx hb d_Md_parts_43 (by decide) ?_
          exact ih6 tot (hh + 1) ls (Nat.lt_of_lt_of_le v.2 (Nat.le_of_lt_succ hN7)) v.1 (lv_sub hl [1, 2, 3, 4, 5, 0] rfl)
        · replace v := v.2 c15
          refine lv_lload hx hb d_Md_parts_28 (lv_at hl 4 rfl) ?_
          refine lv_aload_n hx hb d_Md_parts_30 rfl (lv_at hl 0 rfl) ?_
          refine lv_iload_n hx hb d_Md_parts_31 rfl (lv_at hl 1 rfl) ?_
          refine lv_iload hx hb d_Md_parts_32 (lv_at hl 5 rfl) ?_
          obtain ⟨P16, q18, v⟩ := v
          refine vp_callSl (nv_runV (wc := (wMd cI cJ cZ h0 h1 h2 h3 h4 h5 h6 h7 h8 h9 h10 h11 h12 h13 h14 h15 h16 h17 h18 h19 h20 h21 h22 h23 th no ca ba nl xa sa da la ra fa ta ua uh uo ma mh ml nf fo fh fs rs ic mn bh bo ya np pa nc cp)) (As := [.int (iI ob), .int (iI hh)]) (rest := [.long (lI tot)]) ⟨hx, hb, hml, hown, hts⟩ (m_Md_bright l D cI cJ cO cZ h0 h1 h2 h3 h4 h5 h6 h7 h8 h9 h10 h11 h12 h13 h14 h15 h16 h17 h18 h19 h20 h21 h22 h23 th no ca ba nl xa sa da la ra fa ta ua uh uo ma mh ml nf fo fh fs rs ic mn bh bo ya np pa nc cp ob hh P16 q18) (nv_cwV (n := 2) hts wd_884 wd_886 sl_24 wd_10 wd_887 (by decide +kernel) ⟨Nat.le_of_ble_eq_true rfl, Nat.le_of_ble_eq_true rfl⟩) hK (hP.sub [0, 1, 2, 3, 4, 5, 6, 7, 8, 9, 10, 11, 12, 13, 14, 15, 16, 17, 18, 19, 20, 21, 22, 23] rfl) (va_recv hK hP (ci := 8) (q0 := 0) rfl rfl) rfl hl.1 rfl (Nat.le_of_ble_eq_true rfl) d_Md_parts_34 (Nat.le_of_ble_eq_true rfl) (Nat.le_of_ble_eq_true rfl)) (fun r hr => ?_)
          obtain ⟨z17, rfl, hz⟩ := hr
          replace v := v z17 hz
          refine nv_ladd (z := tot + z17) hx hb d_Md_parts_37 (by first | rfl | omega) ?_
          refine lv_lstore (lv' := [(4, .long (lI (tot + z17))), (0, .ref h0), (1, .int (iI ob)), (2, .int (iI from_)), (3, .int (iI to_)), (6, .int (iI hh))]) hx hb d_Md_parts_38 hl (by decide) rfl (fun ls hl => ?_)
          refine nv_iinc (k := 5) (z := hh + 1) (lv' := [(6, .int (iI (hh + 1))), (4, .long (lI (tot + z17))), (0, .ref h0), (1, .int (iI ob)), (2, .int (iI from_)), (3, .int (iI to_))]) hx hb d_Md_parts_40 hl rfl (by omega) (by decide) rfl (fun ls hl => ?_)
          refine lv_goto (tgt := 12) hx hb d_Md_parts_43 (by decide) ?_
          exact ih6 (tot + z17) (hh + 1) ls (Nat.lt_of_lt_of_le v.2 (Nat.le_of_lt_succ hN7)) v.1 (lv_sub hl [2, 3, 4, 5, 1, 0] rfl)
  exact L21 _ z2 from_ ls (Nat.lt_succ_self _) v19 (lv_sub hl [2, 3, 4, 5, 1, 0] rfl)

theorem d_Md_bound_0 : decode prog_10_method_25_code 0 = .ok (.ldc2_w 125, 3) := by decide +kernel
theorem d_Md_bound_3 : decode prog_10_method_25_code 3 = .ok (.aload_n 0, 1) := by decide +kernel
theorem d_Md_bound_4 : decode prog_10_method_25_code 4 = .ok (.getfield 13, 3) := by decide +kernel
theorem d_Md_bound_7 : decode prog_10_method_25_code 7 = .ok (.aload_n 0, 1) := by decide +kernel
theorem d_Md_bound_8 : decode prog_10_method_25_code 8 = .ok (.getfield 7, 3) := by decide +kernel
theorem d_Md_bound_11 : decode prog_10_method_25_code 11 = .ok (.iload_n 1, 1) := by decide +kernel
theorem d_Md_bound_12 : decode prog_10_method_25_code 12 = .ok (.iaload, 1) := by decide +kernel
theorem d_Md_bound_13 : decode prog_10_method_25_code 13 = .ok (.iaload, 1) := by decide +kernel
theorem d_Md_bound_14 : decode prog_10_method_25_code 14 = .ok (.i2l, 1) := by decide +kernel
theorem d_Md_bound_15 : decode prog_10_method_25_code 15 = .ok (.lmul, 1) := by decide +kernel
theorem d_Md_bound_16 : decode prog_10_method_25_code 16 = .ok (.lreturn, 1) := by decide +kernel
def vc_Md_bound (th : Int) (no : Int) (ca : Nat → Int) (ba : Nat → Int) (nl : Int) (xa : Nat → Int) (sa : Nat → Int) (da : Nat → Int) (la : Nat → Int) (ra : Nat → Int) (fa : Nat → Int) (ta : Nat → Int) (ua : Nat → Int) (uh : Nat → Int) (uo : Nat → Int) (ma : Nat → Int) (mh : Nat → Int) (ml : Nat → Int) (nf : Int) (fo : Nat → Int) (fh : Nat → Int) (fs : Nat → Int) (rs : Int) (ic : Int) (mn : Int) (bh : Nat → Int) (bo : Nat → Int) (ya : Nat → Int) (np : Int) (pa : Nat → Int) (nc : Int) (cp : Nat → Int) (ob : Int) (post : Int → Prop) : Prop := (0 ≤ ob ∧ ob < 12) ∧ ((0 ≤ ca (ob).toNat ∧ ca (ob).toNat < 6) ∧ ((r32 (ba (ca (ob).toNat).toNat)) ∧ (post (3600000 * (ba (ca (ob).toNat).toNat)))))
set_option maxHeartbeats 4000000 in
set_option maxRecDepth 100000 in
theorem m_Md_bound (l : Launch) (D : va_G) (cI cJ cO cZ : ClassId) (h0 h1 h2 h3 h4 h5 h6 h7 h8 h9 h10 h11 h12 h13 h14 h15 h16 h17 h18 h19 h20 h21 h22 h23 : Nat) (th : Int) (no : Int) (ca : Nat → Int) (ba : Nat → Int) (nl : Int) (xa : Nat → Int) (sa : Nat → Int) (da : Nat → Int) (la : Nat → Int) (ra : Nat → Int) (fa : Nat → Int) (ta : Nat → Int) (ua : Nat → Int) (uh : Nat → Int) (uo : Nat → Int) (ma : Nat → Int) (mh : Nat → Int) (ml : Nat → Int) (nf : Int) (fo : Nat → Int) (fh : Nat → Int) (fs : Nat → Int) (rs : Int) (ic : Int) (mn : Int) (bh : Nat → Int) (bo : Nat → Int) (ya : Nat → Int) (np : Int) (pa : Nat → Int) (nc : Int) (cp : Nat → Int) (ob : Int) (post : Int → Prop) (v : vc_Md_bound th no ca ba nl xa sa da la ra fa ta ua uh uo ma mh ml nf fo fh fs rs ic mn bh bo ya np pa nc cp ob post) : Met l ⟨"LightDosesModel", "bound", "(I)J"⟩ (.code ⟨"LightDosesModel", "bound", "(I)J"⟩ prog_10_method_25_code 2 (some .long) :: TG) { frames := 0, cells := 0, slots := 0, locals := 0 } (va_Pc [.ref h0, .int (iI ob)] (fun U => va_K D vwCl (tyx cI cJ cO cZ) U ∧ va_P D vwCl (wMd cI cJ cZ h0 h1 h2 h3 h4 h5 h6 h7 h8 h9 h10 h11 h12 h13 h14 h15 h16 h17 h18 h19 h20 h21 h22 h23 th no ca ba nl xa sa da la ra fa ta ua uh uo ma mh ml nf fo fh fs rs ic mn bh bo ya np pa nc cp) U.heap)) (vp_Sl (fun r => ∃ z : Int, r = lI z ∧ post z)) 0 0 (fun _ => False) := by
  refine Met.ofW (cc := prog_10_method_25_code) (maxL := 2) (ret := (some .long)) (by decide) rfl ?_
  intro p e s m args below meth c s₁ B hml hv
  obtain ⟨rfl, hK, hP⟩ := hv
  have hx := B.exec
  have hb := B.bytes
  have hr := B.returns
  have hts0 := atoms_spec (ws := (.code ⟨"LightDosesModel", "bound", "(I)J"⟩ prog_10_method_25_code 2 (some .long) :: TG)) B.pre
  have hts : ∀ w ∈ TG, w.before _ s = true := fun w h => hts0 w (List.mem_cons_of_mem _ h)
  have hown : s.vm.findClass "LightDosesModel" = some m.cls := findClass_of_methodNamed B.named
  have hlocks := B.notSynchronized
  have hP : va_P D vwCl (wMd cI cJ cZ h0 h1 h2 h3 h4 h5 h6 h7 h8 h9 h10 h11 h12 h13 h14 h15 h16 h17 h18 h19 h20 h21 h22 h23 th no ca ba nl xa sa da la ra fa ta ua uh uo ma mh ml nf fo fh fs rs ic mn bh bo ya np pa nc cp) s.heap := hP
  have hl := lv_entry ([Value.ref h0, Value.int (iI ob)]) (n := 2) (Nat.le_of_ble_eq_true rfl)
  rw [lg_entry_eq]
  generalize (lg_sl ([Value.ref h0, Value.int (iI ob)]) ++ List.replicate (2 - (lg_sl ([Value.ref h0, Value.int (iI ob)])).length) Slot.unset).toArray = ls at hl ⊢
  have hl : lv_has ls 2 [(0, .ref h0), (1, .int (iI ob))] := hl
  unfold vc_Md_bound at v
  refine nv_ldc2 (z := 3600000) hx hb hown (hts _ wd_888) (by decide) d_Md_bound_0 ?_
  refine lv_aload_n hx hb d_Md_bound_3 rfl (lv_at hl 0 rfl) ?_
  refine va_get (D := D) (ci := 8) (v := .ref h2) (C := "LightDosesModel") (T := T_Md) (N := 32) hx hb hts in_Md hown hK hP 0 rfl rfl 3 (by decide) (hts _ wd_706) (fun _ h9 => h9) rfl d_Md_bound_4 ?_
  refine lv_aload_n hx hb d_Md_bound_7 rfl (lv_at hl 0 rfl) ?_
  refine va_get (D := D) (ci := 8) (v := .ref h1) (C := "LightDosesModel") (T := T_Md) (N := 32) hx hb hts in_Md hown hK hP 0 rfl rfl 2 (by decide) (hts _ wd_705) (fun _ h9 => h9) rfl d_Md_bound_8 ?_
  refine lv_iload_n hx hb d_Md_bound_11 rfl (lv_at hl 1 rfl) ?_
  obtain ⟨k1, v⟩ := v
  refine nv_iald (f := ca) hx hb hK 0 (hP 1 _ rfl) rfl (ob).toNat (Int.toNat_of_nonneg k1.1).symm (by omega) (by decide) d_Md_bound_12 ?_
  obtain ⟨k2, v⟩ := v
  refine nv_iald (f := ba) hx hb hK 0 (hP 2 _ rfl) rfl (ca (ob).toNat).toNat (Int.toNat_of_nonneg k2.1).symm (by omega) (by decide) d_Md_bound_13 ?_
  obtain ⟨k3, v⟩ := v
  refine nv_i2l hx hb d_Md_bound_14 k3 ?_
  refine nv_lmul (z := 3600000 * (ba (ca (ob).toNat).toNat)) hx hb d_Md_bound_15 (by first | rfl | omega) ?_
  exact W.lret hx hb hr (fun t ht hW => ⟨_, rfl, ⟨_, rfl, v⟩, ht⟩) (fun q h => by cases h) d_Md_bound_16

theorem d_Md_lower_0 : decode prog_10_method_34_code 0 = .ok (.iconst 0, 1) := by decide +kernel
theorem d_Md_lower_1 : decode prog_10_method_34_code 1 = .ok (.istore_n 2, 1) := by decide +kernel
theorem d_Md_lower_2 : decode prog_10_method_34_code 2 = .ok (.iload_n 0, 1) := by decide +kernel
theorem d_Md_lower_3 : decode prog_10_method_34_code 3 = .ok (.iload_n 2, 1) := by decide +kernel
theorem d_Md_lower_4 : decode prog_10_method_34_code 4 = .ok (.ishr, 1) := by decide +kernel
theorem d_Md_lower_5 : decode prog_10_method_34_code 5 = .ok (.iconst 1, 1) := by decide +kernel
theorem d_Md_lower_6 : decode prog_10_method_34_code 6 = .ok (.iand, 1) := by decide +kernel
theorem d_Md_lower_7 : decode prog_10_method_34_code 7 = .ok (.iload_n 1, 1) := by decide +kernel
theorem d_Md_lower_8 : decode prog_10_method_34_code 8 = .ok (.iload_n 2, 1) := by decide +kernel
theorem d_Md_lower_9 : decode prog_10_method_34_code 9 = .ok (.ishr, 1) := by decide +kernel
theorem d_Md_lower_10 : decode prog_10_method_34_code 10 = .ok (.iconst 1, 1) := by decide +kernel
theorem d_Md_lower_11 : decode prog_10_method_34_code 11 = .ok (.iand, 1) := by decide +kernel
theorem d_Md_lower_12 : decode prog_10_method_34_code 12 = .ok (.if_icmp .ne 9, 3) := by decide +kernel
theorem d_Md_lower_15 : decode prog_10_method_34_code 15 = .ok (.iinc 2 1, 3) := by decide +kernel
theorem d_Md_lower_18 : decode prog_10_method_34_code 18 = .ok (.goto (-16), 3) := by decide +kernel
theorem d_Md_lower_21 : decode prog_10_method_34_code 21 = .ok (.iload_n 0, 1) := by decide +kernel
theorem d_Md_lower_22 : decode prog_10_method_34_code 22 = .ok (.iload_n 2, 1) := by decide +kernel
theorem d_Md_lower_23 : decode prog_10_method_34_code 23 = .ok (.ishr, 1) := by decide +kernel
theorem d_Md_lower_24 : decode prog_10_method_34_code 24 = .ok (.iconst 1, 1) := by decide +kernel
theorem d_Md_lower_25 : decode prog_10_method_34_code 25 = .ok (.iand, 1) := by decide +kernel
theorem d_Md_lower_26 : decode prog_10_method_34_code 26 = .ok (.iconst 1, 1) := by decide +kernel
theorem d_Md_lower_27 : decode prog_10_method_34_code 27 = .ok (.if_icmp .ne 7, 3) := by decide +kernel
theorem d_Md_lower_30 : decode prog_10_method_34_code 30 = .ok (.iconst 1, 1) := by decide +kernel
theorem d_Md_lower_31 : decode prog_10_method_34_code 31 = .ok (.goto 4, 3) := by decide +kernel
theorem d_Md_lower_34 : decode prog_10_method_34_code 34 = .ok (.iconst 0, 1) := by decide +kernel
theorem d_Md_lower_35 : decode prog_10_method_34_code 35 = .ok (.ireturn, 1) := by decide +kernel
def vc_Md_lower (set_ : Int) (oth : Int) (post : Int → Prop) : Prop := ∃ (I1 : Int → Prop) (μ2 : Int → Nat), I1 0 ∧ ∀ (k : Int), I1 k → (r32 (b_and (b_shr set_ k) 1)) ∧ ((r32 (b_and (b_shr oth k) 1)) ∧ ((¬ b_and (b_shr set_ k) 1 = b_and (b_shr oth k) 1 → (¬ b_and (b_shr set_ k) 1 = 1 → post 0) ∧ (b_and (b_shr set_ k) 1 = 1 → post 1)) ∧ (b_and (b_shr set_ k) 1 = b_and (b_shr oth k) 1 → I1 (k + 1) ∧ μ2 (k + 1) < μ2 k)))
set_option maxHeartbeats 4000000 in
set_option maxRecDepth 100000 in
theorem m_Md_lower (l : Launch) (D : va_G) (cI cJ cO cZ : ClassId)  (set_ : Int) (oth : Int) (post : Int → Prop) (v : vc_Md_lower set_ oth post) : Met l ⟨"LightDosesModel", "lower", "(II)Z"⟩ (.code ⟨"LightDosesModel", "lower", "(II)Z"⟩ prog_10_method_34_code 3 (some .boolean) :: TG) { frames := 0, cells := 0, slots := 0, locals := 0 } (va_Pc [.int (iI set_), .int (iI oth)] (fun U => va_K D vwCl (tyx cI cJ cO cZ) U ∧ va_P D vwCl [] U.heap)) (vp_Si (fun r => ∃ z : Int, r = iI z ∧ post z)) 0 0 (fun _ => False) := by
  refine Met.ofW (cc := prog_10_method_34_code) (maxL := 3) (ret := (some .boolean)) (by decide) rfl ?_
  intro p e s m args below meth c s₁ B hml hv
  obtain ⟨rfl, hK, hP⟩ := hv
  have hx := B.exec
  have hb := B.bytes
  have hr := B.returns
  have hts0 := atoms_spec (ws := (.code ⟨"LightDosesModel", "lower", "(II)Z"⟩ prog_10_method_34_code 3 (some .boolean) :: TG)) B.pre
  have hts : ∀ w ∈ TG, w.before _ s = true := fun w h => hts0 w (List.mem_cons_of_mem _ h)
  have hown : s.vm.findClass "LightDosesModel" = some m.cls := findClass_of_methodNamed B.named
  have hlocks := B.notSynchronized
  have hP : va_P D vwCl [] s.heap := hP
  have hl := lv_entry ([Value.int (iI set_), Value.int (iI oth)]) (n := 3) (Nat.le_of_ble_eq_true rfl)
  rw [lg_entry_eq]
  generalize (lg_sl ([Value.int (iI set_), Value.int (iI oth)]) ++ List.replicate (3 - (lg_sl ([Value.int (iI set_), Value.int (iI oth)])).length) Slot.unset).toArray = ls at hl ⊢
  have hl : lv_has ls 3 [(0, .int (iI set_)), (1, .int (iI oth))] := hl
  unfold vc_Md_lower at v
  refine nv_iconst (n := 0) hx hb d_Md_lower_0 ?_
  refine lv_istore_n (lv' := [(2, .int (iI 0)), (0, .int (iI set_)), (1, .int (iI oth))]) hx hb d_Md_lower_1 rfl hl (by decide) rfl (fun ls hl => ?_)
  obtain ⟨I1, μ2, v9, v10⟩ := v
  have L11 : ∀ (N : Nat) (k : Int) (ls : Array Slot), μ2 k < N → I1 k → lv_has ls 3 [(0, .int (iI set_)), (1, .int (iI oth)), (2, .int (iI k))] → W p l e (headSpec (.code ⟨"LightDosesModel", "lower", "(II)Z"⟩ prog_10_method_34_code 3 (some .boolean) :: TG) { frames := 0, cells := 0, slots := 0, locals := 0 }).room s m ([Value.int (iI set_), Value.int (iI oth)] : List Value).toArray below meth c s.heap [] 0 0 (MQ below (vp_Si (fun r => ∃ z : Int, r = iI z ∧ post z)) ([Value.int (iI set_), Value.int (iI oth)] : List Value).toArray s 0 0 (fun _ => False)) (F0 m 2 ls []) := by
    intro N
    induction N with
    | zero => intro k ls hN; exact absurd hN (Nat.not_lt_zero _)
    | succ N ih3 =>
      intro k ls hN4 hI hl
      have v := v10 k hI
      refine lv_iload_n hx hb d_Md_lower_2 rfl (lv_at hl 0 rfl) ?_
      refine lv_iload_n hx hb d_Md_lower_3 rfl (lv_at hl 2 rfl) ?_
      refine nv_ishr hx hb d_Md_lower_4 ?_
      refine nv_iconst (n := 1) hx hb d_Md_lower_5 ?_
      refine nv_iand hx hb d_Md_lower_6 ?_
      refine lv_iload_n hx hb d_Md_lower_7 rfl (lv_at hl 1 rfl) ?_
      refine lv_iload_n hx hb d_Md_lower_8 rfl (lv_at hl 2 rfl) ?_
      refine nv_ishr hx hb d_Md_lower_9 ?_
      refine nv_iconst (n := 1) hx hb d_Md_lower_10 ?_
      refine nv_iand hx hb d_Md_lower_11 ?_
      obtain ⟨k5, v⟩ := v
      obtain ⟨k6, v⟩ := v
      refine nv_icmp_ne (tgt := 21) hx hb d_Md_lower_12 (by decide) k5 k6 (fun c7 => ?_) (fun c7 => ?_)
      · replace v := v.1 c7
        refine lv_iload_n hx hb d_Md_lower_21 rfl (lv_at hl 0 rfl) ?_
        refine lv_iload_n hx hb d_Md_lower_22 rfl (lv_at hl 2 rfl) ?_
        refine nv_ishr hx hb d_Md_lower_23 ?_
        refine nv_iconst (n := 1) hx hb d_Md_lower_24 ?_
        refine nv_iand hx hb d_Md_lower_25 ?_
        refine nv_iconst (n := 1) hx hb d_Md_lower_26 ?_
        refine nv_icmp_ne (tgt := 34) hx hb d_Md_lower_27 (by decide) k5 (by decide) (fun c8 => ?_) (fun c8 => ?_)
        · replace v := v.1 c8
          refine nv_iconst (n := 0) hx hb d_Md_lower_34 ?_
          exact W.zret hx hb hr (by decide) (fun t ht hW => ⟨_, rfl, ⟨_, rfl, v⟩, ht⟩) (fun q h => by cases h) d_Md_lower_35
        · replace v := v.2 c8
          refine nv_iconst (n := 1) hx hb d_Md_lower_30 ?_
          refine lv_goto (tgt := 35) hx hb d_Md_lower_31 (by decide) ?_
          exact W.zret hx hb hr (by decide) (fun t ht hW => ⟨_, rfl, ⟨_, rfl, v⟩, ht⟩) (fun q h => by cases h) d_Md_lower_35
      · replace v := v.2 c7
        refine nv_iinc (k := 2) (z := k + 1) (lv' := [(2, .int (iI (k + 1))), (0, .int (iI set_)), (1, .int (iI oth))]) hx hb d_Md_lower_15 hl rfl (by omega) (by decide) rfl (fun ls hl => ?_)
        refine lv_goto (tgt := 2) hx hb d_Md_lower_18 (by decide) ?_
        exact ih3 (k + 1) ls (Nat.lt_of_lt_of_le v.2 (Nat.le_of_lt_succ hN4)) v.1 (lv_sub hl [1, 2, 0] rfl)
  exact L11 _ 0 ls (Nat.lt_succ_self _) v9 (lv_sub hl [1, 2, 0] rfl)

