/-! MODULE Model: predicates -/
abbrev wMd (cI cJ cZ : ClassId) (h0 h1 h2 h3 h4 h5 h6 h7 h8 h9 h10 h11 h12 h13 h14 h15 h16 h17 h18 h19 h20 h21 h22 h23 : Nat) (th : Int) (no : Int) (ca : Nat → Int) (ba : Nat → Int) (nl : Int) (xa : Nat → Int) (sa : Nat → Int) (da : Nat → Int) (la : Nat → Int) (ra : Nat → Int) (fa : Nat → Int) (ta : Nat → Int) (ua : Nat → Int) (uh : Nat → Int) (uo : Nat → Int) (ma : Nat → Int) (mh : Nat → Int) (ml : Nat → Int) (nf : Int) (fo : Nat → Int) (fh : Nat → Int) (fs : Nat → Int) (rs : Int) (ic : Int) (mn : Int) (bh : Nat → Int) (bo : Nat → Int) (ya : Nat → Int) (np : Int) (pa : Nat → Int) (nc : Int) (cp : Nat → Int) : va_W := [(h0, .inr (8, [.int (iI th), .int (iI no), .ref h1, .ref h2, .int (iI nl), .ref h3, .ref h4, .ref h5, .ref h6, .ref h7, .ref h8, .ref h9, .ref h10, .ref h11, .ref h12, .ref h13, .ref h14, .ref h15, .int (iI nf), .ref h16, .ref h17, .ref h18, .int (iI rs), .int (iI ic), .int (iI mn), .ref h19, .ref h20, .ref h21, .int (iI np), .ref h22, .int (iI nc), .ref h23])), (h1, .inl (cI, 12, .inl (fun k => iI (ca k)))), (h2, .inl (cI, 6, .inl (fun k => iI (ba k)))), (h3, .inl (cI, 8, .inl (fun k => iI (xa k)))), (h4, .inl (cI, 96, .inl (fun k => iI (sa k)))), (h5, .inl (cI, 24, .inl (fun k => iI (da k)))), (h6, .inl (cI, 210240, .inl (fun k => iI (la k)))), (h7, .inl (cI, 12, .inl (fun k => iI (ra k)))), (h8, .inl (cI, 192, .inl (fun k => iI (fa k)))), (h9, .inl (cI, 192, .inl (fun k => iI (ta k)))), (h10, .inl (cI, 8, .inl (fun k => iI (ua k)))), (h11, .inl (cI, 160, .inl (fun k => iI (uh k)))), (h12, .inl (cZ, 160, .inl (fun k => iI (uo k)))), (h13, .inl (cI, 8, .inl (fun k => iI (ma k)))), (h14, .inl (cI, 160, .inl (fun k => iI (mh k)))), (h15, .inl (cI, 160, .inl (fun k => iI (ml k)))), (h16, .inl (cI, 40, .inl (fun k => iI (fo k)))), (h17, .inl (cI, 40, .inl (fun k => iI (fh k)))), (h18, .inl (cI, 40, .inl (fun k => iI (fs k)))), (h19, .inl (cI, 36, .inl (fun k => iI (bh k)))), (h20, .inl (cI, 36, .inl (fun k => iI (bo k)))), (h21, .inl (cJ, 3, .inr (.inl (fun k => lI (ya k))))), (h22, .inl (cI, 12, .inl (fun k => iI (pa k)))), (h23, .inl (cI, 12, .inl (fun k => iI (cp k))))]
theorem nar_b {x : Int} (h : x = 0 ∨ x = 1) : narrow .boolean (.int (iI x)) = .int (iI x) := by
  rcases h with rfl | rfl <;> decide
theorem d_Md_within_0 : decode prog_10_method_4_code 0 = .ok (.iload_n 0, 1) := by decide +kernel
theorem d_Md_within_1 : decode prog_10_method_4_code 1 = .ok (.iload_n 1, 1) := by decide +kernel
theorem d_Md_within_2 : decode prog_10_method_4_code 2 = .ok (.if_icmp .lt 12, 3) := by decide +kernel
theorem d_Md_within_5 : decode prog_10_method_4_code 5 = .ok (.iload_n 0, 1) := by decide +kernel
theorem d_Md_within_6 : decode prog_10_method_4_code 6 = .ok (.iload_n 2, 1) := by decide +kernel
theorem d_Md_within_7 : decode prog_10_method_4_code 7 = .ok (.if_icmp .gt 7, 3) := by decide +kernel
theorem d_Md_within_10 : decode prog_10_method_4_code 10 = .ok (.iconst 1, 1) := by decide +kernel
theorem d_Md_within_11 : decode prog_10_method_4_code 11 = .ok (.goto 4, 3) := by decide +kernel
theorem d_Md_within_14 : decode prog_10_method_4_code 14 = .ok (.iconst 0, 1) := by decide +kernel
theorem d_Md_within_15 : decode prog_10_method_4_code 15 = .ok (.ireturn, 1) := by decide +kernel
def vc_Md_within (v_ : Int) (low : Int) (high : Int) (post : Int → Prop) : Prop := (r32 v_) ∧ ((r32 low) ∧ ((v_ < low → post 0) ∧ (low ≤ v_ → (r32 high) ∧ ((high < v_ → post 0) ∧ (v_ ≤ high → post 1)))))
set_option maxHeartbeats 4000000 in
set_option maxRecDepth 100000 in
theorem m_Md_within (l : Launch) (D : va_G) (cI cJ cO cZ : ClassId)  (v_ : Int) (low : Int) (high : Int) (post : Int → Prop) (v : vc_Md_within v_ low high post) : Met l ⟨"LightDosesModel", "within", "(III)Z"⟩ (.code ⟨"LightDosesModel", "within", "(III)Z"⟩ prog_10_method_4_code 3 (some .boolean) :: TG) { frames := 0, cells := 0, slots := 0, locals := 0 } (va_Pc [.int (iI v_), .int (iI low), .int (iI high)] (fun U => va_K D vwCl (tyx cI cJ cO cZ) U ∧ va_P D vwCl [] U.heap)) (vp_Si (fun r => ∃ z : Int, r = iI z ∧ post z)) 0 0 (fun _ => False) := by
  refine Met.ofW (cc := prog_10_method_4_code) (maxL := 3) (ret := (some .boolean)) (by decide) rfl ?_
  intro p e s m args below meth c s₁ B hml hv
  obtain ⟨rfl, hK, hP⟩ := hv
  have hx := B.exec
  have hb := B.bytes
  have hr := B.returns
  have hts0 := atoms_spec (ws := (.code ⟨"LightDosesModel", "within", "(III)Z"⟩ prog_10_method_4_code 3 (some .boolean) :: TG)) B.pre
  have hts : ∀ w ∈ TG, w.before _ s = true := fun w h => hts0 w (List.mem_cons_of_mem _ h)
  have hown : s.vm.findClass "LightDosesModel" = some m.cls := findClass_of_methodNamed B.named
  have hlocks := B.notSynchronized
  have hP : va_P D vwCl [] s.heap := hP
  have hl := lv_entry ([Value.int (iI v_), Value.int (iI low), Value.int (iI high)]) (n := 3) (Nat.le_of_ble_eq_true rfl)
  rw [lg_entry_eq]
  generalize (lg_sl ([Value.int (iI v_), Value.int (iI low), Value.int (iI high)]) ++ List.replicate (3 - (lg_sl ([Value.int (iI v_), Value.int (iI low), Value.int (iI high)])).length) Slot.unset).toArray = ls at hl ⊢
  have hl : lv_has ls 3 [(0, .int (iI v_)), (1, .int (iI low)), (2, .int (iI high))] := hl
  unfold vc_Md_within at v
  refine lv_iload_n hx hb d_Md_within_0 rfl (lv_at hl 0 rfl) ?_
  refine lv_iload_n hx hb d_Md_within_1 rfl (lv_at hl 1 rfl) ?_
  obtain ⟨k1, v⟩ := v
  obtain ⟨k2, v⟩ := v
  refine nv_icmp_lt (tgt := 14) hx hb d_Md_within_2 (by decide) k1 k2 (fun c3 => ?_) (fun c3 => ?_)
  · replace v := v.1 c3
    refine nv_iconst (n := 0) hx hb d_Md_within_14 ?_
    exact W.zret hx hb hr (by decide) (fun t ht hW => ⟨_, rfl, ⟨_, rfl, v⟩, ht⟩) (fun q h => by cases h) d_Md_within_15
  · replace v := v.2 c3
    refine lv_iload_n hx hb d_Md_within_5 rfl (lv_at hl 0 rfl) ?_
    refine lv_iload_n hx hb d_Md_within_6 rfl (lv_at hl 2 rfl) ?_
    obtain ⟨k4, v⟩ := v
    refine nv_icmp_gt (tgt := 14) hx hb d_Md_within_7 (by decide) k1 k4 (fun c5 => ?_) (fun c5 => ?_)
    · replace v := v.1 c5
      refine nv_iconst (n := 0) hx hb d_Md_within_14 ?_
      exact W.zret hx hb hr (by decide) (fun t ht hW => ⟨_, rfl, ⟨_, rfl, v⟩, ht⟩) (fun q h => by cases h) d_Md_within_15
    · replace v := v.2 c5
      refine nv_iconst (n := 1) hx hb d_Md_within_10 ?_
      refine lv_goto (tgt := 15) hx hb d_Md_within_11 (by decide) ?_
      exact W.zret hx hb hr (by decide) (fun t ht hW => ⟨_, rfl, ⟨_, rfl, v⟩, ht⟩) (fun q h => by cases h) d_Md_within_15

theorem d_Md_isHour_0 : decode prog_10_method_5_code 0 = .ok (.iload_n 0, 1) := by decide +kernel
theorem d_Md_isHour_1 : decode prog_10_method_5_code 1 = .ok (.ifCond .lt 14, 3) := by decide +kernel
theorem d_Md_isHour_4 : decode prog_10_method_5_code 4 = .ok (.iload_n 0, 1) := by decide +kernel
theorem d_Md_isHour_5 : decode prog_10_method_5_code 5 = .ok (.sipush 26280, 3) := by decide +kernel
theorem d_Md_isHour_8 : decode prog_10_method_5_code 8 = .ok (.if_icmp .ge 7, 3) := by decide +kernel
theorem d_Md_isHour_11 : decode prog_10_method_5_code 11 = .ok (.iconst 1, 1) := by decide +kernel
theorem d_Md_isHour_12 : decode prog_10_method_5_code 12 = .ok (.goto 4, 3) := by decide +kernel
theorem d_Md_isHour_15 : decode prog_10_method_5_code 15 = .ok (.iconst 0, 1) := by decide +kernel
theorem d_Md_isHour_16 : decode prog_10_method_5_code 16 = .ok (.ireturn, 1) := by decide +kernel
def vc_Md_isHour (v_ : Int) (post : Int → Prop) : Prop := (r32 v_) ∧ ((v_ < 0 → post 0) ∧ (0 ≤ v_ → (26280 ≤ v_ → post 0) ∧ (v_ < 26280 → post 1)))
set_option maxHeartbeats 4000000 in
set_option maxRecDepth 100000 in
theorem m_Md_isHour (l : Launch) (D : va_G) (cI cJ cO cZ : ClassId)  (v_ : Int) (post : Int → Prop) (v : vc_Md_isHour v_ post) : Met l ⟨"LightDosesModel", "isHour", "(I)Z"⟩ (.code ⟨"LightDosesModel", "isHour", "(I)Z"⟩ prog_10_method_5_code 1 (some .boolean) :: TG) { frames := 0, cells := 0, slots := 0, locals := 0 } (va_Pc [.int (iI v_)] (fun U => va_K D vwCl (tyx cI cJ cO cZ) U ∧ va_P D vwCl [] U.heap)) (vp_Si (fun r => ∃ z : Int, r = iI z ∧ post z)) 0 0 (fun _ => False) := by
  refine Met.ofW (cc := prog_10_method_5_code) (maxL := 1) (ret := (some .boolean)) (by decide) rfl ?_
  intro p e s m args below meth c s₁ B hml hv
  obtain ⟨rfl, hK, hP⟩ := hv
  have hx := B.exec
  have hb := B.bytes
  have hr := B.returns
  have hts0 := atoms_spec (ws := (.code ⟨"LightDosesModel", "isHour", "(I)Z"⟩ prog_10_method_5_code 1 (some .boolean) :: TG)) B.pre
  have hts : ∀ w ∈ TG, w.before _ s = true := fun w h => hts0 w (List.mem_cons_of_mem _ h)
  have hown : s.vm.findClass "LightDosesModel" = some m.cls := findClass_of_methodNamed B.named
  have hlocks := B.notSynchronized
  have hP : va_P D vwCl [] s.heap := hP
  have hl := lv_entry ([Value.int (iI v_)]) (n := 1) (Nat.le_of_ble_eq_true rfl)
  rw [lg_entry_eq]
  generalize (lg_sl ([Value.int (iI v_)]) ++ List.replicate (1 - (lg_sl ([Value.int (iI v_)])).length) Slot.unset).toArray = ls at hl ⊢
  have hl : lv_has ls 1 [(0, .int (iI v_))] := hl
  unfold vc_Md_isHour at v
  refine lv_iload_n hx hb d_Md_isHour_0 rfl (lv_at hl 0 rfl) ?_
  obtain ⟨k1, v⟩ := v
  refine nv_if_lt (tgt := 15) hx hb d_Md_isHour_1 (by decide) k1 (fun c2 => ?_) (fun c2 => ?_)
  · replace v := v.1 c2
    refine nv_iconst (n := 0) hx hb d_Md_isHour_15 ?_
    exact W.zret hx hb hr (by decide) (fun t ht hW => ⟨_, rfl, ⟨_, rfl, v⟩, ht⟩) (fun q h => by cases h) d_Md_isHour_16
  · replace v := v.2 c2
    refine lv_iload_n hx hb d_Md_isHour_4 rfl (lv_at hl 0 rfl) ?_
    refine nv_sipush (z := 26280) hx hb d_Md_isHour_5 (by decide) ?_
    refine nv_icmp_ge (tgt := 15) hx hb d_Md_isHour_8 (by decide) k1 (by decide) (fun c3 => ?_) (fun c3 => ?_)
    · replace v := v.1 c3
      refine nv_iconst (n := 0) hx hb d_Md_isHour_15 ?_
      exact W.zret hx hb hr (by decide) (fun t ht hW => ⟨_, rfl, ⟨_, rfl, v⟩, ht⟩) (fun q h => by cases h) d_Md_isHour_16
    · replace v := v.2 c3
      refine nv_iconst (n := 1) hx hb d_Md_isHour_11 ?_
      refine lv_goto (tgt := 16) hx hb d_Md_isHour_12 (by decide) ?_
      exact W.zret hx hb hr (by decide) (fun t ht hW => ⟨_, rfl, ⟨_, rfl, v⟩, ht⟩) (fun q h => by cases h) d_Md_isHour_16

theorem d_Md_isLux_0 : decode prog_10_method_8_code 0 = .ok (.iload_n 0, 1) := by decide +kernel
theorem d_Md_isLux_1 : decode prog_10_method_8_code 1 = .ok (.ifCond .lt 14, 3) := by decide +kernel
theorem d_Md_isLux_4 : decode prog_10_method_8_code 4 = .ok (.iload_n 0, 1) := by decide +kernel
theorem d_Md_isLux_5 : decode prog_10_method_8_code 5 = .ok (.sipush 5000, 3) := by decide +kernel
theorem d_Md_isLux_8 : decode prog_10_method_8_code 8 = .ok (.if_icmp .gt 7, 3) := by decide +kernel
theorem d_Md_isLux_11 : decode prog_10_method_8_code 11 = .ok (.iconst 1, 1) := by decide +kernel
theorem d_Md_isLux_12 : decode prog_10_method_8_code 12 = .ok (.goto 4, 3) := by decide +kernel
theorem d_Md_isLux_15 : decode prog_10_method_8_code 15 = .ok (.iconst 0, 1) := by decide +kernel
theorem d_Md_isLux_16 : decode prog_10_method_8_code 16 = .ok (.ireturn, 1) := by decide +kernel
def vc_Md_isLux (v_ : Int) (post : Int → Prop) : Prop := (r32 v_) ∧ ((v_ < 0 → post 0) ∧ (0 ≤ v_ → (5000 < v_ → post 0) ∧ (v_ ≤ 5000 → post 1)))
set_option maxHeartbeats 4000000 in
set_option maxRecDepth 100000 in
theorem m_Md_isLux (l : Launch) (D : va_G) (cI cJ cO cZ : ClassId)  (v_ : Int) (post : Int → Prop) (v : vc_Md_isLux v_ post) : Met l ⟨"LightDosesModel", "isLux", "(I)Z"⟩ (.code ⟨"LightDosesModel", "isLux", "(I)Z"⟩ prog_10_method_8_code 1 (some .boolean) :: TG) { frames := 0, cells := 0, slots := 0, locals := 0 } (va_Pc [.int (iI v_)] (fun U => va_K D vwCl (tyx cI cJ cO cZ) U ∧ va_P D vwCl [] U.heap)) (vp_Si (fun r => ∃ z : Int, r = iI z ∧ post z)) 0 0 (fun _ => False) := by
  refine Met.ofW (cc := prog_10_method_8_code) (maxL := 1) (ret := (some .boolean)) (by decide) rfl ?_
  intro p e s m args below meth c s₁ B hml hv
  obtain ⟨rfl, hK, hP⟩ := hv
  have hx := B.exec
  have hb := B.bytes
  have hr := B.returns
  have hts0 := atoms_spec (ws := (.code ⟨"LightDosesModel", "isLux", "(I)Z"⟩ prog_10_method_8_code 1 (some .boolean) :: TG)) B.pre
  have hts : ∀ w ∈ TG, w.before _ s = true := fun w h => hts0 w (List.mem_cons_of_mem _ h)
  have hown : s.vm.findClass "LightDosesModel" = some m.cls := findClass_of_methodNamed B.named
  have hlocks := B.notSynchronized
  have hP : va_P D vwCl [] s.heap := hP
  have hl := lv_entry ([Value.int (iI v_)]) (n := 1) (Nat.le_of_ble_eq_true rfl)
  rw [lg_entry_eq]
  generalize (lg_sl ([Value.int (iI v_)]) ++ List.replicate (1 - (lg_sl ([Value.int (iI v_)])).length) Slot.unset).toArray = ls at hl ⊢
  have hl : lv_has ls 1 [(0, .int (iI v_))] := hl
  unfold vc_Md_isLux at v
  refine lv_iload_n hx hb d_Md_isLux_0 rfl (lv_at hl 0 rfl) ?_
  obtain ⟨k1, v⟩ := v
  refine nv_if_lt (tgt := 15) hx hb d_Md_isLux_1 (by decide) k1 (fun c2 => ?_) (fun c2 => ?_)
  · replace v := v.1 c2
    refine nv_iconst (n := 0) hx hb d_Md_isLux_15 ?_
    exact W.zret hx hb hr (by decide) (fun t ht hW => ⟨_, rfl, ⟨_, rfl, v⟩, ht⟩) (fun q h => by cases h) d_Md_isLux_16
  · replace v := v.2 c2
    refine lv_iload_n hx hb d_Md_isLux_4 rfl (lv_at hl 0 rfl) ?_
    refine nv_sipush (z := 5000) hx hb d_Md_isLux_5 (by decide) ?_
    refine nv_icmp_gt (tgt := 15) hx hb d_Md_isLux_8 (by decide) k1 (by decide) (fun c3 => ?_) (fun c3 => ?_)
    · replace v := v.1 c3
      refine nv_iconst (n := 0) hx hb d_Md_isLux_15 ?_
      exact W.zret hx hb hr (by decide) (fun t ht hW => ⟨_, rfl, ⟨_, rfl, v⟩, ht⟩) (fun q h => by cases h) d_Md_isLux_16
    · replace v := v.2 c3
      refine nv_iconst (n := 1) hx hb d_Md_isLux_11 ?_
      refine lv_goto (tgt := 16) hx hb d_Md_isLux_12 (by decide) ?_
      exact W.zret hx hb hr (by decide) (fun t ht hW => ⟨_, rfl, ⟨_, rfl, v⟩, ht⟩) (fun q h => by cases h) d_Md_isLux_16

theorem d_Md_isObject_0 : decode prog_10_method_6_code 0 = .ok (.iload_n 1, 1) := by decide +kernel
theorem d_Md_isObject_1 : decode prog_10_method_6_code 1 = .ok (.ifCond .lt 15, 3) := by decide +kernel
theorem d_Md_isObject_4 : decode prog_10_method_6_code 4 = .ok (.iload_n 1, 1) := by decide +kernel
theorem d_Md_isObject_5 : decode prog_10_method_6_code 5 = .ok (.aload_n 0, 1) := by decide +kernel
theorem d_Md_isObject_6 : decode prog_10_method_6_code 6 = .ok (.getfield 86, 3) := by decide +kernel
theorem d_Md_isObject_9 : decode prog_10_method_6_code 9 = .ok (.if_icmp .ge 7, 3) := by decide +kernel
theorem d_Md_isObject_12 : decode prog_10_method_6_code 12 = .ok (.iconst 1, 1) := by decide +kernel
theorem d_Md_isObject_13 : decode prog_10_method_6_code 13 = .ok (.goto 4, 3) := by decide +kernel
theorem d_Md_isObject_16 : decode prog_10_method_6_code 16 = .ok (.iconst 0, 1) := by decide +kernel
theorem d_Md_isObject_17 : decode prog_10_method_6_code 17 = .ok (.ireturn, 1) := by decide +kernel
def vc_Md_isObject (th : Int) (no : Int) (ca : Nat → Int) (ba : Nat → Int) (nl : Int) (xa : Nat → Int) (sa : Nat → Int) (da : Nat → Int) (la : Nat → Int) (ra : Nat → Int) (fa : Nat → Int) (ta : Nat → Int) (ua : Nat → Int) (uh : Nat → Int) (uo : Nat → Int) (ma : Nat → Int) (mh : Nat → Int) (ml : Nat → Int) (nf : Int) (fo : Nat → Int) (fh : Nat → Int) (fs : Nat → Int) (rs : Int) (ic : Int) (mn : Int) (bh : Nat → Int) (bo : Nat → Int) (ya : Nat → Int) (np : Int) (pa : Nat → Int) (nc : Int) (cp : Nat → Int) (v_ : Int) (post : Int → Prop) : Prop := (r32 v_) ∧ ((v_ < 0 → post 0) ∧ (0 ≤ v_ → (r32 no) ∧ ((no ≤ v_ → post 0) ∧ (v_ < no → post 1))))
set_option maxHeartbeats 4000000 in
set_option maxRecDepth 100000 in
theorem m_Md_isObject (l : Launch) (D : va_G) (cI cJ cO cZ : ClassId) (h0 h1 h2 h3 h4 h5 h6 h7 h8 h9 h10 h11 h12 h13 h14 h15 h16 h17 h18 h19 h20 h21 h22 h23 : Nat) (th : Int) (no : Int) (ca : Nat → Int) (ba : Nat → Int) (nl : Int) (xa : Nat → Int) (sa : Nat → Int) (da : Nat → Int) (la : Nat → Int) (ra : Nat → Int) (fa : Nat → Int) (ta : Nat → Int) (ua : Nat → Int) (uh : Nat → Int) (uo : Nat → Int) (ma : Nat → Int) (mh : Nat → Int) (ml : Nat → Int) (nf : Int) (fo : Nat → Int) (fh : Nat → Int) (fs : Nat → Int) (rs : Int) (ic : Int) (mn : Int) (bh : Nat → Int) (bo : Nat → Int) (ya : Nat → Int) (np : Int) (pa : Nat → Int) (nc : Int) (cp : Nat → Int) (v_ : Int) (post : Int → Prop) (v : vc_Md_isObject th no ca ba nl xa sa da la ra fa ta ua uh uo ma mh ml nf fo fh fs rs ic mn bh bo ya np pa nc cp v_ post) : Met l ⟨"LightDosesModel", "isObject", "(I)Z"⟩ (.code ⟨"LightDosesModel", "isObject", "(I)Z"⟩ prog_10_method_6_code 2 (some .boolean) :: TG) { frames := 0, cells := 0, slots := 0, locals := 0 } (va_Pc [.ref h0, .int (iI v_)] (fun U => va_K D vwCl (tyx cI cJ cO cZ) U ∧ va_P D vwCl (wMd cI cJ cZ h0 h1 h2 h3 h4 h5 h6 h7 h8 h9 h10 h11 h12 h13 h14 h15 h16 h17 h18 h19 h20 h21 h22 h23 th no ca ba nl xa sa da la ra fa ta ua uh uo ma mh ml nf fo fh fs rs ic mn bh bo ya np pa nc cp) U.heap)) (vp_Si (fun r => ∃ z : Int, r = iI z ∧ post z)) 0 0 (fun _ => False) := by
  refine Met.ofW (cc := prog_10_method_6_code) (maxL := 2) (ret := (some .boolean)) (by decide) rfl ?_
  intro p e s m args below meth c s₁ B hml hv
  obtain ⟨rfl, hK, hP⟩ := hv
  have hx := B.exec
  have hb := B.bytes
  have hr := B.returns
  have hts0 := atoms_spec (ws := (.code ⟨"LightDosesModel", "isObject", "(I)Z"⟩ prog_10_method_6_code 2 (some .boolean) :: TG)) B.pre
  have hts : ∀ w ∈ TG, w.before _ s = true := fun w h => hts0 w (List.mem_cons_of_mem _ h)
  have hown : s.vm.findClass "LightDosesModel" = some m.cls := findClass_of_methodNamed B.named
  have hlocks := B.notSynchronized
  have hP : va_P D vwCl (wMd cI cJ cZ h0 h1 h2 h3 h4 h5 h6 h7 h8 h9 h10 h11 h12 h13 h14 h15 h16 h17 h18 h19 h20 h21 h22 h23 th no ca ba nl xa sa da la ra fa ta ua uh uo ma mh ml nf fo fh fs rs ic mn bh bo ya np pa nc cp) s.heap := hP
  have hl := lv_entry ([Value.ref h0, Value.int (iI v_)]) (n := 2) (Nat.le_of_ble_eq_true rfl)
  rw [lg_entry_eq]
  generalize (lg_sl ([Value.ref h0, Value.int (iI v_)]) ++ List.replicate (2 - (lg_sl ([Value.ref h0, Value.int (iI v_)])).length) Slot.unset).toArray = ls at hl ⊢
  have hl : lv_has ls 2 [(0, .ref h0), (1, .int (iI v_))] := hl
  unfold vc_Md_isObject at v
  refine lv_iload_n hx hb d_Md_isObject_0 rfl (lv_at hl 1 rfl) ?_
  obtain ⟨k1, v⟩ := v
  refine nv_if_lt (tgt := 16) hx hb d_Md_isObject_1 (by decide) k1 (fun c2 => ?_) (fun c2 => ?_)
  · replace v := v.1 c2
    refine nv_iconst (n := 0) hx hb d_Md_isObject_16 ?_
    exact W.zret hx hb hr (by decide) (fun t ht hW => ⟨_, rfl, ⟨_, rfl, v⟩, ht⟩) (fun q h => by cases h) d_Md_isObject_17
  · replace v := v.2 c2
    refine lv_iload_n hx hb d_Md_isObject_4 rfl (lv_at hl 1 rfl) ?_
    refine lv_aload_n hx hb d_Md_isObject_5 rfl (lv_at hl 0 rfl) ?_
    refine va_get (D := D) (ci := 8) (v := .int (iI no)) (C := "LightDosesModel") (T := T_Md) (N := 32) hx hb hts in_Md hown hK hP 0 rfl rfl 1 (by decide) (hts _ wd_704) (fun _ h9 => h9) rfl d_Md_isObject_6 ?_
    obtain ⟨k3, v⟩ := v
    refine nv_icmp_ge (tgt := 16) hx hb d_Md_isObject_9 (by decide) k1 k3 (fun c4 => ?_) (fun c4 => ?_)
    · replace v := v.1 c4
      refine nv_iconst (n := 0) hx hb d_Md_isObject_16 ?_
      exact W.zret hx hb hr (by decide) (fun t ht hW => ⟨_, rfl, ⟨_, rfl, v⟩, ht⟩) (fun q h => by cases h) d_Md_isObject_17
    · replace v := v.2 c4
      refine nv_iconst (n := 1) hx hb d_Md_isObject_12 ?_
      refine lv_goto (tgt := 17) hx hb d_Md_isObject_13 (by decide) ?_
      exact W.zret hx hb hr (by decide) (fun t ht hW => ⟨_, rfl, ⟨_, rfl, v⟩, ht⟩) (fun q h => by cases h) d_Md_isObject_17

theorem d_Md_isLamp_0 : decode prog_10_method_7_code 0 = .ok (.iload_n 1, 1) := by decide +kernel
theorem d_Md_isLamp_1 : decode prog_10_method_7_code 1 = .ok (.ifCond .lt 15, 3) := by decide +kernel
theorem d_Md_isLamp_4 : decode prog_10_method_7_code 4 = .ok (.iload_n 1, 1) := by decide +kernel
theorem d_Md_isLamp_5 : decode prog_10_method_7_code 5 = .ok (.aload_n 0, 1) := by decide +kernel
theorem d_Md_isLamp_6 : decode prog_10_method_7_code 6 = .ok (.getfield 89, 3) := by decide +kernel
theorem d_Md_isLamp_9 : decode prog_10_method_7_code 9 = .ok (.if_icmp .ge 7, 3) := by decide +kernel
theorem d_Md_isLamp_12 : decode prog_10_method_7_code 12 = .ok (.iconst 1, 1) := by decide +kernel
theorem d_Md_isLamp_13 : decode prog_10_method_7_code 13 = .ok (.goto 4, 3) := by decide +kernel
theorem d_Md_isLamp_16 : decode prog_10_method_7_code 16 = .ok (.iconst 0, 1) := by decide +kernel
theorem d_Md_isLamp_17 : decode prog_10_method_7_code 17 = .ok (.ireturn, 1) := by decide +kernel
def vc_Md_isLamp (th : Int) (no : Int) (ca : Nat → Int) (ba : Nat → Int) (nl : Int) (xa : Nat → Int) (sa : Nat → Int) (da : Nat → Int) (la : Nat → Int) (ra : Nat → Int) (fa : Nat → Int) (ta : Nat → Int) (ua : Nat → Int) (uh : Nat → Int) (uo : Nat → Int) (ma : Nat → Int) (mh : Nat → Int) (ml : Nat → Int) (nf : Int) (fo : Nat → Int) (fh : Nat → Int) (fs : Nat → Int) (rs : Int) (ic : Int) (mn : Int) (bh : Nat → Int) (bo : Nat → Int) (ya : Nat → Int) (np : Int) (pa : Nat → Int) (nc : Int) (cp : Nat → Int) (v_ : Int) (post : Int → Prop) : Prop := (r32 v_) ∧ ((v_ < 0 → post 0) ∧ (0 ≤ v_ → (r32 nl) ∧ ((nl ≤ v_ → post 0) ∧ (v_ < nl → post 1))))
set_option maxHeartbeats 4000000 in
set_option maxRecDepth 100000 in
theorem m_Md_isLamp (l : Launch) (D : va_G) (cI cJ cO cZ : ClassId) (h0 h1 h2 h3 h4 h5 h6 h7 h8 h9 h10 h11 h12 h13 h14 h15 h16 h17 h18 h19 h20 h21 h22 h23 : Nat) (th : Int) (no : Int) (ca : Nat → Int) (ba : Nat → Int) (nl : Int) (xa : Nat → Int) (sa : Nat → Int) (da : Nat → Int) (la : Nat → Int) (ra : Nat → Int) (fa : Nat → Int) (ta : Nat → Int) (ua : Nat → Int) (uh : Nat → Int) (uo : Nat → Int) (ma : Nat → Int) (mh : Nat → Int) (ml : Nat → Int) (nf : Int) (fo : Nat → Int) (fh : Nat → Int) (fs : Nat → Int) (rs : Int) (ic : Int) (mn : Int) (bh : Nat → Int) (bo : Nat → Int) (ya : Nat → Int) (np : Int) (pa : Nat → Int) (nc : Int) (cp : Nat → Int) (v_ : Int) (post : Int → Prop) (v : vc_Md_isLamp th no ca ba nl xa sa da la ra fa ta ua uh uo ma mh ml nf fo fh fs rs ic mn bh bo ya np pa nc cp v_ post) : Met l ⟨"LightDosesModel", "isLamp", "(I)Z"⟩ (.code ⟨"LightDosesModel", "isLamp", "(I)Z"⟩ prog_10_method_7_code 2 (some .boolean) :: TG) { frames := 0, cells := 0, slots := 0, locals := 0 } (va_Pc [.ref h0, .int (iI v_)] (fun U => va_K D vwCl (tyx cI cJ cO cZ) U ∧ va_P D vwCl (wMd cI cJ cZ h0 h1 h2 h3 h4 h5 h6 h7 h8 h9 h10 h11 h12 h13 h14 h15 h16 h17 h18 h19 h20 h21 h22 h23 th no ca ba nl xa sa da la ra fa ta ua uh uo ma mh ml nf fo fh fs rs ic mn bh bo ya np pa nc cp) U.heap)) (vp_Si (fun r => ∃ z : Int, r = iI z ∧ post z)) 0 0 (fun _ => False) := by
  refine Met.ofW (cc := prog_10_method_7_code) (maxL := 2) (ret := (some .boolean)) (by decide) rfl ?_
  intro p e s m args below meth c s₁ B hml hv
  obtain ⟨rfl, hK, hP⟩ := hv
  have hx := B.exec
  have hb := B.bytes
  have hr := B.returns
  have hts0 := atoms_spec (ws := (.code ⟨"LightDosesModel", "isLamp", "(I)Z"⟩ prog_10_method_7_code 2 (some .boolean) :: TG)) B.pre
  have hts : ∀ w ∈ TG, w.before _ s = true := fun w h => hts0 w (List.mem_cons_of_mem _ h)
  have hown : s.vm.findClass "LightDosesModel" = some m.cls := findClass_of_methodNamed B.named
  have hlocks := B.notSynchronized
  have hP : va_P D vwCl (wMd cI cJ cZ h0 h1 h2 h3 h4 h5 h6 h7 h8 h9 h10 h11 h12 h13 h14 h15 h16 h17 h18 h19 h20 h21 h22 h23 th no ca ba nl xa sa da la ra fa ta ua uh uo ma mh ml nf fo fh fs rs ic mn bh bo ya np pa nc cp) s.heap := hP
  have hl := lv_entry ([Value.ref h0, Value.int (iI v_)]) (n := 2) (Nat.le_of_ble_eq_true rfl)
  rw [lg_entry_eq]
  generalize (lg_sl ([Value.ref h0, Value.int (iI v_)]) ++ List.replicate (2 - (lg_sl ([Value.ref h0, Value.int (iI v_)])).length) Slot.unset).toArray = ls at hl ⊢
  have hl : lv_has ls 2 [(0, .ref h0), (1, .int (iI v_))] := hl
  unfold vc_Md_isLamp at v
  refine lv_iload_n hx hb d_Md_isLamp_0 rfl (lv_at hl 1 rfl) ?_
  obtain ⟨k1, v⟩ := v
  refine nv_if_lt (tgt := 16) hx hb d_Md_isLamp_1 (by decide) k1 (fun c2 => ?_) (fun c2 => ?_)
  · replace v := v.1 c2
    refine nv_iconst (n := 0) hx hb d_Md_isLamp_16 ?_
    exact W.zret hx hb hr (by decide) (fun t ht hW => ⟨_, rfl, ⟨_, rfl, v⟩, ht⟩) (fun q h => by cases h) d_Md_isLamp_17
  · replace v := v.2 c2
    refine lv_iload_n hx hb d_Md_isLamp_4 rfl (lv_at hl 1 rfl) ?_
    refine lv_aload_n hx hb d_Md_isLamp_5 rfl (lv_at hl 0 rfl) ?_
    refine va_get (D := D) (ci := 8) (v := .int (iI nl)) (C := "LightDosesModel") (T := T_Md) (N := 32) hx hb hts in_Md hown hK hP 0 rfl rfl 4 (by decide) (hts _ wd_707) (fun _ h9 => h9) rfl d_Md_isLamp_6 ?_
    obtain ⟨k3, v⟩ := v
    refine nv_icmp_ge (tgt := 16) hx hb d_Md_isLamp_9 (by decide) k1 k3 (fun c4 => ?_) (fun c4 => ?_)
    · replace v := v.1 c4
      refine nv_iconst (n := 0) hx hb d_Md_isLamp_16 ?_
      exact W.zret hx hb hr (by decide) (fun t ht hW => ⟨_, rfl, ⟨_, rfl, v⟩, ht⟩) (fun q h => by cases h) d_Md_isLamp_17
    · replace v := v.2 c4
      refine nv_iconst (n := 1) hx hb d_Md_isLamp_12 ?_
      refine lv_goto (tgt := 17) hx hb d_Md_isLamp_13 (by decide) ?_
      exact W.zret hx hb hr (by decide) (fun t ht hW => ⟨_, rfl, ⟨_, rfl, v⟩, ht⟩) (fun q h => by cases h) d_Md_isLamp_17

theorem s_Md_within (v_ low high : Int) (hq0 : r32 v_) (hq1 : r32 low) (hq2 : r32 high) : vc_Md_within v_ low high (fun z => (z = 1 ∧ (low ≤ v_ ∧ v_ ≤ high)) ∨ (z = 0 ∧ ¬ (low ≤ v_ ∧ v_ ≤ high))) := by
  obtain ⟨hq0a, hq0b⟩ := hq0
  obtain ⟨hq1a, hq1b⟩ := hq1
  obtain ⟨hq2a, hq2b⟩ := hq2
  unfold vc_Md_within
  repeat' (first | (intro _) | apply And.intro | omega)
theorem s_Md_isHour (v_ : Int) (hq0 : r32 v_) : vc_Md_isHour v_ (fun z => (z = 1 ∧ (0 ≤ v_ ∧ v_ < 26280)) ∨ (z = 0 ∧ ¬ (0 ≤ v_ ∧ v_ < 26280))) := by
  obtain ⟨hq0a, hq0b⟩ := hq0
  unfold vc_Md_isHour
  repeat' (first | (intro _) | apply And.intro | omega)
theorem s_Md_isLux (v_ : Int) (hq0 : r32 v_) : vc_Md_isLux v_ (fun z => (z = 1 ∧ (0 ≤ v_ ∧ v_ ≤ 5000)) ∨ (z = 0 ∧ ¬ (0 ≤ v_ ∧ v_ ≤ 5000))) := by
  obtain ⟨hq0a, hq0b⟩ := hq0
  unfold vc_Md_isLux
  repeat' (first | (intro _) | apply And.intro | omega)
theorem s_Md_isObject (th : Int) (no : Int) (ca : Nat → Int) (ba : Nat → Int) (nl : Int) (xa : Nat → Int) (sa : Nat → Int) (da : Nat → Int) (la : Nat → Int) (ra : Nat → Int) (fa : Nat → Int) (ta : Nat → Int) (ua : Nat → Int) (uh : Nat → Int) (uo : Nat → Int) (ma : Nat → Int) (mh : Nat → Int) (ml : Nat → Int) (nf : Int) (fo : Nat → Int) (fh : Nat → Int) (fs : Nat → Int) (rs : Int) (ic : Int) (mn : Int) (bh : Nat → Int) (bo : Nat → Int) (ya : Nat → Int) (np : Int) (pa : Nat → Int) (nc : Int) (cp : Nat → Int) (v_ : Int) (hq0 : r32 v_) (hq1 : r32 no) : vc_Md_isObject th no ca ba nl xa sa da la ra fa ta ua uh uo ma mh ml nf fo fh fs rs ic mn bh bo ya np pa nc cp v_ (fun z => (z = 1 ∧ (0 ≤ v_ ∧ v_ < no)) ∨ (z = 0 ∧ ¬ (0 ≤ v_ ∧ v_ < no))) := by
  obtain ⟨hq0a, hq0b⟩ := hq0
  obtain ⟨hq1a, hq1b⟩ := hq1
  unfold vc_Md_isObject
  repeat' (first | (intro _) | apply And.intro | omega)
theorem s_Md_isLamp (th : Int) (no : Int) (ca : Nat → Int) (ba : Nat → Int) (nl : Int) (xa : Nat → Int) (sa : Nat → Int) (da : Nat → Int) (la : Nat → Int) (ra : Nat → Int) (fa : Nat → Int) (ta : Nat → Int) (ua : Nat → Int) (uh : Nat → Int) (uo : Nat → Int) (ma : Nat → Int) (mh : Nat → Int) (ml : Nat → Int) (nf : Int) (fo : Nat → Int) (fh : Nat → Int) (fs : Nat → Int) (rs : Int) (ic : Int) (mn : Int) (bh : Nat → Int) (bo : Nat → Int) (ya : Nat → Int) (np : Int) (pa : Nat → Int) (nc : Int) (cp : Nat → Int) (v_ : Int) (hq0 : r32 v_) (hq1 : r32 nl) : vc_Md_isLamp th no ca ba nl xa sa da la ra fa ta ua uh uo ma mh ml nf fo fh fs rs ic mn bh bo ya np pa nc cp v_ (fun z => (z = 1 ∧ (0 ≤ v_ ∧ v_ < nl)) ∨ (z = 0 ∧ ¬ (0 ≤ v_ ∧ v_ < nl))) := by
  obtain ⟨hq0a, hq0b⟩ := hq0
  obtain ⟨hq1a, hq1b⟩ := hq1
  unfold vc_Md_isLamp
  repeat' (first | (intro _) | apply And.intro | omega)
theorem d_Md_goes_0 : decode prog_10_method_3_code 0 = .ok (.aload_n 0, 1) := by decide +kernel
theorem d_Md_goes_1 : decode prog_10_method_3_code 1 = .ok (.iload_n 1, 1) := by decide +kernel
theorem d_Md_goes_2 : decode prog_10_method_3_code 2 = .ok (.ifCond .ne 7, 3) := by decide +kernel
theorem d_Md_goes_5 : decode prog_10_method_3_code 5 = .ok (.iconst 1, 1) := by decide +kernel
theorem d_Md_goes_6 : decode prog_10_method_3_code 6 = .ok (.goto 20, 3) := by decide +kernel
theorem d_Md_goes_9 : decode prog_10_method_3_code 9 = .ok (.iload_n 2, 1) := by decide +kernel
theorem d_Md_goes_10 : decode prog_10_method_3_code 10 = .ok (.ifCond .ne 7, 3) := by decide +kernel
theorem d_Md_goes_13 : decode prog_10_method_3_code 13 = .ok (.iconst 2, 1) := by decide +kernel
theorem d_Md_goes_14 : decode prog_10_method_3_code 14 = .ok (.goto 12, 3) := by decide +kernel
theorem d_Md_goes_17 : decode prog_10_method_3_code 17 = .ok (.iload_n 3, 1) := by decide +kernel
theorem d_Md_goes_18 : decode prog_10_method_3_code 18 = .ok (.ifCond .ne 7, 3) := by decide +kernel
theorem d_Md_goes_21 : decode prog_10_method_3_code 21 = .ok (.iconst 3, 1) := by decide +kernel
theorem d_Md_goes_22 : decode prog_10_method_3_code 22 = .ok (.goto 4, 3) := by decide +kernel
theorem d_Md_goes_25 : decode prog_10_method_3_code 25 = .ok (.iconst 0, 1) := by decide +kernel
theorem d_Md_goes_26 : decode prog_10_method_3_code 26 = .ok (.putfield 82, 3) := by decide +kernel
theorem d_Md_goes_29 : decode prog_10_method_3_code 29 = .ok (.aload_n 0, 1) := by decide +kernel
theorem d_Md_goes_30 : decode prog_10_method_3_code 30 = .ok (.getfield 82, 3) := by decide +kernel
theorem d_Md_goes_33 : decode prog_10_method_3_code 33 = .ok (.ifCond .ne 7, 3) := by decide +kernel
theorem d_Md_goes_36 : decode prog_10_method_3_code 36 = .ok (.iconst 1, 1) := by decide +kernel
theorem d_Md_goes_37 : decode prog_10_method_3_code 37 = .ok (.goto 4, 3) := by decide +kernel
theorem d_Md_goes_40 : decode prog_10_method_3_code 40 = .ok (.iconst 0, 1) := by decide +kernel
theorem d_Md_goes_41 : decode prog_10_method_3_code 41 = .ok (.ireturn, 1) := by decide +kernel
def vc_Md_goes (th : Int) (no : Int) (ca : Nat → Int) (ba : Nat → Int) (nl : Int) (xa : Nat → Int) (sa : Nat → Int) (da : Nat → Int) (la : Nat → Int) (ra : Nat → Int) (fa : Nat → Int) (ta : Nat → Int) (ua : Nat → Int) (uh : Nat → Int) (uo : Nat → Int) (ma : Nat → Int) (mh : Nat → Int) (ml : Nat → Int) (nf : Int) (fo : Nat → Int) (fh : Nat → Int) (fs : Nat → Int) (rs : Int) (ic : Int) (mn : Int) (bh : Nat → Int) (bo : Nat → Int) (ya : Nat → Int) (np : Int) (pa : Nat → Int) (nc : Int) (cp : Nat → Int) (one : Int) (two : Int) (three : Int) (post : Int → Int → Prop) : Prop := (r32 one) ∧ ((¬ one = 0 → (r32 two) ∧ ((¬ two = 0 → (r32 three) ∧ ((¬ three = 0 → post 1 0) ∧ (three = 0 → post 0 3))) ∧ (two = 0 → post 0 2))) ∧ (one = 0 → post 0 1))
set_option maxHeartbeats 4000000 in
set_option maxRecDepth 100000 in
theorem m_Md_goes (l : Launch) (D : va_G) (cI cJ cO cZ : ClassId) (h0 h1 h2 h3 h4 h5 h6 h7 h8 h9 h10 h11 h12 h13 h14 h15 h16 h17 h18 h19 h20 h21 h22 h23 : Nat) (sz : Nat) (th : Int) (no : Int) (ca : Nat → Int) (ba : Nat → Int) (nl : Int) (xa : Nat → Int) (sa : Nat → Int) (da : Nat → Int) (la : Nat → Int) (ra : Nat → Int) (fa : Nat → Int) (ta : Nat → Int) (ua : Nat → Int) (uh : Nat → Int) (uo : Nat → Int) (ma : Nat → Int) (mh : Nat → Int) (ml : Nat → Int) (nf : Int) (fo : Nat → Int) (fh : Nat → Int) (fs : Nat → Int) (rs : Int) (ic : Int) (mn : Int) (bh : Nat → Int) (bo : Nat → Int) (ya : Nat → Int) (np : Int) (pa : Nat → Int) (nc : Int) (cp : Nat → Int) (one : Int) (two : Int) (three : Int) (post : Int → Int → Prop) (v : vc_Md_goes th no ca ba nl xa sa da la ra fa ta ua uh uo ma mh ml nf fo fh fs rs ic mn bh bo ya np pa nc cp one two three post) : Met l ⟨"LightDosesModel", "goes", "(ZZZ)Z"⟩ (.code ⟨"LightDosesModel", "goes", "(ZZZ)Z"⟩ prog_10_method_3_code 4 (some .boolean) :: TG) { frames := 0, cells := 0, slots := 0, locals := 0 } (va_Pc [.ref h0, .int (iI one), .int (iI two), .int (iI three)] (fun U => U.heap.size = sz ∧ va_P D vwCl (wMd cI cJ cZ h0 h1 h2 h3 h4 h5 h6 h7 h8 h9 h10 h11 h12 h13 h14 h15 h16 h17 h18 h19 h20 h21 h22 h23 th no ca ba nl xa sa da la ra fa ta ua uh uo ma mh ml nf fo fh fs rs ic mn bh bo ya np pa nc cp) U.heap ∧ va_K D vwCl (tyx cI cJ cO cZ) U ∧ va_D (fun _ => True) (wMd cI cJ cZ h0 h1 h2 h3 h4 h5 h6 h7 h8 h9 h10 h11 h12 h13 h14 h15 h16 h17 h18 h19 h20 h21 h22 h23 th no ca ba nl xa sa da la ra fa ta ua uh uo ma mh ml nf fo fh fs rs ic mn bh bo ya np pa nc cp))) (va_Qi (fun (r : Int32) (u : Int) => ∃ z : Int, r = iI z ∧ post z u) (fun u t => va_P D vwCl (wMd cI cJ cZ h0 h1 h2 h3 h4 h5 h6 h7 h8 h9 h10 h11 h12 h13 h14 h15 h16 h17 h18 h19 h20 h21 h22 h23 u no ca ba nl xa sa da la ra fa ta ua uh uo ma mh ml nf fo fh fs rs ic mn bh bo ya np pa nc cp) t.heap ∧ va_K D vwCl (tyx cI cJ cO cZ) t ∧ va_D (va_A (wMd cI cJ cZ h0 h1 h2 h3 h4 h5 h6 h7 h8 h9 h10 h11 h12 h13 h14 h15 h16 h17 h18 h19 h20 h21 h22 h23 th no ca ba nl xa sa da la ra fa ta ua uh uo ma mh ml nf fo fh fs rs ic mn bh bo ya np pa nc cp) sz) (wMd cI cJ cZ h0 h1 h2 h3 h4 h5 h6 h7 h8 h9 h10 h11 h12 h13 h14 h15 h16 h17 h18 h19 h20 h21 h22 h23 u no ca ba nl xa sa da la ra fa ta ua uh uo ma mh ml nf fo fh fs rs ic mn bh bo ya np pa nc cp)) (va_A (wMd cI cJ cZ h0 h1 h2 h3 h4 h5 h6 h7 h8 h9 h10 h11 h12 h13 h14 h15 h16 h17 h18 h19 h20 h21 h22 h23 th no ca ba nl xa sa da la ra fa ta ua uh uo ma mh ml nf fo fh fs rs ic mn bh bo ya np pa nc cp) sz)) 0 0 (va_A (wMd cI cJ cZ h0 h1 h2 h3 h4 h5 h6 h7 h8 h9 h10 h11 h12 h13 h14 h15 h16 h17 h18 h19 h20 h21 h22 h23 th no ca ba nl xa sa da la ra fa ta ua uh uo ma mh ml nf fo fh fs rs ic mn bh bo ya np pa nc cp) sz) := by
  refine Met.ofW (cc := prog_10_method_3_code) (maxL := 4) (ret := (some .boolean)) (by decide) rfl ?_
  intro p e s m args below meth c s₁ B hml hv
  obtain ⟨rfl, hsz, hP, hK, hD0⟩ := hv
  have hx := B.exec
  have hb := B.bytes
  have hr := B.returns
  have hts0 := atoms_spec (ws := (.code ⟨"LightDosesModel", "goes", "(ZZZ)Z"⟩ prog_10_method_3_code 4 (some .boolean) :: TG)) B.pre
  have hts : ∀ w ∈ TG, w.before _ s = true := fun w h => hts0 w (List.mem_cons_of_mem _ h)
  have hown : s.vm.findClass "LightDosesModel" = some m.cls := findClass_of_methodNamed B.named
  have hlocks := B.notSynchronized
  subst hsz
  have hD := hD0.self (sz := s.heap.size)
  generalize hAe : va_A (wMd cI cJ cZ h0 h1 h2 h3 h4 h5 h6 h7 h8 h9 h10 h11 h12 h13 h14 h15 h16 h17 h18 h19 h20 h21 h22 h23 th no ca ba nl xa sa da la ra fa ta ua uh uo ma mh ml nf fo fh fs rs ic mn bh bo ya np pa nc cp) s.heap.size = A at hD ⊢
  have hA : ∀ q : Nat, s.heap.size ≤ q → A q := fun q h => by rw [← hAe]; exact Or.inr h
  have hS : va_S A s.heap s.heap [] := va_S.rf
  have hP : va_P D vwCl (wMd cI cJ cZ h0 h1 h2 h3 h4 h5 h6 h7 h8 h9 h10 h11 h12 h13 h14 h15 h16 h17 h18 h19 h20 h21 h22 h23 th no ca ba nl xa sa da la ra fa ta ua uh uo ma mh ml nf fo fh fs rs ic mn bh bo ya np pa nc cp) s.heap := hP
  have hl := lv_entry ([Value.ref h0, Value.int (iI one), Value.int (iI two), Value.int (iI three)]) (n := 4) (Nat.le_of_ble_eq_true rfl)
  rw [lg_entry_eq]
  generalize (lg_sl ([Value.ref h0, Value.int (iI one), Value.int (iI two), Value.int (iI three)]) ++ List.replicate (4 - (lg_sl ([Value.ref h0, Value.int (iI one), Value.int (iI two), Value.int (iI three)])).length) Slot.unset).toArray = ls at hl ⊢
  have hl : lv_has ls 4 [(0, .ref h0), (1, .int (iI one)), (2, .int (iI two)), (3, .int (iI three))] := hl
  unfold vc_Md_goes at v
  obtain ⟨H, hH⟩ : ∃ H, H = s.heap := ⟨_, rfl⟩
  obtain ⟨locs, hlc⟩ : ∃ L : List Loc, L = [] := ⟨_, rfl⟩
  rw [← hlc] at hS ⊢
  have hP : va_P D vwCl (wMd cI cJ cZ h0 h1 h2 h3 h4 h5 h6 h7 h8 h9 h10 h11 h12 h13 h14 h15 h16 h17 h18 h19 h20 h21 h22 h23 th no ca ba nl xa sa da la ra fa ta ua uh uo ma mh ml nf fo fh fs rs ic mn bh bo ya np pa nc cp) H := by rw [hH]; exact hP
  have hS : va_S A s.heap H locs := by rw [hH]; exact hS
  have hW0 : ∀ {X : Heap → Prop}, X H → X s.heap := fun h => by rw [← hH]; exact h
  refine hW0 (X := fun Z => W p l e _ s m _ below meth c Z locs 0 0 _ _) ?_
  refine lv_aload_n hx hb d_Md_goes_0 rfl (lv_at hl 0 rfl) ?_
  refine lv_iload_n hx hb d_Md_goes_1 rfl (lv_at hl 1 rfl) ?_
  obtain ⟨k1, v⟩ := v
  refine nv_if_ne (tgt := 9) hx hb d_Md_goes_2 (by decide) k1 (fun c2 => ?_) (fun c2 => ?_)
  · replace v := v.1 c2
    refine lv_iload_n hx hb d_Md_goes_9 rfl (lv_at hl 2 rfl) ?_
    obtain ⟨k3, v⟩ := v
    refine nv_if_ne (tgt := 17) hx hb d_Md_goes_10 (by decide) k3 (fun c4 => ?_) (fun c4 => ?_)
    · replace v := v.1 c4
      refine lv_iload_n hx hb d_Md_goes_17 rfl (lv_at hl 3 rfl) ?_
      obtain ⟨k5, v⟩ := v
      refine nv_if_ne (tgt := 25) hx hb d_Md_goes_18 (by decide) k5 (fun c6 => ?_) (fun c6 => ?_)
      · replace v := v.1 c6
        refine nv_iconst (n := 0) hx hb d_Md_goes_25 ?_
        refine va_put (D := D) (ci := 8) (v := .int (iI 0)) (ty := .int) (C := "LightDosesModel") (T := T_Md) (N := 32) hx hb hts in_Md t_Md tok_Md n_Md hown hK hP hD hS 0 rfl rfl 0 (by decide) (hts _ wd_703) (fun _ h9 => h9) rfl (by decide +kernel) rfl rfl (Nat.le_of_ble_eq_true rfl) d_Md_goes_26 (fun H locs hP hD hS => ?_)
        have hP : va_P D vwCl (wMd cI cJ cZ h0 h1 h2 h3 h4 h5 h6 h7 h8 h9 h10 h11 h12 h13 h14 h15 h16 h17 h18 h19 h20 h21 h22 h23 0 no ca ba nl xa sa da la ra fa ta ua uh uo ma mh ml nf fo fh fs rs ic mn bh bo ya np pa nc cp) H := hP
        have hD : va_D A (wMd cI cJ cZ h0 h1 h2 h3 h4 h5 h6 h7 h8 h9 h10 h11 h12 h13 h14 h15 h16 h17 h18 h19 h20 h21 h22 h23 0 no ca ba nl xa sa da la ra fa ta ua uh uo ma mh ml nf fo fh fs rs ic mn bh bo ya np pa nc cp) := hD
        refine lv_aload_n hx hb d_Md_goes_29 rfl (lv_at hl 0 rfl) ?_
        refine va_get (D := D) (ci := 8) (v := .int (iI 0)) (C := "LightDosesModel") (T := T_Md) (N := 32) hx hb hts in_Md hown hK hP 0 rfl rfl 0 (by decide) (hts _ wd_703) (fun _ h9 => h9) rfl d_Md_goes_30 ?_
        refine nv_if_ne (tgt := 40) hx hb d_Md_goes_33 (by decide) (by decide) (fun c7 => absurd c7 (by decide)) (fun _ => ?_)
        refine nv_iconst (n := 1) hx hb d_Md_goes_36 ?_
        refine lv_goto (tgt := 41) hx hb d_Md_goes_37 (by decide) ?_
        have hP9 := hP.sub (ws' := (wMd cI cJ cZ h0 h1 h2 h3 h4 h5 h6 h7 h8 h9 h10 h11 h12 h13 h14 h15 h16 h17 h18 h19 h20 h21 h22 h23 0 no ca ba nl xa sa da la ra fa ta ua uh uo ma mh ml nf fo fh fs rs ic mn bh bo ya np pa nc cp)) [0, 1, 2, 3, 4, 5, 6, 7, 8, 9, 10, 11, 12, 13, 14, 15, 16, 17, 18, 19, 20, 21, 22, 23] rfl
        have hD9 := hD.sub (ws' := (wMd cI cJ cZ h0 h1 h2 h3 h4 h5 h6 h7 h8 h9 h10 h11 h12 h13 h14 h15 h16 h17 h18 h19 h20 h21 h22 h23 0 no ca ba nl xa sa da la ra fa ta ua uh uo ma mh ml nf fo fh fs rs ic mn bh bo ya np pa nc cp)) [0, 1, 2, 3, 4, 5, 6, 7, 8, 9, 10, 11, 12, 13, 14, 15, 16, 17, 18, 19, 20, 21, 22, 23] (by decide) rfl
        exact W.zret hx hb hr (by decide) (fun t ht hW => ⟨⟨_, ((0)), rfl, ⟨_, rfl, v⟩, by rw [ht]; exact hP9, va_K.moved hW.alike hK, hD9⟩, hS.F ht⟩) hS.2.2 d_Md_goes_41
      · replace v := v.2 c6
        refine nv_iconst (n := 3) hx hb d_Md_goes_21 ?_
        refine lv_goto (tgt := 26) hx hb d_Md_goes_22 (by decide) ?_
        refine va_put (D := D) (ci := 8) (v := .int (iI 3)) (ty := .int) (C := "LightDosesModel") (T := T_Md) (N := 32) hx hb hts in_Md t_Md tok_Md n_Md hown hK hP hD hS 0 rfl rfl 0 (by decide) (hts _ wd_703) (fun _ h9 => h9) rfl (by decide +kernel) rfl rfl (Nat.le_of_ble_eq_true rfl) d_Md_goes_26 (fun H locs hP hD hS => ?_)
        have hP : va_P D vwCl (wMd cI cJ cZ h0 h1 h2 h3 h4 h5 h6 h7 h8 h9 h10 h11 h12 h13 h14 h15 h16 h17 h18 h19 h20 h21 h22 h23 3 no ca ba nl xa sa da la ra fa ta ua uh uo ma mh ml nf fo fh fs rs ic mn bh bo ya np pa nc cp) H := hP
        have hD : va_D A (wMd cI cJ cZ h0 h1 h2 h3 h4 h5 h6 h7 h8 h9 h10 h11 h12 h13 h14 h15 h16 h17 h18 h19 h20 h21 h22 h23 3 no ca ba nl xa sa da la ra fa ta ua uh uo ma mh ml nf fo fh fs rs ic mn bh bo ya np pa nc cp) := hD
        refine lv_aload_n hx hb d_Md_goes_29 rfl (lv_at hl 0 rfl) ?_
        refine va_get (D := D) (ci := 8) (v := .int (iI 3)) (C := "LightDosesModel") (T := T_Md) (N := 32) hx hb hts in_Md hown hK hP 0 rfl rfl 0 (by decide) (hts _ wd_703) (fun _ h9 => h9) rfl d_Md_goes_30 ?_
        refine nv_if_ne (tgt := 40) hx hb d_Md_goes_33 (by decide) (by decide) (fun _ => ?_) (fun c8 => absurd c8 (by decide))
        refine nv_iconst (n := 0) hx hb d_Md_goes_40 ?_
        have hP9 := hP.sub (ws' := (wMd cI cJ cZ h0 h1 h2 h3 h4 h5 h6 h7 h8 h9 h10 h11 h12 h13 h14 h15 h16 h17 h18 h19 h20 h21 h22 h23 3 no ca ba nl xa sa da la ra fa ta ua uh uo ma mh ml nf fo fh fs rs ic mn bh bo ya np pa nc cp)) [0, 1, 2, 3, 4, 5, 6, 7, 8, 9, 10, 11, 12, 13, 14, 15, 16, 17, 18, 19, 20, 21, 22, 23] rfl
        have hD9 := hD.sub (ws' := (wMd cI cJ cZ h0 h1 h2 h3 h4 h5 h6 h7 h8 h9 h10 h11 h12 h13 h14 h15 h16 h17 h18 h19 h20 h21 h22 h23 3 no ca ba nl xa sa da la ra fa ta ua uh uo ma mh ml nf fo fh fs rs ic mn bh bo ya np pa nc cp)) [0, 1, 2, 3, 4, 5, 6, 7, 8, 9, 10, 11, 12, 13, 14, 15, 16, 17, 18, 19, 20, 21, 22, 23] (by decide) rfl
        exact W.zret hx hb hr (by decide) (fun t ht hW => ⟨⟨_, ((3)), rfl, ⟨_, rfl, v⟩, by rw [ht]; exact hP9, va_K.moved hW.alike hK, hD9⟩, hS.F ht⟩) hS.2.2 d_Md_goes_41
    · replace v := v.2 c4
      refine nv_iconst (n := 2) hx hb d_Md_goes_13 ?_
      refine lv_goto (tgt := 26) hx hb d_Md_goes_14 (by decide) ?_
      refine va_put (D := D) (ci := 8) (v := .int (iI 2)) (ty := .int) (C := "LightDosesModel") (T := T_Md) (N := 32) hx hb hts in_Md t_Md tok_Md n_Md hown hK hP hD hS 0 rfl rfl 0 (by decide) (hts _ wd_703) (fun _ h9 => h9) rfl (by decide +kernel) rfl rfl (Nat.le_of_ble_eq_true rfl) d_Md_goes_26 (fun H locs hP hD hS => ?_)
      have hP : va_P D vwCl (wMd cI cJ cZ h0 h1 h2 h3 h4 h5 h6 h7 h8 h9 h10 h11 h12 h13 h14 h15 h16 h17 h18 h19 h20 h21 h22 h23 2 no ca ba nl xa sa da la ra fa ta ua uh uo ma mh ml nf fo fh fs rs ic mn bh bo ya np pa nc cp) H := hP
      have hD : va_D A (wMd cI cJ cZ h0 h1 h2 h3 h4 h5 h6 h7 h8 h9 h10 h11 h12 h13 h14 h15 h16 h17 h18 h19 h20 h21 h22 h23 2 no ca ba nl xa sa da la ra fa ta ua uh uo ma mh ml nf fo fh fs rs ic mn bh bo ya np pa nc cp) := hD
      refine lv_aload_n hx hb d_Md_goes_29 rfl (lv_at hl 0 rfl) ?_
      refine va_get (D := D) (ci := 8) (v := .int (iI 2)) (C := "LightDosesModel") (T := T_Md) (N := 32) hx hb hts in_Md hown hK hP 0 rfl rfl 0 (by decide) (hts _ wd_703) (fun _ h9 => h9) rfl d_Md_goes_30 ?_
      refine nv_if_ne (tgt := 40) hx hb d_Md_goes_33 (by decide) (by decide) (fun _ => ?_) (fun c9 => absurd c9 (by decide))
      refine nv_iconst (n := 0) hx hb d_Md_goes_40 ?_
      have hP9 := hP.sub (ws' := (wMd cI cJ cZ h0 h1 h2 h3 h4 h5 h6 h7 h8 h9 h10 h11 h12 h13 h14 h15 h16 h17 h18 h19 h20 h21 h22 h23 2 no ca ba nl xa sa da la ra fa ta ua uh uo ma mh ml nf fo fh fs rs ic mn bh bo ya np pa nc cp)) [0, 1, 2, 3, 4, 5, 6, 7, 8, 9, 10, 11, 12, 13, 14, 15, 16, 17, 18, 19, 20, 21, 22, 23] rfl
      have hD9 := hD.sub (ws' := (wMd cI cJ cZ h0 h1 h2 h3 h4 h5 h6 h7 h8 h9 h10 h11 h12 h13 h14 h15 h16 h17 h18 h19 h20 h21 h22 h23 2 no ca ba nl xa sa da la ra fa ta ua uh uo ma mh ml nf fo fh fs rs ic mn bh bo ya np pa nc cp)) [0, 1, 2, 3, 4, 5, 6, 7, 8, 9, 10, 11, 12, 13, 14, 15, 16, 17, 18, 19, 20, 21, 22, 23] (by decide) rfl
      exact W.zret hx hb hr (by decide) (fun t ht hW => ⟨⟨_, ((2)), rfl, ⟨_, rfl, v⟩, by rw [ht]; exact hP9, va_K.moved hW.alike hK, hD9⟩, hS.F ht⟩) hS.2.2 d_Md_goes_41
  · replace v := v.2 c2
    refine nv_iconst (n := 1) hx hb d_Md_goes_5 ?_
    refine lv_goto (tgt := 26) hx hb d_Md_goes_6 (by decide) ?_
    refine va_put (D := D) (ci := 8) (v := .int (iI 1)) (ty := .int) (C := "LightDosesModel") (T := T_Md) (N := 32) hx hb hts in_Md t_Md tok_Md n_Md hown hK hP hD hS 0 rfl rfl 0 (by decide) (hts _ wd_703) (fun _ h9 => h9) rfl (by decide +kernel) rfl rfl (Nat.le_of_ble_eq_true rfl) d_Md_goes_26 (fun H locs hP hD hS => ?_)
    have hP : va_P D vwCl (wMd cI cJ cZ h0 h1 h2 h3 h4 h5 h6 h7 h8 h9 h10 h11 h12 h13 h14 h15 h16 h17 h18 h19 h20 h21 h22 h23 1 no ca ba nl xa sa da la ra fa ta ua uh uo ma mh ml nf fo fh fs rs ic mn bh bo ya np pa nc cp) H := hP
    have hD : va_D A (wMd cI cJ cZ h0 h1 h2 h3 h4 h5 h6 h7 h8 h9 h10 h11 h12 h13 h14 h15 h16 h17 h18 h19 h20 h21 h22 h23 1 no ca ba nl xa sa da la ra fa ta ua uh uo ma mh ml nf fo fh fs rs ic mn bh bo ya np pa nc cp) := hD
    refine lv_aload_n hx hb d_Md_goes_29 rfl (lv_at hl 0 rfl) ?_
    refine va_get (D := D) (ci := 8) (v := .int (iI 1)) (C := "LightDosesModel") (T := T_Md) (N := 32) hx hb hts in_Md hown hK hP 0 rfl rfl 0 (by decide) (hts _ wd_703) (fun _ h9 => h9) rfl d_Md_goes_30 ?_
    refine nv_if_ne (tgt := 40) hx hb d_Md_goes_33 (by decide) (by decide) (fun _ => ?_) (fun c10 => absurd c10 (by decide))
    refine nv_iconst (n := 0) hx hb d_Md_goes_40 ?_
    have hP9 := hP.sub (ws' := (wMd cI cJ cZ h0 h1 h2 h3 h4 h5 h6 h7 h8 h9 h10 h11 h12 h13 h14 h15 h16 h17 h18 h19 h20 h21 h22 h23 1 no ca ba nl xa sa da la ra fa ta ua uh uo ma mh ml nf fo fh fs rs ic mn bh bo ya np pa nc cp)) [0, 1, 2, 3, 4, 5, 6, 7, 8, 9, 10, 11, 12, 13, 14, 15, 16, 17, 18, 19, 20, 21, 22, 23] rfl
    have hD9 := hD.sub (ws' := (wMd cI cJ cZ h0 h1 h2 h3 h4 h5 h6 h7 h8 h9 h10 h11 h12 h13 h14 h15 h16 h17 h18 h19 h20 h21 h22 h23 1 no ca ba nl xa sa da la ra fa ta ua uh uo ma mh ml nf fo fh fs rs ic mn bh bo ya np pa nc cp)) [0, 1, 2, 3, 4, 5, 6, 7, 8, 9, 10, 11, 12, 13, 14, 15, 16, 17, 18, 19, 20, 21, 22, 23] (by decide) rfl
    exact W.zret hx hb hr (by decide) (fun t ht hW => ⟨⟨_, ((1)), rfl, ⟨_, rfl, v⟩, by rw [ht]; exact hP9, va_K.moved hW.alike hK, hD9⟩, hS.F ht⟩) hS.2.2 d_Md_goes_41

theorem s_Md_goes_000 (th : Int) (no : Int) (ca : Nat → Int) (ba : Nat → Int) (nl : Int) (xa : Nat → Int) (sa : Nat → Int) (da : Nat → Int) (la : Nat → Int) (ra : Nat → Int) (fa : Nat → Int) (ta : Nat → Int) (ua : Nat → Int) (uh : Nat → Int) (uo : Nat → Int) (ma : Nat → Int) (mh : Nat → Int) (ml : Nat → Int) (nf : Int) (fo : Nat → Int) (fh : Nat → Int) (fs : Nat → Int) (rs : Int) (ic : Int) (mn : Int) (bh : Nat → Int) (bo : Nat → Int) (ya : Nat → Int) (np : Int) (pa : Nat → Int) (nc : Int) (cp : Nat → Int) : vc_Md_goes th no ca ba nl xa sa da la ra fa ta ua uh uo ma mh ml nf fo fh fs rs ic mn bh bo ya np pa nc cp 0 0 0 (fun z t => z = 0 ∧ t = 1) := by
  unfold vc_Md_goes
  repeat' (first | (intro _) | apply And.intro | omega)
theorem s_Md_goes_001 (th : Int) (no : Int) (ca : Nat → Int) (ba : Nat → Int) (nl : Int) (xa : Nat → Int) (sa : Nat → Int) (da : Nat → Int) (la : Nat → Int) (ra : Nat → Int) (fa : Nat → Int) (ta : Nat → Int) (ua : Nat → Int) (uh : Nat → Int) (uo : Nat → Int) (ma : Nat → Int) (mh : Nat → Int) (ml : Nat → Int) (nf : Int) (fo : Nat → Int) (fh : Nat → Int) (fs : Nat → Int) (rs : Int) (ic : Int) (mn : Int) (bh : Nat → Int) (bo : Nat → Int) (ya : Nat → Int) (np : Int) (pa : Nat → Int) (nc : Int) (cp : Nat → Int) : vc_Md_goes th no ca ba nl xa sa da la ra fa ta ua uh uo ma mh ml nf fo fh fs rs ic mn bh bo ya np pa nc cp 0 0 1 (fun z t => z = 0 ∧ t = 1) := by
  unfold vc_Md_goes
  repeat' (first | (intro _) | apply And.intro | omega)
theorem s_Md_goes_010 (th : Int) (no : Int) (ca : Nat → Int) (ba : Nat → Int) (nl : Int) (xa : Nat → Int) (sa : Nat → Int) (da : Nat → Int) (la : Nat → Int) (ra : Nat → Int) (fa : Nat → Int) (ta : Nat → Int) (ua : Nat → Int) (uh : Nat → Int) (uo : Nat → Int) (ma : Nat → Int) (mh : Nat → Int) (ml : Nat → Int) (nf : Int) (fo : Nat → Int) (fh : Nat → Int) (fs : Nat → Int) (rs : Int) (ic : Int) (mn : Int) (bh : Nat → Int) (bo : Nat → Int) (ya : Nat → Int) (np : Int) (pa : Nat → Int) (nc : Int) (cp : Nat → Int) : vc_Md_goes th no ca ba nl xa sa da la ra fa ta ua uh uo ma mh ml nf fo fh fs rs ic mn bh bo ya np pa nc cp 0 1 0 (fun z t => z = 0 ∧ t = 1) := by
  unfold vc_Md_goes
  repeat' (first | (intro _) | apply And.intro | omega)
theorem s_Md_goes_011 (th : Int) (no : Int) (ca : Nat → Int) (ba : Nat → Int) (nl : Int) (xa : Nat → Int) (sa : Nat → Int) (da : Nat → Int) (la : Nat → Int) (ra : Nat → Int) (fa : Nat → Int) (ta : Nat → Int) (ua : Nat → Int) (uh : Nat → Int) (uo : Nat → Int) (ma : Nat → Int) (mh : Nat → Int) (ml : Nat → Int) (nf : Int) (fo : Nat → Int) (fh : Nat → Int) (fs : Nat → Int) (rs : Int) (ic : Int) (mn : Int) (bh : Nat → Int) (bo : Nat → Int) (ya : Nat → Int) (np : Int) (pa : Nat → Int) (nc : Int) (cp : Nat → Int) : vc_Md_goes th no ca ba nl xa sa da la ra fa ta ua uh uo ma mh ml nf fo fh fs rs ic mn bh bo ya np pa nc cp 0 1 1 (fun z t => z = 0 ∧ t = 1) := by
  unfold vc_Md_goes
  repeat' (first | (intro _) | apply And.intro | omega)
theorem s_Md_goes_100 (th : Int) (no : Int) (ca : Nat → Int) (ba : Nat → Int) (nl : Int) (xa : Nat → Int) (sa : Nat → Int) (da : Nat → Int) (la : Nat → Int) (ra : Nat → Int) (fa : Nat → Int) (ta : Nat → Int) (ua : Nat → Int) (uh : Nat → Int) (uo : Nat → Int) (ma : Nat → Int) (mh : Nat → Int) (ml : Nat → Int) (nf : Int) (fo : Nat → Int) (fh : Nat → Int) (fs : Nat → Int) (rs : Int) (ic : Int) (mn : Int) (bh : Nat → Int) (bo : Nat → Int) (ya : Nat → Int) (np : Int) (pa : Nat → Int) (nc : Int) (cp : Nat → Int) : vc_Md_goes th no ca ba nl xa sa da la ra fa ta ua uh uo ma mh ml nf fo fh fs rs ic mn bh bo ya np pa nc cp 1 0 0 (fun z t => z = 0 ∧ t = 2) := by
  unfold vc_Md_goes
  repeat' (first | (intro _) | apply And.intro | omega)
theorem s_Md_goes_101 (th : Int) (no : Int) (ca : Nat → Int) (ba : Nat → Int) (nl : Int) (xa : Nat → Int) (sa : Nat → Int) (da : Nat → Int) (la : Nat → Int) (ra : Nat → Int) (fa : Nat → Int) (ta : Nat → Int) (ua : Nat → Int) (uh : Nat → Int) (uo : Nat → Int) (ma : Nat → Int) (mh : Nat → Int) (ml : Nat → Int) (nf : Int) (fo : Nat → Int) (fh : Nat → Int) (fs : Nat → Int) (rs : Int) (ic : Int) (mn : Int) (bh : Nat → Int) (bo : Nat → Int) (ya : Nat → Int) (np : Int) (pa : Nat → Int) (nc : Int) (cp : Nat → Int) : vc_Md_goes th no ca ba nl xa sa da la ra fa ta ua uh uo ma mh ml nf fo fh fs rs ic mn bh bo ya np pa nc cp 1 0 1 (fun z t => z = 0 ∧ t = 2) := by
  unfold vc_Md_goes
  repeat' (first | (intro _) | apply And.intro | omega)
theorem s_Md_goes_110 (th : Int) (no : Int) (ca : Nat → Int) (ba : Nat → Int) (nl : Int) (xa : Nat → Int) (sa : Nat → Int) (da : Nat → Int) (la : Nat → Int) (ra : Nat → Int) (fa : Nat → Int) (ta : Nat → Int) (ua : Nat → Int) (uh : Nat → Int) (uo : Nat → Int) (ma : Nat → Int) (mh : Nat → Int) (ml : Nat → Int) (nf : Int) (fo : Nat → Int) (fh : Nat → Int) (fs : Nat → Int) (rs : Int) (ic : Int) (mn : Int) (bh : Nat → Int) (bo : Nat → Int) (ya : Nat → Int) (np : Int) (pa : Nat → Int) (nc : Int) (cp : Nat → Int) : vc_Md_goes th no ca ba nl xa sa da la ra fa ta ua uh uo ma mh ml nf fo fh fs rs ic mn bh bo ya np pa nc cp 1 1 0 (fun z t => z = 0 ∧ t = 3) := by
  unfold vc_Md_goes
  repeat' (first | (intro _) | apply And.intro | omega)
theorem s_Md_goes_111 (th : Int) (no : Int) (ca : Nat → Int) (ba : Nat → Int) (nl : Int) (xa : Nat → Int) (sa : Nat → Int) (da : Nat → Int) (la : Nat → Int) (ra : Nat → Int) (fa : Nat → Int) (ta : Nat → Int) (ua : Nat → Int) (uh : Nat → Int) (uo : Nat → Int) (ma : Nat → Int) (mh : Nat → Int) (ml : Nat → Int) (nf : Int) (fo : Nat → Int) (fh : Nat → Int) (fs : Nat → Int) (rs : Int) (ic : Int) (mn : Int) (bh : Nat → Int) (bo : Nat → Int) (ya : Nat → Int) (np : Int) (pa : Nat → Int) (nc : Int) (cp : Nat → Int) : vc_Md_goes th no ca ba nl xa sa da la ra fa ta ua uh uo ma mh ml nf fo fh fs rs ic mn bh bo ya np pa nc cp 1 1 1 (fun z t => z = 1 ∧ t = 0) := by
  unfold vc_Md_goes
  repeat' (first | (intro _) | apply And.intro | omega)
