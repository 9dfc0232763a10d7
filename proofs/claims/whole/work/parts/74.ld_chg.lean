/-! MODULE LightDoses: checkChange -/
theorem d_LD_checkChange_0 : decode prog_1_method_24_code 0 = .ok (.aload_n 0, 1) := by decide +kernel
theorem d_LD_checkChange_1 : decode prog_1_method_24_code 1 = .ok (.getfield 139, 3) := by decide +kernel
theorem d_LD_checkChange_4 : decode prog_1_method_24_code 4 = .ok (.bipush 20, 2) := by decide +kernel
theorem d_LD_checkChange_6 : decode prog_1_method_24_code 6 = .ok (.if_icmp .lt 21, 3) := by decide +kernel
theorem d_LD_checkChange_9 : decode prog_1_method_24_code 9 = .ok (.aload_n 0, 1) := by decide +kernel
theorem d_LD_checkChange_10 : decode prog_1_method_24_code 10 = .ok (.iload_n 1, 1) := by decide +kernel
theorem d_LD_checkChange_11 : decode prog_1_method_24_code 11 = .ok (.invokevirtual 226, 3) := by decide +kernel
theorem d_LD_checkChange_14 : decode prog_1_method_24_code 14 = .ok (.ifCond .ne 13, 3) := by decide +kernel
theorem d_LD_checkChange_17 : decode prog_1_method_24_code 17 = .ok (.new 73, 3) := by decide +kernel
theorem d_LD_checkChange_20 : decode prog_1_method_24_code 20 = .ok (.dup, 1) := by decide +kernel
theorem d_LD_checkChange_21 : decode prog_1_method_24_code 21 = .ok (.ldc 230, 2) := by decide +kernel
theorem d_LD_checkChange_23 : decode prog_1_method_24_code 23 = .ok (.invokespecial 77, 3) := by decide +kernel
theorem d_LD_checkChange_26 : decode prog_1_method_24_code 26 = .ok (.athrow, 1) := by decide +kernel
theorem d_LD_checkChange_27 : decode prog_1_method_24_code 27 = .ok (.return_, 1) := by decide +kernel
def vc_LD_checkChange (fst : Int) (fh : Nat → Int) (fv : Nat → Int) (n : Int) (hour : Int) : Prop := (r32 n) ∧ ((n < 20 → True) ∧ (20 ≤ n → ∃ P3 : Int → Prop, vc_Ch_tells fst fh fv n hour P3 ∧ ∀ z4 : Int, P3 z4 → (r32 z4) ∧ ((¬ z4 = 0 → True) ∧ (z4 = 0 → False))))
set_option maxHeartbeats 4000000 in
set_option maxRecDepth 100000 in
theorem m_LD_checkChange (l : Launch) (D : va_G) (cI cJ cO cZ : ClassId) (h0 h1 h2 : Nat) (fst : Int) (fh : Nat → Int) (fv : Nat → Int) (n : Int) (hour : Int) (v : vc_LD_checkChange fst fh fv n hour) : Met l ⟨"LightDoses", "checkChange", "(LLightDoses$Changes;I)V"⟩ (.code ⟨"LightDoses", "checkChange", "(LLightDoses$Changes;I)V"⟩ prog_1_method_24_code 2 none :: TG) { frames := 2, cells := 0, slots := 0, locals := 45 } (va_Pc [.ref h0, .int (iI hour)] (fun U => va_K D vwCl (tyx cI cJ cO cZ) U ∧ va_P D vwCl [(h0, .inr (2, [.int (iI fst), .ref h1, .ref h2, .int (iI n)])), (h1, .inl (cI, 20, .inl (fun k => iI (fh k)))), (h2, .inl (cI, 20, .inl (fun k => iI (fv k))))] U.heap)) nv_Sv 0 0 (fun _ => False) := by
  refine Met.ofW (cc := prog_1_method_24_code) (maxL := 2) (ret := none) (by decide) rfl ?_
  intro p e s m args below meth c s₁ B hml hv
  obtain ⟨rfl, hK, hP⟩ := hv
  have hx := B.exec
  have hb := B.bytes
  have hr := B.returns
  have hts0 := atoms_spec (ws := (.code ⟨"LightDoses", "checkChange", "(LLightDoses$Changes;I)V"⟩ prog_1_method_24_code 2 none :: TG)) B.pre
  have hts : ∀ w ∈ TG, w.before _ s = true := fun w h => hts0 w (List.mem_cons_of_mem _ h)
  have hown : s.vm.findClass "LightDoses" = some m.cls := findClass_of_methodNamed B.named
  have hlocks := B.notSynchronized
  have hP : va_P D vwCl [(h0, .inr (2, [.int (iI fst), .ref h1, .ref h2, .int (iI n)])), (h1, .inl (cI, 20, .inl (fun k => iI (fh k)))), (h2, .inl (cI, 20, .inl (fun k => iI (fv k))))] s.heap := hP
  have hl := lv_entry ([Value.ref h0, Value.int (iI hour)]) (n := 2) (Nat.le_of_ble_eq_true rfl)
  rw [lg_entry_eq]
  generalize (lg_sl ([Value.ref h0, Value.int (iI hour)]) ++ List.replicate (2 - (lg_sl ([Value.ref h0, Value.int (iI hour)])).length) Slot.unset).toArray = ls at hl ⊢
  have hl : lv_has ls 2 [(0, .ref h0), (1, .int (iI hour))] := hl
  unfold vc_LD_checkChange at v
  refine lv_aload_n hx hb d_LD_checkChange_0 rfl (lv_at hl 0 rfl) ?_
  refine va_get (D := D) (ci := 2) (v := .int (iI n)) (C := "LightDoses$Changes") (T := T_Ch) (N := 4) hx hb hts in_Ch hown hK hP 0 rfl rfl 3 (by decide) (hts _ wd_482) (fun _ h9 => h9) rfl d_LD_checkChange_1 ?_
  refine nv_bipush (z := 20) hx hb d_LD_checkChange_4 (by decide) ?_
  obtain ⟨k1, v⟩ := v
  refine nv_icmp_lt (tgt := 27) hx hb d_LD_checkChange_6 (by decide) k1 (by decide) (fun c2 => ?_) (fun c2 => ?_)
  · replace v := v.1 c2
    exact W.vret hx hb hr (fun t ht hW => ⟨rfl, ht⟩) (fun q h => by cases h) d_LD_checkChange_27
  · replace v := v.2 c2
    refine lv_aload_n hx hb d_LD_checkChange_9 rfl (lv_at hl 0 rfl) ?_
    refine lv_iload_n hx hb d_LD_checkChange_10 rfl (lv_at hl 1 rfl) ?_
    obtain ⟨P3, q5, v⟩ := v
    refine vp_callSi (nv_runV (wc := [(h0, .inr (2, [.int (iI fst), .ref h1, .ref h2, .int (iI n)])), (h1, .inl (cI, 20, .inl (fun k => iI (fh k)))), (h2, .inl (cI, 20, .inl (fun k => iI (fv k))))]) (As := [.int (iI hour)]) (rest := []) ⟨hx, hb, hml, hown, hts⟩ (m_Ch_tells l D cI cJ cO cZ h0 h1 h2 fst fh fv n hour P3 q5) (nv_cwV (n := 1) hts wd_578 wd_579 wd_580 wd_22 wd_581 (by decide +kernel) ⟨Nat.le_of_ble_eq_true rfl, Nat.le_of_ble_eq_true rfl⟩) hK (hP.sub [0, 1, 2] rfl) (va_recv hK hP (ci := 2) (q0 := 0) rfl rfl) rfl hl.1 rfl (Nat.le_of_ble_eq_true rfl) d_LD_checkChange_11 (Nat.le_of_ble_eq_true rfl) (Nat.le_of_ble_eq_true rfl)) (fun r hr => ?_)
    obtain ⟨z4, rfl, hz⟩ := hr
    replace v := v z4 hz
    obtain ⟨k6, v⟩ := v
    refine nv_if_ne (tgt := 27) hx hb d_LD_checkChange_14 (by decide) k6 (fun c7 => ?_) (fun c7 => ?_)
    · replace v := v.1 c7
      exact W.vret hx hb hr (fun t ht hW => ⟨rfl, ht⟩) (fun q h => by cases h) d_LD_checkChange_27
    · replace v := v.2 c7
      exact v.elim

def vt_LD_checkChange (fst : Int) (fh : Nat → Int) (fv : Nat → Int) (n : Int) (hour : Int) (X : String) : Prop := (r32 n) ∧ ((n < 20 → False) ∧ (20 ≤ n → ∃ P3 : Int → Prop, vc_Ch_tells fst fh fv n hour P3 ∧ ∀ z4 : Int, P3 z4 → (r32 z4) ∧ ((¬ z4 = 0 → False) ∧ (z4 = 0 → X = "java/lang/IllegalStateException"))))
set_option maxHeartbeats 4000000 in
set_option maxRecDepth 100000 in
theorem t_LD_checkChange (l : Launch) (D : va_G) (cI cJ cO cZ : ClassId) (qd mi : Nat) (Z : State) (hZ : EvZ qd mi Z) (hfl : ∀ e : Env, l.admits e → e.platform.stackTraces = false) (h0 h1 h2 : Nat) (fst : Int) (fh : Nat → Int) (fv : Nat → Int) (n : Int) (hour : Int) (X : String) (v : vt_LD_checkChange fst fh fv n hour X) : MetT l ⟨"LightDoses", "checkChange", "(LLightDoses$Changes;I)V"⟩ (.code ⟨"LightDoses", "checkChange", "(LLightDoses$Changes;I)V"⟩ prog_1_method_24_code 2 none :: TG) { frames := 6, cells := 1, slots := 6, locals := 90 } (va_Pc [.ref h0, .int (iI hour)] (fun U => va_K D vwCl (tyx cI cJ cO cZ) U ∧ va_P D vwCl [(h0, .inr (2, [.int (iI fst), .ref h1, .ref h2, .int (iI n)])), (h1, .inl (cI, 20, .inl (fun k => iI (fh k)))), (h2, .inl (cI, 20, .inl (fun k => iI (fv k))))] U.heap ∧ Ev Z U)) (th_X X) 1 6 (fun _ => False) := by
  refine MetT.ofW (cc := prog_1_method_24_code) (maxL := 2) (ret := none) (by decide) rfl ?_
  intro p e s m args below meth c s₁ B hml hv
  obtain ⟨rfl, hK, hP, hE⟩ := hv
  have hx := B.exec
  have hb := B.bytes
  have hr := B.returns
  have hts0 := atoms_spec (ws := (.code ⟨"LightDoses", "checkChange", "(LLightDoses$Changes;I)V"⟩ prog_1_method_24_code 2 none :: TG)) B.pre
  have hts : ∀ w ∈ TG, w.before _ s = true := fun w h => hts0 w (List.mem_cons_of_mem _ h)
  have hown : s.vm.findClass "LightDoses" = some m.cls := findClass_of_methodNamed B.named
  have hlocks := B.notSynchronized
  have hno := nv_noTable B hts0
  have hP : va_P D vwCl [(h0, .inr (2, [.int (iI fst), .ref h1, .ref h2, .int (iI n)])), (h1, .inl (cI, 20, .inl (fun k => iI (fh k)))), (h2, .inl (cI, 20, .inl (fun k => iI (fv k))))] s.heap := hP
  have hl := lv_entry ([Value.ref h0, Value.int (iI hour)]) (n := 2) (Nat.le_of_ble_eq_true rfl)
  rw [lg_entry_eq]
  generalize (lg_sl ([Value.ref h0, Value.int (iI hour)]) ++ List.replicate (2 - (lg_sl ([Value.ref h0, Value.int (iI hour)])).length) Slot.unset).toArray = ls at hl ⊢
  have hl : lv_has ls 2 [(0, .ref h0), (1, .int (iI hour))] := hl
  unfold vt_LD_checkChange at v
  refine lv_aload_n hx hb d_LD_checkChange_0 rfl (lv_at hl 0 rfl) ?_
  refine va_get (D := D) (ci := 2) (v := .int (iI n)) (C := "LightDoses$Changes") (T := T_Ch) (N := 4) hx hb hts in_Ch hown hK hP 0 rfl rfl 3 (by decide) (hts _ wd_482) (fun _ h9 => h9) rfl d_LD_checkChange_1 ?_
  refine nv_bipush (z := 20) hx hb d_LD_checkChange_4 (by decide) ?_
  obtain ⟨k1, v⟩ := v
  refine nv_icmp_lt (tgt := 27) hx hb d_LD_checkChange_6 (by decide) k1 (by decide) (fun c2 => ?_) (fun c2 => ?_)
  · replace v := v.1 c2
    exact v.elim
  · replace v := v.2 c2
    refine lv_aload_n hx hb d_LD_checkChange_9 rfl (lv_at hl 0 rfl) ?_
    refine lv_iload_n hx hb d_LD_checkChange_10 rfl (lv_at hl 1 rfl) ?_
    obtain ⟨P3, q5, v⟩ := v
    refine vp_callSi (nv_runV (wc := [(h0, .inr (2, [.int (iI fst), .ref h1, .ref h2, .int (iI n)])), (h1, .inl (cI, 20, .inl (fun k => iI (fh k)))), (h2, .inl (cI, 20, .inl (fun k => iI (fv k))))]) (As := [.int (iI hour)]) (rest := []) ⟨hx, hb, hml, hown, hts⟩ (m_Ch_tells l D cI cJ cO cZ h0 h1 h2 fst fh fv n hour P3 q5) (nv_cwV (n := 1) hts wd_578 wd_579 wd_580 wd_22 wd_581 (by decide +kernel) ⟨Nat.le_of_ble_eq_true rfl, Nat.le_of_ble_eq_true rfl⟩) hK (hP.sub [0, 1, 2] rfl) (va_recv hK hP (ci := 2) (q0 := 0) rfl rfl) rfl hl.1 rfl (Nat.le_of_ble_eq_true rfl) d_LD_checkChange_11 (Nat.le_of_ble_eq_true rfl) (Nat.le_of_ble_eq_true rfl)) (fun r hr => ?_)
    obtain ⟨z4, rfl, hz⟩ := hr
    replace v := v z4 hz
    obtain ⟨k6, v⟩ := v
    refine nv_if_ne (tgt := 27) hx hb d_LD_checkChange_14 (by decide) k6 (fun c7 => ?_) (fun c7 => ?_)
    · replace v := v.1 c7
      exact v.elim
    · replace v := v.2 c7
      subst v
      exact nv_throw (tx := "twenty other hours tell this of the lamp") hx hb (hfl _ B.admits) (hml.trans hl.1.symm) hZ hE hts hown (by decide +kernel) th_atS wd_333 wd_15 (by decide +kernel) hno hlocks (Nat.le_of_ble_eq_true rfl) (Nat.le_of_ble_eq_true rfl) (Nat.le_of_ble_eq_true rfl) (Nat.le_of_ble_eq_true rfl) d_LD_checkChange_17 d_LD_checkChange_20 d_LD_checkChange_21 d_LD_checkChange_23 d_LD_checkChange_26

theorem s_LD_checkChange {fst : Int} {fh fv : Nat → Int} {N : Nat} {hour : Int} (h : chOK fh fv N) (hr : r32 hour) (hc : N < 20 ∨ ∃ i, i < N ∧ fh i = hour) : vc_LD_checkChange fst fh fv N hour := by
  have hN := h.1
  unfold vc_LD_checkChange
  refine ⟨⟨by omega, by omega⟩, fun _ => trivial, fun q => ⟨_, s_Ch_tells h hr, fun z hz => ?_⟩⟩
  rcases hz with ⟨rfl, _⟩ | ⟨rfl, hno⟩
  · exact ⟨by decide, fun _ => trivial, fun q => absurd q (by decide)⟩
  · rcases hc with hc | ⟨i, hi, hi2⟩
    · omega
    · exact absurd hi2 (hno i hi)
theorem f_LD_checkChange {fst : Int} {fh fv : Nat → Int} {N : Nat} {hour : Int} (h : chOK fh fv N) (hr : r32 hour) (hc : ¬ (N < 20 ∨ ∃ i, i < N ∧ fh i = hour)) : vt_LD_checkChange fst fh fv N hour "java/lang/IllegalStateException" := by
  have hN := h.1
  unfold vt_LD_checkChange
  refine ⟨⟨by omega, by omega⟩, fun q => (hc (Or.inl (by omega))).elim, fun q => ⟨_, s_Ch_tells h hr, fun z hz => ?_⟩⟩
  rcases hz with ⟨rfl, i, hi, hi2⟩ | ⟨rfl, hno⟩
  · exact (hc (Or.inr ⟨i, hi, hi2⟩)).elim
  · exact ⟨by decide, fun q => absurd rfl q, fun _ => rfl⟩
