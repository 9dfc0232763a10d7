/-! MODULE LightDoses: its checks -/
theorem nv_noTable {p : Program} {l : Launch} {y : MethodName} {ws : List Cond} {rm : Room} {cc : ByteArray} {maxL : Nat} {ret : Option FieldType} {e : Env} {s : State} {m : MethodId} {args : Array Value} {below : List Frame} {meth : Method} {c : Code} {s₁ : State} (B : BodyLoose p l y (headSpec (Cond.code y cc maxL ret :: ws) rm) cc maxL ret e s m args below meth c s₁) (h : ∀ w ∈ (Cond.code y cc maxL ret :: ws), w.before args s = true) : c.exceptionTable.isEmpty = true := by
  obtain ⟨meth', c', h1, h2, -, -, -, -, h7, -⟩ := Cond.code_spec B.named (h _ List.mem_cons_self)
  have e1 : meth' = meth := Option.some.inj (h1.symm.trans B.method)
  subst e1
  have e2 : c' = c := Option.some.inj (h2.symm.trans (Stand.of_body B).code)
  subst e2
  exact h7
theorem d_LD_checkIndex_0 : decode prog_1_method_21_code 0 = .ok (.iload_n 0, 1) := by decide +kernel
theorem d_LD_checkIndex_1 : decode prog_1_method_21_code 1 = .ok (.ifCond .lt 8, 3) := by decide +kernel
theorem d_LD_checkIndex_4 : decode prog_1_method_21_code 4 = .ok (.iload_n 0, 1) := by decide +kernel
theorem d_LD_checkIndex_5 : decode prog_1_method_21_code 5 = .ok (.iload_n 1, 1) := by decide +kernel
theorem d_LD_checkIndex_6 : decode prog_1_method_21_code 6 = .ok (.if_icmp .lt 13, 3) := by decide +kernel
theorem d_LD_checkIndex_9 : decode prog_1_method_21_code 9 = .ok (.new 212, 3) := by decide +kernel
theorem d_LD_checkIndex_12 : decode prog_1_method_21_code 12 = .ok (.dup, 1) := by decide +kernel
theorem d_LD_checkIndex_13 : decode prog_1_method_21_code 13 = .ok (.ldc 217, 2) := by decide +kernel
theorem d_LD_checkIndex_15 : decode prog_1_method_21_code 15 = .ok (.invokespecial 216, 3) := by decide +kernel
theorem d_LD_checkIndex_18 : decode prog_1_method_21_code 18 = .ok (.athrow, 1) := by decide +kernel
theorem d_LD_checkIndex_19 : decode prog_1_method_21_code 19 = .ok (.return_, 1) := by decide +kernel
def vc_LD_checkIndex (ix : Int) (ln : Int) : Prop := (r32 ix) ∧ ((ix < 0 → False) ∧ (0 ≤ ix → (r32 ln) ∧ ((ix < ln → True) ∧ (ln ≤ ix → False))))
set_option maxHeartbeats 4000000 in
set_option maxRecDepth 100000 in
theorem m_LD_checkIndex (l : Launch) (D : va_G) (cI cJ cO cZ : ClassId)  (ix : Int) (ln : Int) (v : vc_LD_checkIndex ix ln) : Met l ⟨"LightDoses", "checkIndex", "(II)V"⟩ (.code ⟨"LightDoses", "checkIndex", "(II)V"⟩ prog_1_method_21_code 2 none :: TG) { frames := 0, cells := 0, slots := 0, locals := 0 } (va_Pc [.int (iI ix), .int (iI ln)] (fun U => va_K D vwCl (tyx cI cJ cO cZ) U ∧ va_P D vwCl [] U.heap)) nv_Sv 0 0 (fun _ => False) := by
  refine Met.ofW (cc := prog_1_method_21_code) (maxL := 2) (ret := none) (by decide) rfl ?_
  intro p e s m args below meth c s₁ B hml hv
  obtain ⟨rfl, hK, hP⟩ := hv
  have hx := B.exec
  have hb := B.bytes
  have hr := B.returns
  have hts0 := atoms_spec (ws := (.code ⟨"LightDoses", "checkIndex", "(II)V"⟩ prog_1_method_21_code 2 none :: TG)) B.pre
  have hts : ∀ w ∈ TG, w.before _ s = true := fun w h => hts0 w (List.mem_cons_of_mem _ h)
  have hown : s.vm.findClass "LightDoses" = some m.cls := findClass_of_methodNamed B.named
  have hlocks := B.notSynchronized
  have hP : va_P D vwCl [] s.heap := hP
  have hl := lv_entry ([Value.int (iI ix), Value.int (iI ln)]) (n := 2) (Nat.le_of_ble_eq_true rfl)
  rw [lg_entry_eq]
  generalize (lg_sl ([Value.int (iI ix), Value.int (iI ln)]) ++ List.replicate (2 - (lg_sl ([Value.int (iI ix), Value.int (iI ln)])).length) Slot.unset).toArray = ls at hl ⊢
  have hl : lv_has ls 2 [(0, .int (iI ix)), (1, .int (iI ln))] := hl
  unfold vc_LD_checkIndex at v
  refine lv_iload_n hx hb d_LD_checkIndex_0 rfl (lv_at hl 0 rfl) ?_
  obtain ⟨k1, v⟩ := v
  refine nv_if_lt (tgt := 9) hx hb d_LD_checkIndex_1 (by decide) k1 (fun c2 => ?_) (fun c2 => ?_)
  · replace v := v.1 c2
    exact v.elim
  · replace v := v.2 c2
    refine lv_iload_n hx hb d_LD_checkIndex_4 rfl (lv_at hl 0 rfl) ?_
    refine lv_iload_n hx hb d_LD_checkIndex_5 rfl (lv_at hl 1 rfl) ?_
    obtain ⟨k3, v⟩ := v
    refine nv_icmp_lt (tgt := 19) hx hb d_LD_checkIndex_6 (by decide) k1 k3 (fun c4 => ?_) (fun c4 => ?_)
    · replace v := v.1 c4
      exact W.vret hx hb hr (fun t ht hW => ⟨rfl, ht⟩) (fun q h => by cases h) d_LD_checkIndex_19
    · replace v := v.2 c4
      exact v.elim

def vt_LD_checkIndex (ix : Int) (ln : Int) (X : String) : Prop := (r32 ix) ∧ ((ix < 0 → X = "java/lang/IndexOutOfBoundsException") ∧ (0 ≤ ix → (r32 ln) ∧ ((ix < ln → False) ∧ (ln ≤ ix → X = "java/lang/IndexOutOfBoundsException"))))
set_option maxHeartbeats 4000000 in
set_option maxRecDepth 100000 in
theorem t_LD_checkIndex (l : Launch) (D : va_G) (cI cJ cO cZ : ClassId) (qd mi : Nat) (Z : State) (hZ : EvZ qd mi Z) (hfl : ∀ e : Env, l.admits e → e.platform.stackTraces = false)  (ix : Int) (ln : Int) (X : String) (v : vt_LD_checkIndex ix ln X) : MetT l ⟨"LightDoses", "checkIndex", "(II)V"⟩ (.code ⟨"LightDoses", "checkIndex", "(II)V"⟩ prog_1_method_21_code 2 none :: TG) { frames := 6, cells := 1, slots := 6, locals := 90 } (va_Pc [.int (iI ix), .int (iI ln)] (fun U => va_K D vwCl (tyx cI cJ cO cZ) U ∧ va_P D vwCl [] U.heap ∧ Ev Z U)) (th_X X) 1 6 (fun _ => False) := by
  refine MetT.ofW (cc := prog_1_method_21_code) (maxL := 2) (ret := none) (by decide) rfl ?_
  intro p e s m args below meth c s₁ B hml hv
  obtain ⟨rfl, hK, hP, hE⟩ := hv
  have hx := B.exec
  have hb := B.bytes
  have hr := B.returns
  have hts0 := atoms_spec (ws := (.code ⟨"LightDoses", "checkIndex", "(II)V"⟩ prog_1_method_21_code 2 none :: TG)) B.pre
  have hts : ∀ w ∈ TG, w.before _ s = true := fun w h => hts0 w (List.mem_cons_of_mem _ h)
  have hown : s.vm.findClass "LightDoses" = some m.cls := findClass_of_methodNamed B.named
  have hlocks := B.notSynchronized
  have hno := nv_noTable B hts0
  have hP : va_P D vwCl [] s.heap := hP
  have hl := lv_entry ([Value.int (iI ix), Value.int (iI ln)]) (n := 2) (Nat.le_of_ble_eq_true rfl)
  rw [lg_entry_eq]
  generalize (lg_sl ([Value.int (iI ix), Value.int (iI ln)]) ++ List.replicate (2 - (lg_sl ([Value.int (iI ix), Value.int (iI ln)])).length) Slot.unset).toArray = ls at hl ⊢
  have hl : lv_has ls 2 [(0, .int (iI ix)), (1, .int (iI ln))] := hl
  unfold vt_LD_checkIndex at v
  refine lv_iload_n hx hb d_LD_checkIndex_0 rfl (lv_at hl 0 rfl) ?_
  obtain ⟨k1, v⟩ := v
  refine nv_if_lt (tgt := 9) hx hb d_LD_checkIndex_1 (by decide) k1 (fun c2 => ?_) (fun c2 => ?_)
  · replace v := v.1 c2
    subst v
    exact nv_throw (tx := "there is none of this number") hx hb (hfl _ B.admits) (hml.trans hl.1.symm) hZ hE hts hown (by decide +kernel) th_atI wd_198 wd_14 (by decide +kernel) hno hlocks (Nat.le_of_ble_eq_true rfl) (Nat.le_of_ble_eq_true rfl) (Nat.le_of_ble_eq_true rfl) (Nat.le_of_ble_eq_true rfl) d_LD_checkIndex_9 d_LD_checkIndex_12 d_LD_checkIndex_13 d_LD_checkIndex_15 d_LD_checkIndex_18
  · replace v := v.2 c2
    refine lv_iload_n hx hb d_LD_checkIndex_4 rfl (lv_at hl 0 rfl) ?_
    refine lv_iload_n hx hb d_LD_checkIndex_5 rfl (lv_at hl 1 rfl) ?_
    obtain ⟨k3, v⟩ := v
    refine nv_icmp_lt (tgt := 19) hx hb d_LD_checkIndex_6 (by decide) k1 k3 (fun c4 => ?_) (fun c4 => ?_)
    · replace v := v.1 c4
      exact v.elim
    · replace v := v.2 c4
      subst v
      exact nv_throw (tx := "there is none of this number") hx hb (hfl _ B.admits) (hml.trans hl.1.symm) hZ hE hts hown (by decide +kernel) th_atI wd_198 wd_14 (by decide +kernel) hno hlocks (Nat.le_of_ble_eq_true rfl) (Nat.le_of_ble_eq_true rfl) (Nat.le_of_ble_eq_true rfl) (Nat.le_of_ble_eq_true rfl) d_LD_checkIndex_9 d_LD_checkIndex_12 d_LD_checkIndex_13 d_LD_checkIndex_15 d_LD_checkIndex_18

theorem s_LD_checkIndex {ix ln : Int} (hix : r32 ix) (hln : r32 ln) (hc : 0 ≤ ix ∧ ix < ln) : vc_LD_checkIndex ix ln := by
  obtain ⟨_, _⟩ := hix
  obtain ⟨_, _⟩ := hln
  unfold vc_LD_checkIndex
  repeat' (first | (intro _) | apply And.intro | omega | rfl | trivial)
theorem f_LD_checkIndex {ix ln : Int} (hix : r32 ix) (hln : r32 ln) (hc : ¬ (0 ≤ ix ∧ ix < ln)) : vt_LD_checkIndex ix ln "java/lang/IndexOutOfBoundsException" := by
  obtain ⟨_, _⟩ := hix
  obtain ⟨_, _⟩ := hln
  unfold vt_LD_checkIndex
  repeat' (first | (intro _) | apply And.intro | omega | rfl | trivial)
theorem d_LD_checkArgument_0 : decode prog_1_method_22_code 0 = .ok (.iload_n 0, 1) := by decide +kernel
theorem d_LD_checkArgument_1 : decode prog_1_method_22_code 1 = .ok (.iload_n 1, 1) := by decide +kernel
theorem d_LD_checkArgument_2 : decode prog_1_method_22_code 2 = .ok (.if_icmp .lt 8, 3) := by decide +kernel
theorem d_LD_checkArgument_5 : decode prog_1_method_22_code 5 = .ok (.iload_n 0, 1) := by decide +kernel
theorem d_LD_checkArgument_6 : decode prog_1_method_22_code 6 = .ok (.iload_n 2, 1) := by decide +kernel
theorem d_LD_checkArgument_7 : decode prog_1_method_22_code 7 = .ok (.if_icmp .le 13, 3) := by decide +kernel
theorem d_LD_checkArgument_10 : decode prog_1_method_22_code 10 = .ok (.new 219, 3) := by decide +kernel
theorem d_LD_checkArgument_13 : decode prog_1_method_22_code 13 = .ok (.dup, 1) := by decide +kernel
theorem d_LD_checkArgument_14 : decode prog_1_method_22_code 14 = .ok (.ldc 221, 2) := by decide +kernel
theorem d_LD_checkArgument_16 : decode prog_1_method_22_code 16 = .ok (.invokespecial 223, 3) := by decide +kernel
theorem d_LD_checkArgument_19 : decode prog_1_method_22_code 19 = .ok (.athrow, 1) := by decide +kernel
theorem d_LD_checkArgument_20 : decode prog_1_method_22_code 20 = .ok (.return_, 1) := by decide +kernel
def vc_LD_checkArgument (vv : Int) (lo : Int) (hi : Int) : Prop := (r32 vv) ∧ ((r32 lo) ∧ ((vv < lo → False) ∧ (lo ≤ vv → (r32 hi) ∧ ((vv ≤ hi → True) ∧ (hi < vv → False)))))
set_option maxHeartbeats 4000000 in
set_option maxRecDepth 100000 in
theorem m_LD_checkArgument (l : Launch) (D : va_G) (cI cJ cO cZ : ClassId)  (vv : Int) (lo : Int) (hi : Int) (v : vc_LD_checkArgument vv lo hi) : Met l ⟨"LightDoses", "checkArgument", "(III)V"⟩ (.code ⟨"LightDoses", "checkArgument", "(III)V"⟩ prog_1_method_22_code 3 none :: TG) { frames := 0, cells := 0, slots := 0, locals := 0 } (va_Pc [.int (iI vv), .int (iI lo), .int (iI hi)] (fun U => va_K D vwCl (tyx cI cJ cO cZ) U ∧ va_P D vwCl [] U.heap)) nv_Sv 0 0 (fun _ => False) := by
  refine Met.ofW (cc := prog_1_method_22_code) (maxL := 3) (ret := none) (by decide) rfl ?_
  intro p e s m args below meth c s₁ B hml hv
  obtain ⟨rfl, hK, hP⟩ := hv
  have hx := B.exec
  have hb := B.bytes
  have hr := B.returns
  have hts0 := atoms_spec (ws := (.code ⟨"LightDoses", "checkArgument", "(III)V"⟩ prog_1_method_22_code 3 none :: TG)) B.pre
  have hts : ∀ w ∈ TG, w.before _ s = true := fun w h => hts0 w (List.mem_cons_of_mem _ h)
  have hown : s.vm.findClass "LightDoses" = some m.cls := findClass_of_methodNamed B.named
  have hlocks := B.notSynchronized
  have hP : va_P D vwCl [] s.heap := hP
  have hl := lv_entry ([Value.int (iI vv), Value.int (iI lo), Value.int (iI hi)]) (n := 3) (Nat.le_of_ble_eq_true rfl)
  rw [lg_entry_eq]
  generalize (lg_sl ([Value.int (iI vv), Value.int (iI lo), Value.int (iI hi)]) ++ List.replicate (3 - (lg_sl ([Value.int (iI vv), Value.int (iI lo), Value.int (iI hi)])).length) Slot.unset).toArray = ls at hl ⊢
  have hl : lv_has ls 3 [(0, .int (iI vv)), (1, .int (iI lo)), (2, .int (iI hi))] := hl
  unfold vc_LD_checkArgument at v
  refine lv_iload_n hx hb d_LD_checkArgument_0 rfl (lv_at hl 0 rfl) ?_
  refine lv_iload_n hx hb d_LD_checkArgument_1 rfl (lv_at hl 1 rfl) ?_
  obtain ⟨k1, v⟩ := v
  obtain ⟨k2, v⟩ := v
  refine nv_icmp_lt (tgt := 10) hx hb d_LD_checkArgument_2 (by decide) k1 k2 (fun c3 => ?_) (fun c3 => ?_)
  · replace v := v.1 c3
    exact v.elim
  · replace v := v.2 c3
    refine lv_iload_n hx hb d_LD_checkArgument_5 rfl (lv_at hl 0 rfl) ?_
    refine lv_iload_n hx hb d_LD_checkArgument_6 rfl (lv_at hl 2 rfl) ?_
    obtain ⟨k4, v⟩ := v
    refine nv_icmp_le (tgt := 20) hx hb d_LD_checkArgument_7 (by decide) k1 k4 (fun c5 => ?_) (fun c5 => ?_)
    · replace v := v.1 c5
      exact W.vret hx hb hr (fun t ht hW => ⟨rfl, ht⟩) (fun q h => by cases h) d_LD_checkArgument_20
    · replace v := v.2 c5
      exact v.elim

def vt_LD_checkArgument (vv : Int) (lo : Int) (hi : Int) (X : String) : Prop := (r32 vv) ∧ ((r32 lo) ∧ ((vv < lo → X = "java/lang/IllegalArgumentException") ∧ (lo ≤ vv → (r32 hi) ∧ ((vv ≤ hi → False) ∧ (hi < vv → X = "java/lang/IllegalArgumentException")))))
set_option maxHeartbeats 4000000 in
set_option maxRecDepth 100000 in
theorem t_LD_checkArgument (l : Launch) (D : va_G) (cI cJ cO cZ : ClassId) (qd mi : Nat) (Z : State) (hZ : EvZ qd mi Z) (hfl : ∀ e : Env, l.admits e → e.platform.stackTraces = false)  (vv : Int) (lo : Int) (hi : Int) (X : String) (v : vt_LD_checkArgument vv lo hi X) : MetT l ⟨"LightDoses", "checkArgument", "(III)V"⟩ (.code ⟨"LightDoses", "checkArgument", "(III)V"⟩ prog_1_method_22_code 3 none :: TG) { frames := 6, cells := 1, slots := 6, locals := 90 } (va_Pc [.int (iI vv), .int (iI lo), .int (iI hi)] (fun U => va_K D vwCl (tyx cI cJ cO cZ) U ∧ va_P D vwCl [] U.heap ∧ Ev Z U)) (th_X X) 1 6 (fun _ => False) := by
  refine MetT.ofW (cc := prog_1_method_22_code) (maxL := 3) (ret := none) (by decide) rfl ?_
  intro p e s m args below meth c s₁ B hml hv
  obtain ⟨rfl, hK, hP, hE⟩ := hv
  have hx := B.exec
  have hb := B.bytes
  have hr := B.returns
  have hts0 := atoms_spec (ws := (.code ⟨"LightDoses", "checkArgument", "(III)V"⟩ prog_1_method_22_code 3 none :: TG)) B.pre
  have hts : ∀ w ∈ TG, w.before _ s = true := fun w h => hts0 w (List.mem_cons_of_mem _ h)
  have hown : s.vm.findClass "LightDoses" = some m.cls := findClass_of_methodNamed B.named
  have hlocks := B.notSynchronized
  have hno := nv_noTable B hts0
  have hP : va_P D vwCl [] s.heap := hP
  have hl := lv_entry ([Value.int (iI vv), Value.int (iI lo), Value.int (iI hi)]) (n := 3) (Nat.le_of_ble_eq_true rfl)
  rw [lg_entry_eq]
  generalize (lg_sl ([Value.int (iI vv), Value.int (iI lo), Value.int (iI hi)]) ++ List.replicate (3 - (lg_sl ([Value.int (iI vv), Value.int (iI lo), Value.int (iI hi)])).length) Slot.unset).toArray = ls at hl ⊢
  have hl : lv_has ls 3 [(0, .int (iI vv)), (1, .int (iI lo)), (2, .int (iI hi))] := hl
  unfold vt_LD_checkArgument at v
  refine lv_iload_n hx hb d_LD_checkArgument_0 rfl (lv_at hl 0 rfl) ?_
  refine lv_iload_n hx hb d_LD_checkArgument_1 rfl (lv_at hl 1 rfl) ?_
  obtain ⟨k1, v⟩ := v
  obtain ⟨k2, v⟩ := v
  refine nv_icmp_lt (tgt := 10) hx hb d_LD_checkArgument_2 (by decide) k1 k2 (fun c3 => ?_) (fun c3 => ?_)
  · replace v := v.1 c3
    subst v
    exact nv_throw (tx := "the value is out of its bounds") hx hb (hfl _ B.admits) (hml.trans hl.1.symm) hZ hE hts hown (by decide +kernel) th_atA wd_443 wd_20 (by decide +kernel) hno hlocks (Nat.le_of_ble_eq_true rfl) (Nat.le_of_ble_eq_true rfl) (Nat.le_of_ble_eq_true rfl) (Nat.le_of_ble_eq_true rfl) d_LD_checkArgument_10 d_LD_checkArgument_13 d_LD_checkArgument_14 d_LD_checkArgument_16 d_LD_checkArgument_19
  · replace v := v.2 c3
    refine lv_iload_n hx hb d_LD_checkArgument_5 rfl (lv_at hl 0 rfl) ?_
    refine lv_iload_n hx hb d_LD_checkArgument_6 rfl (lv_at hl 2 rfl) ?_
    obtain ⟨k4, v⟩ := v
    refine nv_icmp_le (tgt := 20) hx hb d_LD_checkArgument_7 (by decide) k1 k4 (fun c5 => ?_) (fun c5 => ?_)
    · replace v := v.1 c5
      exact v.elim
    · replace v := v.2 c5
      subst v
      exact nv_throw (tx := "the value is out of its bounds") hx hb (hfl _ B.admits) (hml.trans hl.1.symm) hZ hE hts hown (by decide +kernel) th_atA wd_443 wd_20 (by decide +kernel) hno hlocks (Nat.le_of_ble_eq_true rfl) (Nat.le_of_ble_eq_true rfl) (Nat.le_of_ble_eq_true rfl) (Nat.le_of_ble_eq_true rfl) d_LD_checkArgument_10 d_LD_checkArgument_13 d_LD_checkArgument_14 d_LD_checkArgument_16 d_LD_checkArgument_19

theorem s_LD_checkArgument {vv lo hi : Int} (hvv : r32 vv) (hlo : r32 lo) (hhi : r32 hi) (hc : lo ≤ vv ∧ vv ≤ hi) : vc_LD_checkArgument vv lo hi := by
  obtain ⟨_, _⟩ := hvv
  obtain ⟨_, _⟩ := hlo
  obtain ⟨_, _⟩ := hhi
  unfold vc_LD_checkArgument
  repeat' (first | (intro _) | apply And.intro | omega | rfl | trivial)
theorem f_LD_checkArgument {vv lo hi : Int} (hvv : r32 vv) (hlo : r32 lo) (hhi : r32 hi) (hc : ¬ (lo ≤ vv ∧ vv ≤ hi)) : vt_LD_checkArgument vv lo hi "java/lang/IllegalArgumentException" := by
  obtain ⟨_, _⟩ := hvv
  obtain ⟨_, _⟩ := hlo
  obtain ⟨_, _⟩ := hhi
  unfold vt_LD_checkArgument
  repeat' (first | (intro _) | apply And.intro | omega | rfl | trivial)
theorem d_LD_checkEnd_0 : decode prog_1_method_23_code 0 = .ok (.iload_n 1, 1) := by decide +kernel
theorem d_LD_checkEnd_1 : decode prog_1_method_23_code 1 = .ok (.iload_n 0, 1) := by decide +kernel
theorem d_LD_checkEnd_2 : decode prog_1_method_23_code 2 = .ok (.if_icmp .le 10, 3) := by decide +kernel
theorem d_LD_checkEnd_5 : decode prog_1_method_23_code 5 = .ok (.iload_n 1, 1) := by decide +kernel
theorem d_LD_checkEnd_6 : decode prog_1_method_23_code 6 = .ok (.sipush 26280, 3) := by decide +kernel
theorem d_LD_checkEnd_9 : decode prog_1_method_23_code 9 = .ok (.if_icmp .le 13, 3) := by decide +kernel
theorem d_LD_checkEnd_12 : decode prog_1_method_23_code 12 = .ok (.new 219, 3) := by decide +kernel
theorem d_LD_checkEnd_15 : decode prog_1_method_23_code 15 = .ok (.dup, 1) := by decide +kernel
theorem d_LD_checkEnd_16 : decode prog_1_method_23_code 16 = .ok (.ldc 224, 2) := by decide +kernel
theorem d_LD_checkEnd_18 : decode prog_1_method_23_code 18 = .ok (.invokespecial 223, 3) := by decide +kernel
theorem d_LD_checkEnd_21 : decode prog_1_method_23_code 21 = .ok (.athrow, 1) := by decide +kernel
theorem d_LD_checkEnd_22 : decode prog_1_method_23_code 22 = .ok (.return_, 1) := by decide +kernel
def vc_LD_checkEnd (from_ : Int) (to_ : Int) : Prop := (r32 to_) ∧ ((r32 from_) ∧ ((to_ ≤ from_ → False) ∧ (from_ < to_ → (to_ ≤ 26280 → True) ∧ (26280 < to_ → False))))
set_option maxHeartbeats 4000000 in
set_option maxRecDepth 100000 in
theorem m_LD_checkEnd (l : Launch) (D : va_G) (cI cJ cO cZ : ClassId)  (from_ : Int) (to_ : Int) (v : vc_LD_checkEnd from_ to_) : Met l ⟨"LightDoses", "checkEnd", "(II)V"⟩ (.code ⟨"LightDoses", "checkEnd", "(II)V"⟩ prog_1_method_23_code 2 none :: TG) { frames := 0, cells := 0, slots := 0, locals := 0 } (va_Pc [.int (iI from_), .int (iI to_)] (fun U => va_K D vwCl (tyx cI cJ cO cZ) U ∧ va_P D vwCl [] U.heap)) nv_Sv 0 0 (fun _ => False) := by
  refine Met.ofW (cc := prog_1_method_23_code) (maxL := 2) (ret := none) (by decide) rfl ?_
  intro p e s m args below meth c s₁ B hml hv
  obtain ⟨rfl, hK, hP⟩ := hv
  have hx := B.exec
  have hb := B.bytes
  have hr := B.returns
  have hts0 := atoms_spec (ws := (.code ⟨"LightDoses", "checkEnd", "(II)V"⟩ prog_1_method_23_code 2 none :: TG)) B.pre
  have hts : ∀ w ∈ TG, w.before _ s = true := fun w h => hts0 w (List.mem_cons_of_mem _ h)
  have hown : s.vm.findClass "LightDoses" = some m.cls := findClass_of_methodNamed B.named
  have hlocks := B.notSynchronized
  have hP : va_P D vwCl [] s.heap := hP
  have hl := lv_entry ([Value.int (iI from_), Value.int (iI to_)]) (n := 2) (Nat.le_of_ble_eq_true rfl)
  rw [lg_entry_eq]
  generalize (lg_sl ([Value.int (iI from_), Value.int (iI to_)]) ++ List.replicate (2 - (lg_sl ([Value.int (iI from_), Value.int (iI to_)])).length) Slot.unset).toArray = ls at hl ⊢
  have hl : lv_has ls 2 [(0, .int (iI from_)), (1, .int (iI to_))] := hl
  unfold vc_LD_checkEnd at v
  refine lv_iload_n hx hb d_LD_checkEnd_0 rfl (lv_at hl 1 rfl) ?_
  refine lv_iload_n hx hb d_LD_checkEnd_1 rfl (lv_at hl 0 rfl) ?_
  obtain ⟨k1, v⟩ := v
  obtain ⟨k2, v⟩ := v
  refine nv_icmp_le (tgt := 12) hx hb d_LD_checkEnd_2 (by decide) k1 k2 (fun c3 => ?_) (fun c3 => ?_)
  · replace v := v.1 c3
    exact v.elim
  · replace v := v.2 c3
    refine lv_iload_n hx hb d_LD_checkEnd_5 rfl (lv_at hl 1 rfl) ?_
    refine nv_sipush (z := 26280) hx hb d_LD_checkEnd_6 (by decide) ?_
    refine nv_icmp_le (tgt := 22) hx hb d_LD_checkEnd_9 (by decide) k1 (by decide) (fun c4 => ?_) (fun c4 => ?_)
    · replace v := v.1 c4
      exact W.vret hx hb hr (fun t ht hW => ⟨rfl, ht⟩) (fun q h => by cases h) d_LD_checkEnd_22
    · replace v := v.2 c4
      exact v.elim

def vt_LD_checkEnd (from_ : Int) (to_ : Int) (X : String) : Prop := (r32 to_) ∧ ((r32 from_) ∧ ((to_ ≤ from_ → X = "java/lang/IllegalArgumentException") ∧ (from_ < to_ → (to_ ≤ 26280 → False) ∧ (26280 < to_ → X = "java/lang/IllegalArgumentException"))))
set_option maxHeartbeats 4000000 in
set_option maxRecDepth 100000 in
theorem t_LD_checkEnd (l : Launch) (D : va_G) (cI cJ cO cZ : ClassId) (qd mi : Nat) (Z : State) (hZ : EvZ qd mi Z) (hfl : ∀ e : Env, l.admits e → e.platform.stackTraces = false)  (from_ : Int) (to_ : Int) (X : String) (v : vt_LD_checkEnd from_ to_ X) : MetT l ⟨"LightDoses", "checkEnd", "(II)V"⟩ (.code ⟨"LightDoses", "checkEnd", "(II)V"⟩ prog_1_method_23_code 2 none :: TG) { frames := 6, cells := 1, slots := 6, locals := 90 } (va_Pc [.int (iI from_), .int (iI to_)] (fun U => va_K D vwCl (tyx cI cJ cO cZ) U ∧ va_P D vwCl [] U.heap ∧ Ev Z U)) (th_X X) 1 6 (fun _ => False) := by
  refine MetT.ofW (cc := prog_1_method_23_code) (maxL := 2) (ret := none) (by decide) rfl ?_
  intro p e s m args below meth c s₁ B hml hv
  obtain ⟨rfl, hK, hP, hE⟩ := hv
  have hx := B.exec
  have hb := B.bytes
  have hr := B.returns
  have hts0 := atoms_spec (ws := (.code ⟨"LightDoses", "checkEnd", "(II)V"⟩ prog_1_method_23_code 2 none :: TG)) B.pre
  have hts : ∀ w ∈ TG, w.before _ s = true := fun w h => hts0 w (List.mem_cons_of_mem _ h)
  have hown : s.vm.findClass "LightDoses" = some m.cls := findClass_of_methodNamed B.named
  have hlocks := B.notSynchronized
  have hno := nv_noTable B hts0
  have hP : va_P D vwCl [] s.heap := hP
  have hl := lv_entry ([Value.int (iI from_), Value.int (iI to_)]) (n := 2) (Nat.le_of_ble_eq_true rfl)
  rw [lg_entry_eq]
  generalize (lg_sl ([Value.int (iI from_), Value.int (iI to_)]) ++ List.replicate (2 - (lg_sl ([Value.int (iI from_), Value.int (iI to_)])).length) Slot.unset).toArray = ls at hl ⊢
  have hl : lv_has ls 2 [(0, .int (iI from_)), (1, .int (iI to_))] := hl
  unfold vt_LD_checkEnd at v
  refine lv_iload_n hx hb d_LD_checkEnd_0 rfl (lv_at hl 1 rfl) ?_
  refine lv_iload_n hx hb d_LD_checkEnd_1 rfl (lv_at hl 0 rfl) ?_
  obtain ⟨k1, v⟩ := v
  obtain ⟨k2, v⟩ := v
  refine nv_icmp_le (tgt := 12) hx hb d_LD_checkEnd_2 (by decide) k1 k2 (fun c3 => ?_) (fun c3 => ?_)
  · replace v := v.1 c3
    subst v
    exact nv_throw (tx := "the end is not above the start, or too late") hx hb (hfl _ B.admits) (hml.trans hl.1.symm) hZ hE hts hown (by decide +kernel) th_atA wd_443 wd_20 (by decide +kernel) hno hlocks (Nat.le_of_ble_eq_true rfl) (Nat.le_of_ble_eq_true rfl) (Nat.le_of_ble_eq_true rfl) (Nat.le_of_ble_eq_true rfl) d_LD_checkEnd_12 d_LD_checkEnd_15 d_LD_checkEnd_16 d_LD_checkEnd_18 d_LD_checkEnd_21
  · replace v := v.2 c3
    refine lv_iload_n hx hb d_LD_checkEnd_5 rfl (lv_at hl 1 rfl) ?_
    refine nv_sipush (z := 26280) hx hb d_LD_checkEnd_6 (by decide) ?_
    refine nv_icmp_le (tgt := 22) hx hb d_LD_checkEnd_9 (by decide) k1 (by decide) (fun c4 => ?_) (fun c4 => ?_)
    · replace v := v.1 c4
      exact v.elim
    · replace v := v.2 c4
      subst v
      exact nv_throw (tx := "the end is not above the start, or too late") hx hb (hfl _ B.admits) (hml.trans hl.1.symm) hZ hE hts hown (by decide +kernel) th_atA wd_443 wd_20 (by decide +kernel) hno hlocks (Nat.le_of_ble_eq_true rfl) (Nat.le_of_ble_eq_true rfl) (Nat.le_of_ble_eq_true rfl) (Nat.le_of_ble_eq_true rfl) d_LD_checkEnd_12 d_LD_checkEnd_15 d_LD_checkEnd_16 d_LD_checkEnd_18 d_LD_checkEnd_21

theorem s_LD_checkEnd {from_ to_ : Int} (hfrom_ : r32 from_) (hto_ : r32 to_) (hc : from_ < to_ ∧ to_ ≤ 26280) : vc_LD_checkEnd from_ to_ := by
  obtain ⟨_, _⟩ := hfrom_
  obtain ⟨_, _⟩ := hto_
  unfold vc_LD_checkEnd
  repeat' (first | (intro _) | apply And.intro | omega | rfl | trivial)
theorem f_LD_checkEnd {from_ to_ : Int} (hfrom_ : r32 from_) (hto_ : r32 to_) (hc : ¬ (from_ < to_ ∧ to_ ≤ 26280)) : vt_LD_checkEnd from_ to_ "java/lang/IllegalArgumentException" := by
  obtain ⟨_, _⟩ := hfrom_
  obtain ⟨_, _⟩ := hto_
  unfold vt_LD_checkEnd
  repeat' (first | (intro _) | apply And.intro | omega | rfl | trivial)
