/-! MODULE LightDoses: the public methods where they throw -/
theorem d_LD_object_0 : decode prog_1_method_2_code 0 = .ok (.iload_n 1, 1) := by decide +kernel
theorem d_LD_object_1 : decode prog_1_method_2_code 1 = .ok (.bipush 6, 2) := by decide +kernel
theorem d_LD_object_3 : decode prog_1_method_2_code 3 = .ok (.invokestatic 65, 3) := by decide +kernel
theorem d_LD_object_6 : decode prog_1_method_2_code 6 = .ok (.aload_n 0, 1) := by decide +kernel
theorem d_LD_object_7 : decode prog_1_method_2_code 7 = .ok (.getfield 12, 3) := by decide +kernel
theorem d_LD_object_10 : decode prog_1_method_2_code 10 = .ok (.invokevirtual 69, 3) := by decide +kernel
theorem d_LD_object_13 : decode prog_1_method_2_code 13 = .ok (.bipush 12, 2) := by decide +kernel
theorem d_LD_object_15 : decode prog_1_method_2_code 15 = .ok (.if_icmp .lt 13, 3) := by decide +kernel
theorem d_LD_object_18 : decode prog_1_method_2_code 18 = .ok (.new 73, 3) := by decide +kernel
theorem d_LD_object_21 : decode prog_1_method_2_code 21 = .ok (.dup, 1) := by decide +kernel
theorem d_LD_object_22 : decode prog_1_method_2_code 22 = .ok (.ldc 75, 2) := by decide +kernel
theorem d_LD_object_24 : decode prog_1_method_2_code 24 = .ok (.invokespecial 77, 3) := by decide +kernel
theorem d_LD_object_27 : decode prog_1_method_2_code 27 = .ok (.athrow, 1) := by decide +kernel
theorem d_LD_object_28 : decode prog_1_method_2_code 28 = .ok (.aload_n 0, 1) := by decide +kernel
theorem d_LD_object_29 : decode prog_1_method_2_code 29 = .ok (.getfield 12, 3) := by decide +kernel
theorem d_LD_object_32 : decode prog_1_method_2_code 32 = .ok (.new 80, 3) := by decide +kernel
theorem d_LD_object_35 : decode prog_1_method_2_code 35 = .ok (.dup, 1) := by decide +kernel
theorem d_LD_object_36 : decode prog_1_method_2_code 36 = .ok (.iload_n 1, 1) := by decide +kernel
theorem d_LD_object_37 : decode prog_1_method_2_code 37 = .ok (.invokespecial 82, 3) := by decide +kernel
theorem d_LD_object_40 : decode prog_1_method_2_code 40 = .ok (.invokevirtual 85, 3) := by decide +kernel
theorem d_LD_object_43 : decode prog_1_method_2_code 43 = .ok (.pop, 1) := by decide +kernel
theorem d_LD_object_44 : decode prog_1_method_2_code 44 = .ok (.aload_n 0, 1) := by decide +kernel
theorem d_LD_object_45 : decode prog_1_method_2_code 45 = .ok (.iconst 0, 1) := by decide +kernel
theorem d_LD_object_46 : decode prog_1_method_2_code 46 = .ok (.putfield 57, 3) := by decide +kernel
theorem d_LD_object_49 : decode prog_1_method_2_code 49 = .ok (.aload_n 0, 1) := by decide +kernel
theorem d_LD_object_50 : decode prog_1_method_2_code 50 = .ok (.getfield 12, 3) := by decide +kernel
theorem d_LD_object_53 : decode prog_1_method_2_code 53 = .ok (.invokevirtual 69, 3) := by decide +kernel
theorem d_LD_object_56 : decode prog_1_method_2_code 56 = .ok (.iconst 1, 1) := by decide +kernel
theorem d_LD_object_57 : decode prog_1_method_2_code 57 = .ok (.isub, 1) := by decide +kernel
theorem d_LD_object_58 : decode prog_1_method_2_code 58 = .ok (.ireturn, 1) := by decide +kernel
def vt_LD_object (fr : Int) (po : Int) (no : Nat) (xm : Int) (c_ : Int) (X : String) : Prop := (r32 c_) ∧ (((0 ≤ c_ ∧ c_ < 6) → (r32 (no : Int)) ∧ (((no : Int) < 12 → False) ∧ (12 ≤ (no : Int) → X = "java/lang/IllegalStateException"))) ∧ (¬ (0 ≤ c_ ∧ c_ < 6) → X = "java/lang/IndexOutOfBoundsException"))
set_option maxHeartbeats 4000000 in
set_option maxRecDepth 100000 in
theorem t_LD_object (l : Launch) (D : va_G) (cI cJ cO cZ : ClassId) (qd mi : Nat) (Z : State) (hZ : EvZ qd mi Z) (hfl : ∀ e : Env, l.admits e → e.platform.stackTraces = false) (h0 x1 y1 al dy fl br bk x2 : Nat) (fr : Int) (po : Int) (no : Nat) (xm : Int) (c_ : Int) (X : String) (v : vt_LD_object fr po no xm c_ X) : MetT l ⟨"LightDoses", "object", "(I)I"⟩ (.code ⟨"LightDoses", "object", "(I)I"⟩ prog_1_method_2_code 2 (some .int) :: TG) { frames := 7, cells := 1, slots := 6, locals := 111 } (va_Pc [.ref h0, .int (iI c_)] (fun U => va_K D vwCl (tyx cI cJ cO cZ) U ∧ va_P D vwCl [(h0, .inr (7, [.ref x1, .ref y1, .ref al, .ref dy, .ref fl, .ref br, .ref bk, .int (iI fr), .int (iI po)])), (x1, .inr (9, [.ref x2, .int (iI (no : Int)), .int (iI xm)]))] U.heap ∧ Ev Z U)) (th_X X) 1 6 (fun _ => False) := by
  refine MetT.ofW (cc := prog_1_method_2_code) (maxL := 2) (ret := (some .int)) (by decide) rfl ?_
  intro p e s m args below meth c s₁ B hml hv
  obtain ⟨rfl, hK, hP, hE⟩ := hv
  have hx := B.exec
  have hb := B.bytes
  have hr := B.returns
  have hts0 := atoms_spec (ws := (.code ⟨"LightDoses", "object", "(I)I"⟩ prog_1_method_2_code 2 (some .int) :: TG)) B.pre
  have hts : ∀ w ∈ TG, w.before _ s = true := fun w h => hts0 w (List.mem_cons_of_mem _ h)
  have hown : s.vm.findClass "LightDoses" = some m.cls := findClass_of_methodNamed B.named
  have hlocks := B.notSynchronized
  have hno := nv_noTable B hts0
  have hP : va_P D vwCl [(h0, .inr (7, [.ref x1, .ref y1, .ref al, .ref dy, .ref fl, .ref br, .ref bk, .int (iI fr), .int (iI po)])), (x1, .inr (9, [.ref x2, .int (iI (no : Int)), .int (iI xm)]))] s.heap := hP
  have hl := lv_entry ([Value.ref h0, Value.int (iI c_)]) (n := 2) (Nat.le_of_ble_eq_true rfl)
  rw [lg_entry_eq]
  generalize (lg_sl ([Value.ref h0, Value.int (iI c_)]) ++ List.replicate (2 - (lg_sl ([Value.ref h0, Value.int (iI c_)])).length) Slot.unset).toArray = ls at hl ⊢
  have hl : lv_has ls 2 [(0, .ref h0), (1, .int (iI c_))] := hl
  unfold vt_LD_object at v
  refine lv_iload_n hx hb d_LD_object_0 rfl (lv_at hl 1 rfl) ?_
  refine nv_bipush (z := 6) hx hb d_LD_object_1 (by decide) ?_
  obtain ⟨k1, v⟩ := v
  by_cases c2 : 0 ≤ c_ ∧ c_ < 6
  · replace v := v.1 c2
    refine nv_callSv (nv_runS (wc := []) (As := [.int (iI c_), .int (iI 6)]) (rest := []) ⟨hx, hb, hml, hown, hts⟩ (m_LD_checkIndex l D cI cJ cO cZ c_ 6 (s_LD_checkIndex k1 (by decide) c2)) (nv_cwS (n := 2) hts wd_195 wd_196 wd_1 wd_197 (by decide +kernel) ⟨Nat.le_of_ble_eq_true rfl, Nat.le_of_ble_eq_true rfl⟩) hK (hP.sub [] rfl) rfl hl.1 rfl (Nat.le_of_ble_eq_true rfl) d_LD_object_3 (Nat.le_of_ble_eq_true rfl) (Nat.le_of_ble_eq_true rfl)) ?_
    refine lv_aload_n hx hb d_LD_object_6 rfl (lv_at hl 0 rfl) ?_
    refine va_get (D := D) (ci := 7) (v := .ref x1) (C := "LightDoses") (T := T_LD) (N := 9) hx hb hts in_LD hown hK hP 0 rfl rfl 0 (by decide) (hts _ wd_139) (fun _ h9 => h9) rfl d_LD_object_7 ?_
    refine vp_callSi (nv_runV (wc := [(x1, .inr (9, [.ref x2, .int (iI (no : Int)), .int (iI xm)]))]) (As := []) (rest := []) ⟨hx, hb, hml, hown, hts⟩ (m_AL_size l D cI cJ cO cZ x1 x2 (no : Int) xm (fun z => z = (no : Int)) (by unfold vc_AL_size; rfl)) (nv_cwV (n := 0) hts wd_179 wd_180 wd_181 wd_4 wd_182 (by decide +kernel) ⟨Nat.le_of_ble_eq_true rfl, Nat.le_of_ble_eq_true rfl⟩) hK (hP.sub [1] rfl) (va_recv hK hP (ci := 9) (q0 := 1) rfl rfl) rfl hl.1 rfl (Nat.le_of_ble_eq_true rfl) d_LD_object_10 (Nat.le_of_ble_eq_true rfl) (Nat.le_of_ble_eq_true rfl)) (fun r9 hr9 => ?_)
    obtain ⟨_, rfl, rfl⟩ := hr9
    refine nv_bipush (z := 12) hx hb d_LD_object_13 (by decide) ?_
    obtain ⟨k3, v⟩ := v
    refine nv_icmp_lt (tgt := 28) hx hb d_LD_object_15 (by decide) k3 (by decide) (fun c4 => ?_) (fun c4 => ?_)
    · replace v := v.1 c4
      exact v.elim
    · replace v := v.2 c4
      subst v
      exact nv_throw (tx := "there are twelve objects") hx hb (hfl _ B.admits) (hml.trans hl.1.symm) hZ hE hts hown (by decide +kernel) th_atS wd_333 wd_15 (by decide +kernel) hno hlocks (Nat.le_of_ble_eq_true rfl) (Nat.le_of_ble_eq_true rfl) (Nat.le_of_ble_eq_true rfl) (Nat.le_of_ble_eq_true rfl) d_LD_object_18 d_LD_object_21 d_LD_object_22 d_LD_object_24 d_LD_object_27
  · have v := v.2 c2
    subst v
    exact nv_thS (wc := []) (As := [.int (iI c_), .int (iI 6)]) (rest := []) ⟨hx, hb, hml, hown, hts⟩ (t_LD_checkIndex l D cI cJ cO cZ qd mi Z hZ hfl c_ 6 "java/lang/IndexOutOfBoundsException" (f_LD_checkIndex k1 (by decide) c2)) (nv_cwS (rm := { frames := 6, cells := 1, slots := 6, locals := 90 }) (n := 2) hts wd_195 wd_196 wd_1 wd_197 (by decide +kernel) ⟨Nat.le_of_ble_eq_true rfl, Nat.le_of_ble_eq_true rfl⟩) hK (hP.sub [] rfl) hE rfl hl.1 rfl (Nat.le_of_ble_eq_true rfl) d_LD_object_3 (Nat.le_of_ble_eq_true rfl) (Nat.le_of_ble_eq_true rfl) hno hlocks

theorem d_LD_allowed_0 : decode prog_1_method_3_code 0 = .ok (.iload_n 1, 1) := by decide +kernel
theorem d_LD_allowed_1 : decode prog_1_method_3_code 1 = .ok (.bipush 6, 2) := by decide +kernel
theorem d_LD_allowed_3 : decode prog_1_method_3_code 3 = .ok (.invokestatic 65, 3) := by decide +kernel
theorem d_LD_allowed_6 : decode prog_1_method_3_code 6 = .ok (.iload_n 2, 1) := by decide +kernel
theorem d_LD_allowed_7 : decode prog_1_method_3_code 7 = .ok (.iconst (-1), 1) := by decide +kernel
theorem d_LD_allowed_8 : decode prog_1_method_3_code 8 = .ok (.ldc 89, 2) := by decide +kernel
theorem d_LD_allowed_10 : decode prog_1_method_3_code 10 = .ok (.invokestatic 90, 3) := by decide +kernel
theorem d_LD_allowed_13 : decode prog_1_method_3_code 13 = .ok (.aload_n 0, 1) := by decide +kernel
theorem d_LD_allowed_14 : decode prog_1_method_3_code 14 = .ok (.getfield 19, 3) := by decide +kernel
theorem d_LD_allowed_17 : decode prog_1_method_3_code 17 = .ok (.iload_n 1, 1) := by decide +kernel
theorem d_LD_allowed_18 : decode prog_1_method_3_code 18 = .ok (.iaload, 1) := by decide +kernel
theorem d_LD_allowed_19 : decode prog_1_method_3_code 19 = .ok (.istore_n 3, 1) := by decide +kernel
theorem d_LD_allowed_20 : decode prog_1_method_3_code 20 = .ok (.aload_n 0, 1) := by decide +kernel
theorem d_LD_allowed_21 : decode prog_1_method_3_code 21 = .ok (.getfield 19, 3) := by decide +kernel
theorem d_LD_allowed_24 : decode prog_1_method_3_code 24 = .ok (.iload_n 1, 1) := by decide +kernel
theorem d_LD_allowed_25 : decode prog_1_method_3_code 25 = .ok (.iload_n 2, 1) := by decide +kernel
theorem d_LD_allowed_26 : decode prog_1_method_3_code 26 = .ok (.iastore, 1) := by decide +kernel
theorem d_LD_allowed_27 : decode prog_1_method_3_code 27 = .ok (.aload_n 0, 1) := by decide +kernel
theorem d_LD_allowed_28 : decode prog_1_method_3_code 28 = .ok (.iconst 0, 1) := by decide +kernel
theorem d_LD_allowed_29 : decode prog_1_method_3_code 29 = .ok (.putfield 57, 3) := by decide +kernel
theorem d_LD_allowed_32 : decode prog_1_method_3_code 32 = .ok (.iload_n 3, 1) := by decide +kernel
theorem d_LD_allowed_33 : decode prog_1_method_3_code 33 = .ok (.ireturn, 1) := by decide +kernel
def vt_LD_allowed (fr : Int) (po : Int) (c_ : Int) (v_ : Int) (X : String) : Prop := (r32 c_) ∧ (((0 ≤ c_ ∧ c_ < 6) → (r32 v_) ∧ ((((-1) ≤ v_ ∧ v_ ≤ 1000000000) → False) ∧ (¬ ((-1) ≤ v_ ∧ v_ ≤ 1000000000) → X = "java/lang/IllegalArgumentException"))) ∧ (¬ (0 ≤ c_ ∧ c_ < 6) → X = "java/lang/IndexOutOfBoundsException"))
set_option maxHeartbeats 4000000 in
set_option maxRecDepth 100000 in
theorem t_LD_allowed (l : Launch) (D : va_G) (cI cJ cO cZ : ClassId) (qd mi : Nat) (Z : State) (hZ : EvZ qd mi Z) (hfl : ∀ e : Env, l.admits e → e.platform.stackTraces = false) (h0 x1 y1 al dy fl br bk : Nat) (fr : Int) (po : Int) (c_ : Int) (v_ : Int) (X : String) (v : vt_LD_allowed fr po c_ v_ X) : MetT l ⟨"LightDoses", "allowed", "(II)I"⟩ (.code ⟨"LightDoses", "allowed", "(II)I"⟩ prog_1_method_3_code 4 (some .int) :: TG) { frames := 7, cells := 1, slots := 6, locals := 112 } (va_Pc [.ref h0, .int (iI c_), .int (iI v_)] (fun U => va_K D vwCl (tyx cI cJ cO cZ) U ∧ va_P D vwCl [(h0, .inr (7, [.ref x1, .ref y1, .ref al, .ref dy, .ref fl, .ref br, .ref bk, .int (iI fr), .int (iI po)]))] U.heap ∧ Ev Z U)) (th_X X) 1 6 (fun _ => False) := by
  refine MetT.ofW (cc := prog_1_method_3_code) (maxL := 4) (ret := (some .int)) (by decide) rfl ?_
  intro p e s m args below meth c s₁ B hml hv
  obtain ⟨rfl, hK, hP, hE⟩ := hv
  have hx := B.exec
  have hb := B.bytes
  have hr := B.returns
  have hts0 := atoms_spec (ws := (.code ⟨"LightDoses", "allowed", "(II)I"⟩ prog_1_method_3_code 4 (some .int) :: TG)) B.pre
  have hts : ∀ w ∈ TG, w.before _ s = true := fun w h => hts0 w (List.mem_cons_of_mem _ h)
  have hown : s.vm.findClass "LightDoses" = some m.cls := findClass_of_methodNamed B.named
  have hlocks := B.notSynchronized
  have hno := nv_noTable B hts0
  have hP : va_P D vwCl [(h0, .inr (7, [.ref x1, .ref y1, .ref al, .ref dy, .ref fl, .ref br, .ref bk, .int (iI fr), .int (iI po)]))] s.heap := hP
  have hl := lv_entry ([Value.ref h0, Value.int (iI c_), Value.int (iI v_)]) (n := 4) (Nat.le_of_ble_eq_true rfl)
  rw [lg_entry_eq]
  generalize (lg_sl ([Value.ref h0, Value.int (iI c_), Value.int (iI v_)]) ++ List.replicate (4 - (lg_sl ([Value.ref h0, Value.int (iI c_), Value.int (iI v_)])).length) Slot.unset).toArray = ls at hl ⊢
  have hl : lv_has ls 4 [(0, .ref h0), (1, .int (iI c_)), (2, .int (iI v_))] := hl
  unfold vt_LD_allowed at v
  refine lv_iload_n hx hb d_LD_allowed_0 rfl (lv_at hl 1 rfl) ?_
  refine nv_bipush (z := 6) hx hb d_LD_allowed_1 (by decide) ?_
  obtain ⟨k1, v⟩ := v
  by_cases c2 : 0 ≤ c_ ∧ c_ < 6
  · replace v := v.1 c2
    refine nv_callSv (nv_runS (wc := []) (As := [.int (iI c_), .int (iI 6)]) (rest := []) ⟨hx, hb, hml, hown, hts⟩ (m_LD_checkIndex l D cI cJ cO cZ c_ 6 (s_LD_checkIndex k1 (by decide) c2)) (nv_cwS (n := 2) hts wd_195 wd_196 wd_1 wd_197 (by decide +kernel) ⟨Nat.le_of_ble_eq_true rfl, Nat.le_of_ble_eq_true rfl⟩) hK (hP.sub [] rfl) rfl hl.1 rfl (Nat.le_of_ble_eq_true rfl) d_LD_allowed_3 (Nat.le_of_ble_eq_true rfl) (Nat.le_of_ble_eq_true rfl)) ?_
    refine lv_iload_n hx hb d_LD_allowed_6 rfl (lv_at hl 2 rfl) ?_
    refine nv_iconst (n := (-1)) hx hb d_LD_allowed_7 ?_
    refine nv_ldc (z := 1000000000) hx hb hown (hts _ wd_439) (by decide) d_LD_allowed_8 ?_
    obtain ⟨k3, v⟩ := v
    by_cases c4 : (-1) ≤ v_ ∧ v_ ≤ 1000000000
    · replace v := v.1 c4
      refine nv_callSv (nv_runS (wc := []) (As := [.int (iI v_), .int (iI (-1)), .int (iI 1000000000)]) (rest := []) ⟨hx, hb, hml, hown, hts⟩ (m_LD_checkArgument l D cI cJ cO cZ v_ (-1) 1000000000 (s_LD_checkArgument k3 (by decide) (by decide) c4)) (nv_cwS (n := 3) hts wd_440 wd_441 wd_1 wd_442 (by decide +kernel) ⟨Nat.le_of_ble_eq_true rfl, Nat.le_of_ble_eq_true rfl⟩) hK (hP.sub [] rfl) rfl hl.1 rfl (Nat.le_of_ble_eq_true rfl) d_LD_allowed_10 (Nat.le_of_ble_eq_true rfl) (Nat.le_of_ble_eq_true rfl)) ?_
      exact v.elim
    · have v := v.2 c4
      subst v
      exact nv_thS (wc := []) (As := [.int (iI v_), .int (iI (-1)), .int (iI 1000000000)]) (rest := []) ⟨hx, hb, hml, hown, hts⟩ (t_LD_checkArgument l D cI cJ cO cZ qd mi Z hZ hfl v_ (-1) 1000000000 "java/lang/IllegalArgumentException" (f_LD_checkArgument k3 (by decide) (by decide) c4)) (nv_cwS (rm := { frames := 6, cells := 1, slots := 6, locals := 90 }) (n := 3) hts wd_440 wd_441 wd_1 wd_442 (by decide +kernel) ⟨Nat.le_of_ble_eq_true rfl, Nat.le_of_ble_eq_true rfl⟩) hK (hP.sub [] rfl) hE rfl hl.1 rfl (Nat.le_of_ble_eq_true rfl) d_LD_allowed_10 (Nat.le_of_ble_eq_true rfl) (Nat.le_of_ble_eq_true rfl) hno hlocks
  · have v := v.2 c2
    subst v
    exact nv_thS (wc := []) (As := [.int (iI c_), .int (iI 6)]) (rest := []) ⟨hx, hb, hml, hown, hts⟩ (t_LD_checkIndex l D cI cJ cO cZ qd mi Z hZ hfl c_ 6 "java/lang/IndexOutOfBoundsException" (f_LD_checkIndex k1 (by decide) c2)) (nv_cwS (rm := { frames := 6, cells := 1, slots := 6, locals := 90 }) (n := 2) hts wd_195 wd_196 wd_1 wd_197 (by decide +kernel) ⟨Nat.le_of_ble_eq_true rfl, Nat.le_of_ble_eq_true rfl⟩) hK (hP.sub [] rfl) hE rfl hl.1 rfl (Nat.le_of_ble_eq_true rfl) d_LD_allowed_3 (Nat.le_of_ble_eq_true rfl) (Nat.le_of_ble_eq_true rfl) hno hlocks

theorem d_LD_lamp_0 : decode prog_1_method_4_code 0 = .ok (.aload_n 0, 1) := by decide +kernel
theorem d_LD_lamp_1 : decode prog_1_method_4_code 1 = .ok (.getfield 16, 3) := by decide +kernel
theorem d_LD_lamp_4 : decode prog_1_method_4_code 4 = .ok (.invokevirtual 69, 3) := by decide +kernel
theorem d_LD_lamp_7 : decode prog_1_method_4_code 7 = .ok (.bipush 8, 2) := by decide +kernel
theorem d_LD_lamp_9 : decode prog_1_method_4_code 9 = .ok (.if_icmp .lt 13, 3) := by decide +kernel
theorem d_LD_lamp_12 : decode prog_1_method_4_code 12 = .ok (.new 73, 3) := by decide +kernel
theorem d_LD_lamp_15 : decode prog_1_method_4_code 15 = .ok (.dup, 1) := by decide +kernel
theorem d_LD_lamp_16 : decode prog_1_method_4_code 16 = .ok (.ldc 94, 2) := by decide +kernel
theorem d_LD_lamp_18 : decode prog_1_method_4_code 18 = .ok (.invokespecial 77, 3) := by decide +kernel
theorem d_LD_lamp_21 : decode prog_1_method_4_code 21 = .ok (.athrow, 1) := by decide +kernel
theorem d_LD_lamp_22 : decode prog_1_method_4_code 22 = .ok (.iload_n 1, 1) := by decide +kernel
theorem d_LD_lamp_23 : decode prog_1_method_4_code 23 = .ok (.iconst 0, 1) := by decide +kernel
theorem d_LD_lamp_24 : decode prog_1_method_4_code 24 = .ok (.sipush 5000, 3) := by decide +kernel
theorem d_LD_lamp_27 : decode prog_1_method_4_code 27 = .ok (.invokestatic 90, 3) := by decide +kernel
theorem d_LD_lamp_30 : decode prog_1_method_4_code 30 = .ok (.aload_n 0, 1) := by decide +kernel
theorem d_LD_lamp_31 : decode prog_1_method_4_code 31 = .ok (.getfield 16, 3) := by decide +kernel
theorem d_LD_lamp_34 : decode prog_1_method_4_code 34 = .ok (.new 96, 3) := by decide +kernel
theorem d_LD_lamp_37 : decode prog_1_method_4_code 37 = .ok (.dup, 1) := by decide +kernel
theorem d_LD_lamp_38 : decode prog_1_method_4_code 38 = .ok (.iload_n 1, 1) := by decide +kernel
theorem d_LD_lamp_39 : decode prog_1_method_4_code 39 = .ok (.invokespecial 98, 3) := by decide +kernel
theorem d_LD_lamp_42 : decode prog_1_method_4_code 42 = .ok (.invokevirtual 85, 3) := by decide +kernel
theorem d_LD_lamp_45 : decode prog_1_method_4_code 45 = .ok (.pop, 1) := by decide +kernel
theorem d_LD_lamp_46 : decode prog_1_method_4_code 46 = .ok (.aload_n 0, 1) := by decide +kernel
theorem d_LD_lamp_47 : decode prog_1_method_4_code 47 = .ok (.iconst 0, 1) := by decide +kernel
theorem d_LD_lamp_48 : decode prog_1_method_4_code 48 = .ok (.putfield 57, 3) := by decide +kernel
theorem d_LD_lamp_51 : decode prog_1_method_4_code 51 = .ok (.aload_n 0, 1) := by decide +kernel
theorem d_LD_lamp_52 : decode prog_1_method_4_code 52 = .ok (.getfield 16, 3) := by decide +kernel
theorem d_LD_lamp_55 : decode prog_1_method_4_code 55 = .ok (.invokevirtual 69, 3) := by decide +kernel
theorem d_LD_lamp_58 : decode prog_1_method_4_code 58 = .ok (.iconst 1, 1) := by decide +kernel
theorem d_LD_lamp_59 : decode prog_1_method_4_code 59 = .ok (.isub, 1) := by decide +kernel
theorem d_LD_lamp_60 : decode prog_1_method_4_code 60 = .ok (.ireturn, 1) := by decide +kernel
def vt_LD_lamp (fr : Int) (po : Int) (nl : Nat) (ym : Int) (lx : Int) (X : String) : Prop := (r32 (nl : Int)) ∧ (((nl : Int) < 8 → (r32 lx) ∧ (((0 ≤ lx ∧ lx ≤ 5000) → False) ∧ (¬ (0 ≤ lx ∧ lx ≤ 5000) → X = "java/lang/IllegalArgumentException"))) ∧ (8 ≤ (nl : Int) → X = "java/lang/IllegalStateException"))
set_option maxHeartbeats 4000000 in
set_option maxRecDepth 100000 in
theorem t_LD_lamp (l : Launch) (D : va_G) (cI cJ cO cZ : ClassId) (qd mi : Nat) (Z : State) (hZ : EvZ qd mi Z) (hfl : ∀ e : Env, l.admits e → e.platform.stackTraces = false) (h0 x1 y1 al dy fl br bk y2 : Nat) (fr : Int) (po : Int) (nl : Nat) (ym : Int) (lx : Int) (X : String) (v : vt_LD_lamp fr po nl ym lx X) : MetT l ⟨"LightDoses", "lamp", "(I)I"⟩ (.code ⟨"LightDoses", "lamp", "(I)I"⟩ prog_1_method_4_code 2 (some .int) :: TG) { frames := 7, cells := 1, slots := 6, locals := 112 } (va_Pc [.ref h0, .int (iI lx)] (fun U => va_K D vwCl (tyx cI cJ cO cZ) U ∧ va_P D vwCl [(h0, .inr (7, [.ref x1, .ref y1, .ref al, .ref dy, .ref fl, .ref br, .ref bk, .int (iI fr), .int (iI po)])), (y1, .inr (9, [.ref y2, .int (iI (nl : Int)), .int (iI ym)]))] U.heap ∧ Ev Z U)) (th_X X) 1 6 (fun _ => False) := by
  refine MetT.ofW (cc := prog_1_method_4_code) (maxL := 2) (ret := (some .int)) (by decide) rfl ?_
  intro p e s m args below meth c s₁ B hml hv
  obtain ⟨rfl, hK, hP, hE⟩ := hv
  have hx := B.exec
  have hb := B.bytes
  have hr := B.returns
  have hts0 := atoms_spec (ws := (.code ⟨"LightDoses", "lamp", "(I)I"⟩ prog_1_method_4_code 2 (some .int) :: TG)) B.pre
  have hts : ∀ w ∈ TG, w.before _ s = true := fun w h => hts0 w (List.mem_cons_of_mem _ h)
  have hown : s.vm.findClass "LightDoses" = some m.cls := findClass_of_methodNamed B.named
  have hlocks := B.notSynchronized
  have hno := nv_noTable B hts0
  have hP : va_P D vwCl [(h0, .inr (7, [.ref x1, .ref y1, .ref al, .ref dy, .ref fl, .ref br, .ref bk, .int (iI fr), .int (iI po)])), (y1, .inr (9, [.ref y2, .int (iI (nl : Int)), .int (iI ym)]))] s.heap := hP
  have hl := lv_entry ([Value.ref h0, Value.int (iI lx)]) (n := 2) (Nat.le_of_ble_eq_true rfl)
  rw [lg_entry_eq]
  generalize (lg_sl ([Value.ref h0, Value.int (iI lx)]) ++ List.replicate (2 - (lg_sl ([Value.ref h0, Value.int (iI lx)])).length) Slot.unset).toArray = ls at hl ⊢
  have hl : lv_has ls 2 [(0, .ref h0), (1, .int (iI lx))] := hl
  unfold vt_LD_lamp at v
  refine lv_aload_n hx hb d_LD_lamp_0 rfl (lv_at hl 0 rfl) ?_
  refine va_get (D := D) (ci := 7) (v := .ref y1) (C := "LightDoses") (T := T_LD) (N := 9) hx hb hts in_LD hown hK hP 0 rfl rfl 1 (by decide) (hts _ wd_140) (fun _ h9 => h9) rfl d_LD_lamp_1 ?_
  refine vp_callSi (nv_runV (wc := [(y1, .inr (9, [.ref y2, .int (iI (nl : Int)), .int (iI ym)]))]) (As := []) (rest := []) ⟨hx, hb, hml, hown, hts⟩ (m_AL_size l D cI cJ cO cZ y1 y2 (nl : Int) ym (fun z => z = (nl : Int)) (by unfold vc_AL_size; rfl)) (nv_cwV (n := 0) hts wd_179 wd_180 wd_181 wd_4 wd_182 (by decide +kernel) ⟨Nat.le_of_ble_eq_true rfl, Nat.le_of_ble_eq_true rfl⟩) hK (hP.sub [1] rfl) (va_recv hK hP (ci := 9) (q0 := 1) rfl rfl) rfl hl.1 rfl (Nat.le_of_ble_eq_true rfl) d_LD_lamp_4 (Nat.le_of_ble_eq_true rfl) (Nat.le_of_ble_eq_true rfl)) (fun r9 hr9 => ?_)
  obtain ⟨_, rfl, rfl⟩ := hr9
  refine nv_bipush (z := 8) hx hb d_LD_lamp_7 (by decide) ?_
  obtain ⟨k1, v⟩ := v
  refine nv_icmp_lt (tgt := 22) hx hb d_LD_lamp_9 (by decide) k1 (by decide) (fun c2 => ?_) (fun c2 => ?_)
  · replace v := v.1 c2
    refine lv_iload_n hx hb d_LD_lamp_22 rfl (lv_at hl 1 rfl) ?_
    refine nv_iconst (n := 0) hx hb d_LD_lamp_23 ?_
    refine nv_sipush (z := 5000) hx hb d_LD_lamp_24 (by decide) ?_
    obtain ⟨k3, v⟩ := v
    by_cases c4 : 0 ≤ lx ∧ lx ≤ 5000
    · replace v := v.1 c4
      refine nv_callSv (nv_runS (wc := []) (As := [.int (iI lx), .int (iI 0), .int (iI 5000)]) (rest := []) ⟨hx, hb, hml, hown, hts⟩ (m_LD_checkArgument l D cI cJ cO cZ lx 0 5000 (s_LD_checkArgument k3 (by decide) (by decide) c4)) (nv_cwS (n := 3) hts wd_440 wd_441 wd_1 wd_442 (by decide +kernel) ⟨Nat.le_of_ble_eq_true rfl, Nat.le_of_ble_eq_true rfl⟩) hK (hP.sub [] rfl) rfl hl.1 rfl (Nat.le_of_ble_eq_true rfl) d_LD_lamp_27 (Nat.le_of_ble_eq_true rfl) (Nat.le_of_ble_eq_true rfl)) ?_
      exact v.elim
    · have v := v.2 c4
      subst v
      exact nv_thS (wc := []) (As := [.int (iI lx), .int (iI 0), .int (iI 5000)]) (rest := []) ⟨hx, hb, hml, hown, hts⟩ (t_LD_checkArgument l D cI cJ cO cZ qd mi Z hZ hfl lx 0 5000 "java/lang/IllegalArgumentException" (f_LD_checkArgument k3 (by decide) (by decide) c4)) (nv_cwS (rm := { frames := 6, cells := 1, slots := 6, locals := 90 }) (n := 3) hts wd_440 wd_441 wd_1 wd_442 (by decide +kernel) ⟨Nat.le_of_ble_eq_true rfl, Nat.le_of_ble_eq_true rfl⟩) hK (hP.sub [] rfl) hE rfl hl.1 rfl (Nat.le_of_ble_eq_true rfl) d_LD_lamp_27 (Nat.le_of_ble_eq_true rfl) (Nat.le_of_ble_eq_true rfl) hno hlocks
  · replace v := v.2 c2
    subst v
    exact nv_throw (tx := "there are eight lamps") hx hb (hfl _ B.admits) (hml.trans hl.1.symm) hZ hE hts hown (by decide +kernel) th_atS wd_333 wd_15 (by decide +kernel) hno hlocks (Nat.le_of_ble_eq_true rfl) (Nat.le_of_ble_eq_true rfl) (Nat.le_of_ble_eq_true rfl) (Nat.le_of_ble_eq_true rfl) d_LD_lamp_12 d_LD_lamp_15 d_LD_lamp_16 d_LD_lamp_18 d_LD_lamp_21

theorem d_LD_shines_0 : decode prog_1_method_5_code 0 = .ok (.iload_n 1, 1) := by decide +kernel
theorem d_LD_shines_1 : decode prog_1_method_5_code 1 = .ok (.aload_n 0, 1) := by decide +kernel
theorem d_LD_shines_2 : decode prog_1_method_5_code 2 = .ok (.getfield 16, 3) := by decide +kernel
theorem d_LD_shines_5 : decode prog_1_method_5_code 5 = .ok (.invokevirtual 69, 3) := by decide +kernel
theorem d_LD_shines_8 : decode prog_1_method_5_code 8 = .ok (.invokestatic 65, 3) := by decide +kernel
theorem d_LD_shines_11 : decode prog_1_method_5_code 11 = .ok (.aload_n 0, 1) := by decide +kernel
theorem d_LD_shines_12 : decode prog_1_method_5_code 12 = .ok (.iload_n 2, 1) := by decide +kernel
theorem d_LD_shines_13 : decode prog_1_method_5_code 13 = .ok (.invokevirtual 99, 3) := by decide +kernel
theorem d_LD_shines_16 : decode prog_1_method_5_code 16 = .ok (.astore 4, 2) := by decide +kernel
theorem d_LD_shines_18 : decode prog_1_method_5_code 18 = .ok (.iload_n 3, 1) := by decide +kernel
theorem d_LD_shines_19 : decode prog_1_method_5_code 19 = .ok (.iconst 0, 1) := by decide +kernel
theorem d_LD_shines_20 : decode prog_1_method_5_code 20 = .ok (.sipush 1000, 3) := by decide +kernel
theorem d_LD_shines_23 : decode prog_1_method_5_code 23 = .ok (.invokestatic 90, 3) := by decide +kernel
theorem d_LD_shines_26 : decode prog_1_method_5_code 26 = .ok (.aload 4, 2) := by decide +kernel
theorem d_LD_shines_28 : decode prog_1_method_5_code 28 = .ok (.getfield 103, 3) := by decide +kernel
theorem d_LD_shines_31 : decode prog_1_method_5_code 31 = .ok (.iload_n 1, 1) := by decide +kernel
theorem d_LD_shines_32 : decode prog_1_method_5_code 32 = .ok (.iaload, 1) := by decide +kernel
theorem d_LD_shines_33 : decode prog_1_method_5_code 33 = .ok (.istore 5, 2) := by decide +kernel
theorem d_LD_shines_35 : decode prog_1_method_5_code 35 = .ok (.aload 4, 2) := by decide +kernel
theorem d_LD_shines_37 : decode prog_1_method_5_code 37 = .ok (.getfield 103, 3) := by decide +kernel
theorem d_LD_shines_40 : decode prog_1_method_5_code 40 = .ok (.iload_n 1, 1) := by decide +kernel
theorem d_LD_shines_41 : decode prog_1_method_5_code 41 = .ok (.iload_n 3, 1) := by decide +kernel
theorem d_LD_shines_42 : decode prog_1_method_5_code 42 = .ok (.iastore, 1) := by decide +kernel
theorem d_LD_shines_43 : decode prog_1_method_5_code 43 = .ok (.aload_n 0, 1) := by decide +kernel
theorem d_LD_shines_44 : decode prog_1_method_5_code 44 = .ok (.iconst 0, 1) := by decide +kernel
theorem d_LD_shines_45 : decode prog_1_method_5_code 45 = .ok (.putfield 57, 3) := by decide +kernel
theorem d_LD_shines_48 : decode prog_1_method_5_code 48 = .ok (.iload 5, 2) := by decide +kernel
theorem d_LD_shines_50 : decode prog_1_method_5_code 50 = .ok (.ireturn, 1) := by decide +kernel
def vt_LD_shines (fr : Int) (po : Int) (no : Nat) (xm : Int) (nl : Nat) (ym : Int) (lp : Int) (ob : Int) (sh : Int) (X : String) : Prop := (r32 lp) ∧ ((r32 (nl : Int)) ∧ (((0 ≤ lp ∧ lp < (nl : Int)) → (r32 ob) ∧ ((r32 (no : Int)) ∧ (((0 ≤ ob ∧ ob < (no : Int)) → False) ∧ (¬ (0 ≤ ob ∧ ob < (no : Int)) → X = "java/lang/IndexOutOfBoundsException")))) ∧ (¬ (0 ≤ lp ∧ lp < (nl : Int)) → X = "java/lang/IndexOutOfBoundsException")))
set_option maxHeartbeats 4000000 in
set_option maxRecDepth 100000 in
theorem t_LD_shines (l : Launch) (D : va_G) (cI cJ cO cZ : ClassId) (qd mi : Nat) (Z : State) (hZ : EvZ qd mi Z) (hfl : ∀ e : Env, l.admits e → e.platform.stackTraces = false) (h0 x1 y1 al dy fl br bk x2 y2 : Nat) (fr : Int) (po : Int) (no : Nat) (xm : Int) (nl : Nat) (ym : Int) (lp : Int) (ob : Int) (sh : Int) (X : String) (v : vt_LD_shines fr po no xm nl ym lp ob sh X) : MetT l ⟨"LightDoses", "shines", "(III)I"⟩ (.code ⟨"LightDoses", "shines", "(III)I"⟩ prog_1_method_5_code 6 (some .int) :: TG) { frames := 8, cells := 1, slots := 6, locals := 132 } (va_Pc [.ref h0, .int (iI lp), .int (iI ob), .int (iI sh)] (fun U => va_K D vwCl (tyx cI cJ cO cZ) U ∧ va_P D vwCl [(h0, .inr (7, [.ref x1, .ref y1, .ref al, .ref dy, .ref fl, .ref br, .ref bk, .int (iI fr), .int (iI po)])), (x1, .inr (9, [.ref x2, .int (iI (no : Int)), .int (iI xm)])), (y1, .inr (9, [.ref y2, .int (iI (nl : Int)), .int (iI ym)]))] U.heap ∧ Ev Z U)) (th_X X) 1 6 (fun _ => False) := by
  refine MetT.ofW (cc := prog_1_method_5_code) (maxL := 6) (ret := (some .int)) (by decide) rfl ?_
  intro p e s m args below meth c s₁ B hml hv
  obtain ⟨rfl, hK, hP, hE⟩ := hv
  have hx := B.exec
  have hb := B.bytes
  have hr := B.returns
  have hts0 := atoms_spec (ws := (.code ⟨"LightDoses", "shines", "(III)I"⟩ prog_1_method_5_code 6 (some .int) :: TG)) B.pre
  have hts : ∀ w ∈ TG, w.before _ s = true := fun w h => hts0 w (List.mem_cons_of_mem _ h)
  have hown : s.vm.findClass "LightDoses" = some m.cls := findClass_of_methodNamed B.named
  have hlocks := B.notSynchronized
  have hno := nv_noTable B hts0
  have hP : va_P D vwCl [(h0, .inr (7, [.ref x1, .ref y1, .ref al, .ref dy, .ref fl, .ref br, .ref bk, .int (iI fr), .int (iI po)])), (x1, .inr (9, [.ref x2, .int (iI (no : Int)), .int (iI xm)])), (y1, .inr (9, [.ref y2, .int (iI (nl : Int)), .int (iI ym)]))] s.heap := hP
  have hl := lv_entry ([Value.ref h0, Value.int (iI lp), Value.int (iI ob), Value.int (iI sh)]) (n := 6) (Nat.le_of_ble_eq_true rfl)
  rw [lg_entry_eq]
  generalize (lg_sl ([Value.ref h0, Value.int (iI lp), Value.int (iI ob), Value.int (iI sh)]) ++ List.replicate (6 - (lg_sl ([Value.ref h0, Value.int (iI lp), Value.int (iI ob), Value.int (iI sh)])).length) Slot.unset).toArray = ls at hl ⊢
  have hl : lv_has ls 6 [(0, .ref h0), (1, .int (iI lp)), (2, .int (iI ob)), (3, .int (iI sh))] := hl
  unfold vt_LD_shines at v
  refine lv_iload_n hx hb d_LD_shines_0 rfl (lv_at hl 1 rfl) ?_
  refine lv_aload_n hx hb d_LD_shines_1 rfl (lv_at hl 0 rfl) ?_
  refine va_get (D := D) (ci := 7) (v := .ref y1) (C := "LightDoses") (T := T_LD) (N := 9) hx hb hts in_LD hown hK hP 0 rfl rfl 1 (by decide) (hts _ wd_140) (fun _ h9 => h9) rfl d_LD_shines_2 ?_
  refine vp_callSi (nv_runV (wc := [(y1, .inr (9, [.ref y2, .int (iI (nl : Int)), .int (iI ym)]))]) (As := []) (rest := [.int (iI lp)]) ⟨hx, hb, hml, hown, hts⟩ (m_AL_size l D cI cJ cO cZ y1 y2 (nl : Int) ym (fun z => z = (nl : Int)) (by unfold vc_AL_size; rfl)) (nv_cwV (n := 0) hts wd_179 wd_180 wd_181 wd_4 wd_182 (by decide +kernel) ⟨Nat.le_of_ble_eq_true rfl, Nat.le_of_ble_eq_true rfl⟩) hK (hP.sub [2] rfl) (va_recv hK hP (ci := 9) (q0 := 2) rfl rfl) rfl hl.1 rfl (Nat.le_of_ble_eq_true rfl) d_LD_shines_5 (Nat.le_of_ble_eq_true rfl) (Nat.le_of_ble_eq_true rfl)) (fun r9 hr9 => ?_)
  obtain ⟨_, rfl, rfl⟩ := hr9
  obtain ⟨k1, v⟩ := v
  obtain ⟨k2, v⟩ := v
  by_cases c3 : 0 ≤ lp ∧ lp < (nl : Int)
  · replace v := v.1 c3
    refine nv_callSv (nv_runS (wc := []) (As := [.int (iI lp), .int (iI (nl : Int))]) (rest := []) ⟨hx, hb, hml, hown, hts⟩ (m_LD_checkIndex l D cI cJ cO cZ lp (nl : Int) (s_LD_checkIndex k1 k2 c3)) (nv_cwS (n := 2) hts wd_195 wd_196 wd_1 wd_197 (by decide +kernel) ⟨Nat.le_of_ble_eq_true rfl, Nat.le_of_ble_eq_true rfl⟩) hK (hP.sub [] rfl) rfl hl.1 rfl (Nat.le_of_ble_eq_true rfl) d_LD_shines_8 (Nat.le_of_ble_eq_true rfl) (Nat.le_of_ble_eq_true rfl)) ?_
    refine lv_aload_n hx hb d_LD_shines_11 rfl (lv_at hl 0 rfl) ?_
    refine lv_iload_n hx hb d_LD_shines_12 rfl (lv_at hl 2 rfl) ?_
    obtain ⟨k5, v⟩ := v
    obtain ⟨k6, v⟩ := v
    by_cases c4 : 0 ≤ ob ∧ ob < (no : Int)
    · exact (v.1 c4).elim
    · have v := v.2 c4
      subst v
      exact nv_thV (wc := [(h0, .inr (7, [.ref x1, .ref y1, .ref al, .ref dy, .ref fl, .ref br, .ref bk, .int (iI fr), .int (iI po)])), (x1, .inr (9, [.ref x2, .int (iI (no : Int)), .int (iI xm)]))]) (As := [.int (iI ob)]) (rest := []) ⟨hx, hb, hml, hown, hts⟩ (t_LD_exhibitOf l D cI cJ cO cZ qd mi Z hZ hfl h0 x1 y1 al dy fl br bk x2 fr po no xm ob "java/lang/IndexOutOfBoundsException" (f_LD_exhibitOf k5 k6 c4)) (nv_cwV (rm := { frames := 7, cells := 1, slots := 6, locals := 111 }) (n := 1) hts wd_191 wd_193 sl_3 wd_1 wd_194 (by decide +kernel) ⟨Nat.le_of_ble_eq_true rfl, Nat.le_of_ble_eq_true rfl⟩) hK (hP.sub [0, 1] rfl) hE (va_recv hK hP (ci := 7) (q0 := 0) rfl rfl) rfl hl.1 rfl (Nat.le_of_ble_eq_true rfl) d_LD_shines_13 (Nat.le_of_ble_eq_true rfl) (Nat.le_of_ble_eq_true rfl) hno hlocks
  · have v := v.2 c3
    subst v
    exact nv_thS (wc := []) (As := [.int (iI lp), .int (iI (nl : Int))]) (rest := []) ⟨hx, hb, hml, hown, hts⟩ (t_LD_checkIndex l D cI cJ cO cZ qd mi Z hZ hfl lp (nl : Int) "java/lang/IndexOutOfBoundsException" (f_LD_checkIndex k1 k2 c3)) (nv_cwS (rm := { frames := 6, cells := 1, slots := 6, locals := 90 }) (n := 2) hts wd_195 wd_196 wd_1 wd_197 (by decide +kernel) ⟨Nat.le_of_ble_eq_true rfl, Nat.le_of_ble_eq_true rfl⟩) hK (hP.sub [] rfl) hE rfl hl.1 rfl (Nat.le_of_ble_eq_true rfl) d_LD_shines_8 (Nat.le_of_ble_eq_true rfl) (Nat.le_of_ble_eq_true rfl) hno hlocks

def vt_LD_shines2 (fr : Int) (po : Int) (no : Nat) (xm : Int) (xc : Nat) (xf : Nat → Option Nat) (kd : Int) (es : Nat → Int) (ef : Nat → Int) (et : Nat → Int) (en : Int) (nl : Nat) (ym : Int) (ob : Nat) (lp : Int) (sh : Int) (X : String) : Prop := (r32 lp) ∧ ((r32 (nl : Int)) ∧ (((0 ≤ lp ∧ lp < (nl : Int)) → (vc_LD_exhibitOf fr po no xm xc xf kd es ef et en ob) ∧ ((r32 sh) ∧ (((0 ≤ sh ∧ sh ≤ 1000) → False) ∧ (¬ (0 ≤ sh ∧ sh ≤ 1000) → X = "java/lang/IllegalArgumentException")))) ∧ (¬ (0 ≤ lp ∧ lp < (nl : Int)) → X = "java/lang/IndexOutOfBoundsException")))
set_option maxHeartbeats 4000000 in
set_option maxRecDepth 100000 in
theorem t_LD_shines2 (l : Launch) (D : va_G) (cI cJ cO cZ : ClassId) (qd mi : Nat) (Z : State) (hZ : EvZ qd mi Z) (hfl : ∀ e : Env, l.admits e → e.platform.stackTraces = false) (h0 x1 y1 al dy fl br bk x2 e0 e1 e2 e3 y2 : Nat) (fr : Int) (po : Int) (no : Nat) (xm : Int) (xc : Nat) (xf : Nat → Option Nat) (kd : Int) (es : Nat → Int) (ef : Nat → Int) (et : Nat → Int) (en : Int) (nl : Nat) (ym : Int) (ob : Nat) (lp : Int) (sh : Int) (hxf : xf ob = some e0) (hob : ob < no) (hxn : no ≤ xc) (hxc : xc < 1000000) (X : String) (v : vt_LD_shines2 fr po no xm xc xf kd es ef et en nl ym ob lp sh X) : MetT l ⟨"LightDoses", "shines", "(III)I"⟩ (.code ⟨"LightDoses", "shines", "(III)I"⟩ prog_1_method_5_code 6 (some .int) :: TG) { frames := 8, cells := 1, slots := 6, locals := 132 } (va_Pc [.ref h0, .int (iI lp), .int (iI (ob : Int)), .int (iI sh)] (fun U => va_K D vwCl (tyx cI cJ cO cZ) U ∧ va_P D vwCl [(h0, .inr (7, [.ref x1, .ref y1, .ref al, .ref dy, .ref fl, .ref br, .ref bk, .int (iI fr), .int (iI po)])), (x1, .inr (9, [.ref x2, .int (iI (no : Int)), .int (iI xm)])), (x2, .inl (cO, xc, .inr (.inr (.inr (.inr xf))))), (e0, .inr (4, [.int (iI kd), .ref e1, .ref e2, .ref e3, .int (iI en)])), (e1, .inl (cI, 8, .inl (fun k => iI (es k)))), (e2, .inl (cI, 16, .inl (fun k => iI (ef k)))), (e3, .inl (cI, 16, .inl (fun k => iI (et k)))), (y1, .inr (9, [.ref y2, .int (iI (nl : Int)), .int (iI ym)]))] U.heap ∧ Ev Z U)) (th_X X) 1 6 (fun _ => False) := by
  refine MetT.ofW (cc := prog_1_method_5_code) (maxL := 6) (ret := (some .int)) (by decide) rfl ?_
  intro p e s m args below meth c s₁ B hml hv
  obtain ⟨rfl, hK, hP, hE⟩ := hv
  have hx := B.exec
  have hb := B.bytes
  have hr := B.returns
  have hts0 := atoms_spec (ws := (.code ⟨"LightDoses", "shines", "(III)I"⟩ prog_1_method_5_code 6 (some .int) :: TG)) B.pre
  have hts : ∀ w ∈ TG, w.before _ s = true := fun w h => hts0 w (List.mem_cons_of_mem _ h)
  have hown : s.vm.findClass "LightDoses" = some m.cls := findClass_of_methodNamed B.named
  have hlocks := B.notSynchronized
  have hno := nv_noTable B hts0
  have hP : va_P D vwCl [(h0, .inr (7, [.ref x1, .ref y1, .ref al, .ref dy, .ref fl, .ref br, .ref bk, .int (iI fr), .int (iI po)])), (x1, .inr (9, [.ref x2, .int (iI (no : Int)), .int (iI xm)])), (x2, .inl (cO, xc, .inr (.inr (.inr (.inr xf))))), (e0, .inr (4, [.int (iI kd), .ref e1, .ref e2, .ref e3, .int (iI en)])), (e1, .inl (cI, 8, .inl (fun k => iI (es k)))), (e2, .inl (cI, 16, .inl (fun k => iI (ef k)))), (e3, .inl (cI, 16, .inl (fun k => iI (et k)))), (y1, .inr (9, [.ref y2, .int (iI (nl : Int)), .int (iI ym)]))] s.heap := hP
  have hl := lv_entry ([Value.ref h0, Value.int (iI lp), Value.int (iI (ob : Int)), Value.int (iI sh)]) (n := 6) (Nat.le_of_ble_eq_true rfl)
  rw [lg_entry_eq]
  generalize (lg_sl ([Value.ref h0, Value.int (iI lp), Value.int (iI (ob : Int)), Value.int (iI sh)]) ++ List.replicate (6 - (lg_sl ([Value.ref h0, Value.int (iI lp), Value.int (iI (ob : Int)), Value.int (iI sh)])).length) Slot.unset).toArray = ls at hl ⊢
  have hl : lv_has ls 6 [(0, .ref h0), (1, .int (iI lp)), (2, .int (iI (ob : Int))), (3, .int (iI sh))] := hl
  unfold vt_LD_shines2 at v
  refine lv_iload_n hx hb d_LD_shines_0 rfl (lv_at hl 1 rfl) ?_
  refine lv_aload_n hx hb d_LD_shines_1 rfl (lv_at hl 0 rfl) ?_
  refine va_get (D := D) (ci := 7) (v := .ref y1) (C := "LightDoses") (T := T_LD) (N := 9) hx hb hts in_LD hown hK hP 0 rfl rfl 1 (by decide) (hts _ wd_140) (fun _ h9 => h9) rfl d_LD_shines_2 ?_
  refine vp_callSi (nv_runV (wc := [(y1, .inr (9, [.ref y2, .int (iI (nl : Int)), .int (iI ym)]))]) (As := []) (rest := [.int (iI lp)]) ⟨hx, hb, hml, hown, hts⟩ (m_AL_size l D cI cJ cO cZ y1 y2 (nl : Int) ym (fun z => z = (nl : Int)) (by unfold vc_AL_size; rfl)) (nv_cwV (n := 0) hts wd_179 wd_180 wd_181 wd_4 wd_182 (by decide +kernel) ⟨Nat.le_of_ble_eq_true rfl, Nat.le_of_ble_eq_true rfl⟩) hK (hP.sub [7] rfl) (va_recv hK hP (ci := 9) (q0 := 7) rfl rfl) rfl hl.1 rfl (Nat.le_of_ble_eq_true rfl) d_LD_shines_5 (Nat.le_of_ble_eq_true rfl) (Nat.le_of_ble_eq_true rfl)) (fun r9 hr9 => ?_)
  obtain ⟨_, rfl, rfl⟩ := hr9
  obtain ⟨k1, v⟩ := v
  obtain ⟨k2, v⟩ := v
  by_cases c3 : 0 ≤ lp ∧ lp < (nl : Int)
  · replace v := v.1 c3
    refine nv_callSv (nv_runS (wc := []) (As := [.int (iI lp), .int (iI (nl : Int))]) (rest := []) ⟨hx, hb, hml, hown, hts⟩ (m_LD_checkIndex l D cI cJ cO cZ lp (nl : Int) (s_LD_checkIndex k1 k2 c3)) (nv_cwS (n := 2) hts wd_195 wd_196 wd_1 wd_197 (by decide +kernel) ⟨Nat.le_of_ble_eq_true rfl, Nat.le_of_ble_eq_true rfl⟩) hK (hP.sub [] rfl) rfl hl.1 rfl (Nat.le_of_ble_eq_true rfl) d_LD_shines_8 (Nat.le_of_ble_eq_true rfl) (Nat.le_of_ble_eq_true rfl)) ?_
    refine lv_aload_n hx hb d_LD_shines_11 rfl (lv_at hl 0 rfl) ?_
    refine lv_iload_n hx hb d_LD_shines_12 rfl (lv_at hl 2 rfl) ?_
    obtain ⟨q4, v⟩ := v
    refine va_csr (nv_runV (wc := [(h0, .inr (7, [.ref x1, .ref y1, .ref al, .ref dy, .ref fl, .ref br, .ref bk, .int (iI fr), .int (iI po)])), (x1, .inr (9, [.ref x2, .int (iI (no : Int)), .int (iI xm)])), (x2, .inl (cO, xc, .inr (.inr (.inr (.inr xf))))), (e0, .inr (4, [.int (iI kd), .ref e1, .ref e2, .ref e3, .int (iI en)])), (e1, .inl (cI, 8, .inl (fun k => iI (es k)))), (e2, .inl (cI, 16, .inl (fun k => iI (ef k)))), (e3, .inl (cI, 16, .inl (fun k => iI (et k))))]) (As := [.int (iI (ob : Int))]) (rest := []) ⟨hx, hb, hml, hown, hts⟩ (m_LD_exhibitOf l D cI cJ cO cZ h0 x1 y1 al dy fl br bk x2 e0 e1 e2 e3 fr po no xm xc xf kd es ef et en ob hxf hob hxn hxc q4) (nv_cwV (n := 1) hts wd_191 wd_193 sl_3 wd_1 wd_194 (by decide +kernel) ⟨Nat.le_of_ble_eq_true rfl, Nat.le_of_ble_eq_true rfl⟩) hK (hP.sub [0, 1, 2, 3, 4, 5, 6] rfl) (va_recv hK hP (ci := 7) (q0 := 0) rfl rfl) rfl hl.1 rfl (Nat.le_of_ble_eq_true rfl) d_LD_shines_13 (Nat.le_of_ble_eq_true rfl) (Nat.le_of_ble_eq_true rfl)) (fun r9 hr9 => ?_)
    have hr9 : r9 = e0 := hr9
    rw [hr9]
    refine lv_astore (lv' := [(4, .ref e0), (0, .ref h0), (1, .int (iI lp)), (2, .int (iI (ob : Int))), (3, .int (iI sh))]) hx hb d_LD_shines_16 hl (by decide) rfl (fun ls hl => ?_)
    refine lv_iload_n hx hb d_LD_shines_18 rfl (lv_at hl 4 rfl) ?_
    refine nv_iconst (n := 0) hx hb d_LD_shines_19 ?_
    refine nv_sipush (z := 1000) hx hb d_LD_shines_20 (by decide) ?_
    obtain ⟨k5, v⟩ := v
    by_cases c6 : 0 ≤ sh ∧ sh ≤ 1000
    · replace v := v.1 c6
      refine nv_callSv (nv_runS (wc := []) (As := [.int (iI sh), .int (iI 0), .int (iI 1000)]) (rest := []) ⟨hx, hb, hml, hown, hts⟩ (m_LD_checkArgument l D cI cJ cO cZ sh 0 1000 (s_LD_checkArgument k5 (by decide) (by decide) c6)) (nv_cwS (n := 3) hts wd_440 wd_441 wd_1 wd_442 (by decide +kernel) ⟨Nat.le_of_ble_eq_true rfl, Nat.le_of_ble_eq_true rfl⟩) hK (hP.sub [] rfl) rfl hl.1 rfl (Nat.le_of_ble_eq_true rfl) d_LD_shines_23 (Nat.le_of_ble_eq_true rfl) (Nat.le_of_ble_eq_true rfl)) ?_
      exact v.elim
    · have v := v.2 c6
      subst v
      exact nv_thS (wc := []) (As := [.int (iI sh), .int (iI 0), .int (iI 1000)]) (rest := []) ⟨hx, hb, hml, hown, hts⟩ (t_LD_checkArgument l D cI cJ cO cZ qd mi Z hZ hfl sh 0 1000 "java/lang/IllegalArgumentException" (f_LD_checkArgument k5 (by decide) (by decide) c6)) (nv_cwS (rm := { frames := 6, cells := 1, slots := 6, locals := 90 }) (n := 3) hts wd_440 wd_441 wd_1 wd_442 (by decide +kernel) ⟨Nat.le_of_ble_eq_true rfl, Nat.le_of_ble_eq_true rfl⟩) hK (hP.sub [] rfl) hE rfl hl.1 rfl (Nat.le_of_ble_eq_true rfl) d_LD_shines_23 (Nat.le_of_ble_eq_true rfl) (Nat.le_of_ble_eq_true rfl) hno hlocks
  · have v := v.2 c3
    subst v
    exact nv_thS (wc := []) (As := [.int (iI lp), .int (iI (nl : Int))]) (rest := []) ⟨hx, hb, hml, hown, hts⟩ (t_LD_checkIndex l D cI cJ cO cZ qd mi Z hZ hfl lp (nl : Int) "java/lang/IndexOutOfBoundsException" (f_LD_checkIndex k1 k2 c3)) (nv_cwS (rm := { frames := 6, cells := 1, slots := 6, locals := 90 }) (n := 2) hts wd_195 wd_196 wd_1 wd_197 (by decide +kernel) ⟨Nat.le_of_ble_eq_true rfl, Nat.le_of_ble_eq_true rfl⟩) hK (hP.sub [] rfl) hE rfl hl.1 rfl (Nat.le_of_ble_eq_true rfl) d_LD_shines_8 (Nat.le_of_ble_eq_true rfl) (Nat.le_of_ble_eq_true rfl) hno hlocks

theorem d_LD_daylight_0 : decode prog_1_method_6_code 0 = .ok (.iload_n 1, 1) := by decide +kernel
theorem d_LD_daylight_1 : decode prog_1_method_6_code 1 = .ok (.bipush 24, 2) := by decide +kernel
theorem d_LD_daylight_3 : decode prog_1_method_6_code 3 = .ok (.invokestatic 65, 3) := by decide +kernel
theorem d_LD_daylight_6 : decode prog_1_method_6_code 6 = .ok (.iload_n 2, 1) := by decide +kernel
theorem d_LD_daylight_7 : decode prog_1_method_6_code 7 = .ok (.iconst 0, 1) := by decide +kernel
theorem d_LD_daylight_8 : decode prog_1_method_6_code 8 = .ok (.sipush 5000, 3) := by decide +kernel
theorem d_LD_daylight_11 : decode prog_1_method_6_code 11 = .ok (.invokestatic 90, 3) := by decide +kernel
theorem d_LD_daylight_14 : decode prog_1_method_6_code 14 = .ok (.aload_n 0, 1) := by decide +kernel
theorem d_LD_daylight_15 : decode prog_1_method_6_code 15 = .ok (.getfield 32, 3) := by decide +kernel
theorem d_LD_daylight_18 : decode prog_1_method_6_code 18 = .ok (.getfield 106, 3) := by decide +kernel
theorem d_LD_daylight_21 : decode prog_1_method_6_code 21 = .ok (.iload_n 1, 1) := by decide +kernel
theorem d_LD_daylight_22 : decode prog_1_method_6_code 22 = .ok (.iaload, 1) := by decide +kernel
theorem d_LD_daylight_23 : decode prog_1_method_6_code 23 = .ok (.istore_n 3, 1) := by decide +kernel
theorem d_LD_daylight_24 : decode prog_1_method_6_code 24 = .ok (.aload_n 0, 1) := by decide +kernel
theorem d_LD_daylight_25 : decode prog_1_method_6_code 25 = .ok (.getfield 32, 3) := by decide +kernel
theorem d_LD_daylight_28 : decode prog_1_method_6_code 28 = .ok (.iload_n 1, 1) := by decide +kernel
theorem d_LD_daylight_29 : decode prog_1_method_6_code 29 = .ok (.iload_n 2, 1) := by decide +kernel
theorem d_LD_daylight_30 : decode prog_1_method_6_code 30 = .ok (.invokevirtual 109, 3) := by decide +kernel
theorem d_LD_daylight_33 : decode prog_1_method_6_code 33 = .ok (.aload_n 0, 1) := by decide +kernel
theorem d_LD_daylight_34 : decode prog_1_method_6_code 34 = .ok (.iconst 0, 1) := by decide +kernel
theorem d_LD_daylight_35 : decode prog_1_method_6_code 35 = .ok (.putfield 57, 3) := by decide +kernel
theorem d_LD_daylight_38 : decode prog_1_method_6_code 38 = .ok (.iload_n 3, 1) := by decide +kernel
theorem d_LD_daylight_39 : decode prog_1_method_6_code 39 = .ok (.ireturn, 1) := by decide +kernel
def vt_LD_daylight (fr : Int) (po : Int) (tm : Int) (lx : Int) (X : String) : Prop := (r32 tm) ∧ (((0 ≤ tm ∧ tm < 24) → (r32 lx) ∧ (((0 ≤ lx ∧ lx ≤ 5000) → False) ∧ (¬ (0 ≤ lx ∧ lx ≤ 5000) → X = "java/lang/IllegalArgumentException"))) ∧ (¬ (0 ≤ tm ∧ tm < 24) → X = "java/lang/IndexOutOfBoundsException"))
set_option maxHeartbeats 4000000 in
set_option maxRecDepth 100000 in
theorem t_LD_daylight (l : Launch) (D : va_G) (cI cJ cO cZ : ClassId) (qd mi : Nat) (Z : State) (hZ : EvZ qd mi Z) (hfl : ∀ e : Env, l.admits e → e.platform.stackTraces = false) (h0 x1 y1 al dy fl br bk : Nat) (fr : Int) (po : Int) (tm : Int) (lx : Int) (X : String) (v : vt_LD_daylight fr po tm lx X) : MetT l ⟨"LightDoses", "daylight", "(II)I"⟩ (.code ⟨"LightDoses", "daylight", "(II)I"⟩ prog_1_method_6_code 4 (some .int) :: TG) { frames := 7, cells := 1, slots := 6, locals := 112 } (va_Pc [.ref h0, .int (iI tm), .int (iI lx)] (fun U => va_K D vwCl (tyx cI cJ cO cZ) U ∧ va_P D vwCl [(h0, .inr (7, [.ref x1, .ref y1, .ref al, .ref dy, .ref fl, .ref br, .ref bk, .int (iI fr), .int (iI po)]))] U.heap ∧ Ev Z U)) (th_X X) 1 6 (fun _ => False) := by
  refine MetT.ofW (cc := prog_1_method_6_code) (maxL := 4) (ret := (some .int)) (by decide) rfl ?_
  intro p e s m args below meth c s₁ B hml hv
  obtain ⟨rfl, hK, hP, hE⟩ := hv
  have hx := B.exec
  have hb := B.bytes
  have hr := B.returns
  have hts0 := atoms_spec (ws := (.code ⟨"LightDoses", "daylight", "(II)I"⟩ prog_1_method_6_code 4 (some .int) :: TG)) B.pre
  have hts : ∀ w ∈ TG, w.before _ s = true := fun w h => hts0 w (List.mem_cons_of_mem _ h)
  have hown : s.vm.findClass "LightDoses" = some m.cls := findClass_of_methodNamed B.named
  have hlocks := B.notSynchronized
  have hno := nv_noTable B hts0
  have hP : va_P D vwCl [(h0, .inr (7, [.ref x1, .ref y1, .ref al, .ref dy, .ref fl, .ref br, .ref bk, .int (iI fr), .int (iI po)]))] s.heap := hP
  have hl := lv_entry ([Value.ref h0, Value.int (iI tm), Value.int (iI lx)]) (n := 4) (Nat.le_of_ble_eq_true rfl)
  rw [lg_entry_eq]
  generalize (lg_sl ([Value.ref h0, Value.int (iI tm), Value.int (iI lx)]) ++ List.replicate (4 - (lg_sl ([Value.ref h0, Value.int (iI tm), Value.int (iI lx)])).length) Slot.unset).toArray = ls at hl ⊢
  have hl : lv_has ls 4 [(0, .ref h0), (1, .int (iI tm)), (2, .int (iI lx))] := hl
  unfold vt_LD_daylight at v
  refine lv_iload_n hx hb d_LD_daylight_0 rfl (lv_at hl 1 rfl) ?_
  refine nv_bipush (z := 24) hx hb d_LD_daylight_1 (by decide) ?_
  obtain ⟨k1, v⟩ := v
  by_cases c2 : 0 ≤ tm ∧ tm < 24
  · replace v := v.1 c2
    refine nv_callSv (nv_runS (wc := []) (As := [.int (iI tm), .int (iI 24)]) (rest := []) ⟨hx, hb, hml, hown, hts⟩ (m_LD_checkIndex l D cI cJ cO cZ tm 24 (s_LD_checkIndex k1 (by decide) c2)) (nv_cwS (n := 2) hts wd_195 wd_196 wd_1 wd_197 (by decide +kernel) ⟨Nat.le_of_ble_eq_true rfl, Nat.le_of_ble_eq_true rfl⟩) hK (hP.sub [] rfl) rfl hl.1 rfl (Nat.le_of_ble_eq_true rfl) d_LD_daylight_3 (Nat.le_of_ble_eq_true rfl) (Nat.le_of_ble_eq_true rfl)) ?_
    refine lv_iload_n hx hb d_LD_daylight_6 rfl (lv_at hl 2 rfl) ?_
    refine nv_iconst (n := 0) hx hb d_LD_daylight_7 ?_
    refine nv_sipush (z := 5000) hx hb d_LD_daylight_8 (by decide) ?_
    obtain ⟨k3, v⟩ := v
    by_cases c4 : 0 ≤ lx ∧ lx ≤ 5000
    · replace v := v.1 c4
      refine nv_callSv (nv_runS (wc := []) (As := [.int (iI lx), .int (iI 0), .int (iI 5000)]) (rest := []) ⟨hx, hb, hml, hown, hts⟩ (m_LD_checkArgument l D cI cJ cO cZ lx 0 5000 (s_LD_checkArgument k3 (by decide) (by decide) c4)) (nv_cwS (n := 3) hts wd_440 wd_441 wd_1 wd_442 (by decide +kernel) ⟨Nat.le_of_ble_eq_true rfl, Nat.le_of_ble_eq_true rfl⟩) hK (hP.sub [] rfl) rfl hl.1 rfl (Nat.le_of_ble_eq_true rfl) d_LD_daylight_11 (Nat.le_of_ble_eq_true rfl) (Nat.le_of_ble_eq_true rfl)) ?_
      exact v.elim
    · have v := v.2 c4
      subst v
      exact nv_thS (wc := []) (As := [.int (iI lx), .int (iI 0), .int (iI 5000)]) (rest := []) ⟨hx, hb, hml, hown, hts⟩ (t_LD_checkArgument l D cI cJ cO cZ qd mi Z hZ hfl lx 0 5000 "java/lang/IllegalArgumentException" (f_LD_checkArgument k3 (by decide) (by decide) c4)) (nv_cwS (rm := { frames := 6, cells := 1, slots := 6, locals := 90 }) (n := 3) hts wd_440 wd_441 wd_1 wd_442 (by decide +kernel) ⟨Nat.le_of_ble_eq_true rfl, Nat.le_of_ble_eq_true rfl⟩) hK (hP.sub [] rfl) hE rfl hl.1 rfl (Nat.le_of_ble_eq_true rfl) d_LD_daylight_11 (Nat.le_of_ble_eq_true rfl) (Nat.le_of_ble_eq_true rfl) hno hlocks
  · have v := v.2 c2
    subst v
    exact nv_thS (wc := []) (As := [.int (iI tm), .int (iI 24)]) (rest := []) ⟨hx, hb, hml, hown, hts⟩ (t_LD_checkIndex l D cI cJ cO cZ qd mi Z hZ hfl tm 24 "java/lang/IndexOutOfBoundsException" (f_LD_checkIndex k1 (by decide) c2)) (nv_cwS (rm := { frames := 6, cells := 1, slots := 6, locals := 90 }) (n := 2) hts wd_195 wd_196 wd_1 wd_197 (by decide +kernel) ⟨Nat.le_of_ble_eq_true rfl, Nat.le_of_ble_eq_true rfl⟩) hK (hP.sub [] rfl) hE rfl hl.1 rfl (Nat.le_of_ble_eq_true rfl) d_LD_daylight_3 (Nat.le_of_ble_eq_true rfl) (Nat.le_of_ble_eq_true rfl) hno hlocks

theorem d_LD_shown_0 : decode prog_1_method_7_code 0 = .ok (.aload_n 0, 1) := by decide +kernel
theorem d_LD_shown_1 : decode prog_1_method_7_code 1 = .ok (.iload_n 1, 1) := by decide +kernel
theorem d_LD_shown_2 : decode prog_1_method_7_code 2 = .ok (.invokevirtual 99, 3) := by decide +kernel
theorem d_LD_shown_5 : decode prog_1_method_7_code 5 = .ok (.astore 4, 2) := by decide +kernel
theorem d_LD_shown_7 : decode prog_1_method_7_code 7 = .ok (.iload_n 2, 1) := by decide +kernel
theorem d_LD_shown_8 : decode prog_1_method_7_code 8 = .ok (.sipush 26280, 3) := by decide +kernel
theorem d_LD_shown_11 : decode prog_1_method_7_code 11 = .ok (.invokestatic 65, 3) := by decide +kernel
theorem d_LD_shown_14 : decode prog_1_method_7_code 14 = .ok (.aload 4, 2) := by decide +kernel
theorem d_LD_shown_16 : decode prog_1_method_7_code 16 = .ok (.getfield 112, 3) := by decide +kernel
theorem d_LD_shown_19 : decode prog_1_method_7_code 19 = .ok (.bipush 16, 2) := by decide +kernel
theorem d_LD_shown_21 : decode prog_1_method_7_code 21 = .ok (.if_icmp .lt 13, 3) := by decide +kernel
theorem d_LD_shown_24 : decode prog_1_method_7_code 24 = .ok (.new 73, 3) := by decide +kernel
theorem d_LD_shown_27 : decode prog_1_method_7_code 27 = .ok (.dup, 1) := by decide +kernel
theorem d_LD_shown_28 : decode prog_1_method_7_code 28 = .ok (.ldc 115, 2) := by decide +kernel
theorem d_LD_shown_30 : decode prog_1_method_7_code 30 = .ok (.invokespecial 77, 3) := by decide +kernel
theorem d_LD_shown_33 : decode prog_1_method_7_code 33 = .ok (.athrow, 1) := by decide +kernel
theorem d_LD_shown_34 : decode prog_1_method_7_code 34 = .ok (.iload_n 2, 1) := by decide +kernel
theorem d_LD_shown_35 : decode prog_1_method_7_code 35 = .ok (.iload_n 3, 1) := by decide +kernel
theorem d_LD_shown_36 : decode prog_1_method_7_code 36 = .ok (.invokestatic 117, 3) := by decide +kernel
theorem d_LD_shown_39 : decode prog_1_method_7_code 39 = .ok (.aload 4, 2) := by decide +kernel
theorem d_LD_shown_41 : decode prog_1_method_7_code 41 = .ok (.iload_n 2, 1) := by decide +kernel
theorem d_LD_shown_42 : decode prog_1_method_7_code 42 = .ok (.iload_n 3, 1) := by decide +kernel
theorem d_LD_shown_43 : decode prog_1_method_7_code 43 = .ok (.invokevirtual 120, 3) := by decide +kernel
theorem d_LD_shown_46 : decode prog_1_method_7_code 46 = .ok (.aload_n 0, 1) := by decide +kernel
theorem d_LD_shown_47 : decode prog_1_method_7_code 47 = .ok (.iconst 0, 1) := by decide +kernel
theorem d_LD_shown_48 : decode prog_1_method_7_code 48 = .ok (.putfield 57, 3) := by decide +kernel
theorem d_LD_shown_51 : decode prog_1_method_7_code 51 = .ok (.aload 4, 2) := by decide +kernel
theorem d_LD_shown_53 : decode prog_1_method_7_code 53 = .ok (.getfield 112, 3) := by decide +kernel
theorem d_LD_shown_56 : decode prog_1_method_7_code 56 = .ok (.ireturn, 1) := by decide +kernel
def vt_LD_shown (fr : Int) (po : Int) (no : Nat) (xm : Int) (ob : Int) (from_ : Int) (to_ : Int) (X : String) : Prop := (r32 ob) ∧ ((r32 (no : Int)) ∧ (((0 ≤ ob ∧ ob < (no : Int)) → False) ∧ (¬ (0 ≤ ob ∧ ob < (no : Int)) → X = "java/lang/IndexOutOfBoundsException")))
set_option maxHeartbeats 4000000 in
set_option maxRecDepth 100000 in
theorem t_LD_shown (l : Launch) (D : va_G) (cI cJ cO cZ : ClassId) (qd mi : Nat) (Z : State) (hZ : EvZ qd mi Z) (hfl : ∀ e : Env, l.admits e → e.platform.stackTraces = false) (h0 x1 y1 al dy fl br bk x2 : Nat) (fr : Int) (po : Int) (no : Nat) (xm : Int) (ob : Int) (from_ : Int) (to_ : Int) (X : String) (v : vt_LD_shown fr po no xm ob from_ to_ X) : MetT l ⟨"LightDoses", "shown", "(III)I"⟩ (.code ⟨"LightDoses", "shown", "(III)I"⟩ prog_1_method_7_code 5 (some .int) :: TG) { frames := 8, cells := 1, slots := 6, locals := 132 } (va_Pc [.ref h0, .int (iI ob), .int (iI from_), .int (iI to_)] (fun U => va_K D vwCl (tyx cI cJ cO cZ) U ∧ va_P D vwCl [(h0, .inr (7, [.ref x1, .ref y1, .ref al, .ref dy, .ref fl, .ref br, .ref bk, .int (iI fr), .int (iI po)])), (x1, .inr (9, [.ref x2, .int (iI (no : Int)), .int (iI xm)]))] U.heap ∧ Ev Z U)) (th_X X) 1 6 (fun _ => False) := by
  refine MetT.ofW (cc := prog_1_method_7_code) (maxL := 5) (ret := (some .int)) (by decide) rfl ?_
  intro p e s m args below meth c s₁ B hml hv
  obtain ⟨rfl, hK, hP, hE⟩ := hv
  have hx := B.exec
  have hb := B.bytes
  have hr := B.returns
  have hts0 := atoms_spec (ws := (.code ⟨"LightDoses", "shown", "(III)I"⟩ prog_1_method_7_code 5 (some .int) :: TG)) B.pre
  have hts : ∀ w ∈ TG, w.before _ s = true := fun w h => hts0 w (List.mem_cons_of_mem _ h)
  have hown : s.vm.findClass "LightDoses" = some m.cls := findClass_of_methodNamed B.named
  have hlocks := B.notSynchronized
  have hno := nv_noTable B hts0
  have hP : va_P D vwCl [(h0, .inr (7, [.ref x1, .ref y1, .ref al, .ref dy, .ref fl, .ref br, .ref bk, .int (iI fr), .int (iI po)])), (x1, .inr (9, [.ref x2, .int (iI (no : Int)), .int (iI xm)]))] s.heap := hP
  have hl := lv_entry ([Value.ref h0, Value.int (iI ob), Value.int (iI from_), Value.int (iI to_)]) (n := 5) (Nat.le_of_ble_eq_true rfl)
  rw [lg_entry_eq]
  generalize (lg_sl ([Value.ref h0, Value.int (iI ob), Value.int (iI from_), Value.int (iI to_)]) ++ List.replicate (5 - (lg_sl ([Value.ref h0, Value.int (iI ob), Value.int (iI from_), Value.int (iI to_)])).length) Slot.unset).toArray = ls at hl ⊢
  have hl : lv_has ls 5 [(0, .ref h0), (1, .int (iI ob)), (2, .int (iI from_)), (3, .int (iI to_))] := hl
  unfold vt_LD_shown at v
  refine lv_aload_n hx hb d_LD_shown_0 rfl (lv_at hl 0 rfl) ?_
  refine lv_iload_n hx hb d_LD_shown_1 rfl (lv_at hl 1 rfl) ?_
  obtain ⟨k2, v⟩ := v
  obtain ⟨k3, v⟩ := v
  by_cases c1 : 0 ≤ ob ∧ ob < (no : Int)
  · exact (v.1 c1).elim
  · have v := v.2 c1
    subst v
    exact nv_thV (wc := [(h0, .inr (7, [.ref x1, .ref y1, .ref al, .ref dy, .ref fl, .ref br, .ref bk, .int (iI fr), .int (iI po)])), (x1, .inr (9, [.ref x2, .int (iI (no : Int)), .int (iI xm)]))]) (As := [.int (iI ob)]) (rest := []) ⟨hx, hb, hml, hown, hts⟩ (t_LD_exhibitOf l D cI cJ cO cZ qd mi Z hZ hfl h0 x1 y1 al dy fl br bk x2 fr po no xm ob "java/lang/IndexOutOfBoundsException" (f_LD_exhibitOf k2 k3 c1)) (nv_cwV (rm := { frames := 7, cells := 1, slots := 6, locals := 111 }) (n := 1) hts wd_191 wd_193 sl_3 wd_1 wd_194 (by decide +kernel) ⟨Nat.le_of_ble_eq_true rfl, Nat.le_of_ble_eq_true rfl⟩) hK (hP.sub [0, 1] rfl) hE (va_recv hK hP (ci := 7) (q0 := 0) rfl rfl) rfl hl.1 rfl (Nat.le_of_ble_eq_true rfl) d_LD_shown_2 (Nat.le_of_ble_eq_true rfl) (Nat.le_of_ble_eq_true rfl) hno hlocks

def vt_LD_shown2 (fr : Int) (po : Int) (no : Nat) (xm : Int) (xc : Nat) (xf : Nat → Option Nat) (kd : Int) (es : Nat → Int) (ef : Nat → Int) (et : Nat → Int) (en : Int) (ob : Nat) (from_ : Int) (to_ : Int) (X : String) : Prop := (vc_LD_exhibitOf fr po no xm xc xf kd es ef et en ob) ∧ ((r32 from_) ∧ (((0 ≤ from_ ∧ from_ < 26280) → (r32 en) ∧ ((en < 16 → (r32 to_) ∧ (((from_ < to_ ∧ to_ ≤ 26280) → False) ∧ (¬ (from_ < to_ ∧ to_ ≤ 26280) → X = "java/lang/IllegalArgumentException"))) ∧ (16 ≤ en → X = "java/lang/IllegalStateException"))) ∧ (¬ (0 ≤ from_ ∧ from_ < 26280) → X = "java/lang/IndexOutOfBoundsException")))
set_option maxHeartbeats 4000000 in
set_option maxRecDepth 100000 in
theorem t_LD_shown2 (l : Launch) (D : va_G) (cI cJ cO cZ : ClassId) (qd mi : Nat) (Z : State) (hZ : EvZ qd mi Z) (hfl : ∀ e : Env, l.admits e → e.platform.stackTraces = false) (h0 x1 y1 al dy fl br bk x2 e0 e1 e2 e3 : Nat) (fr : Int) (po : Int) (no : Nat) (xm : Int) (xc : Nat) (xf : Nat → Option Nat) (kd : Int) (es : Nat → Int) (ef : Nat → Int) (et : Nat → Int) (en : Int) (ob : Nat) (from_ : Int) (to_ : Int) (hxf : xf ob = some e0) (hob : ob < no) (hxn : no ≤ xc) (hxc : xc < 1000000) (X : String) (v : vt_LD_shown2 fr po no xm xc xf kd es ef et en ob from_ to_ X) : MetT l ⟨"LightDoses", "shown", "(III)I"⟩ (.code ⟨"LightDoses", "shown", "(III)I"⟩ prog_1_method_7_code 5 (some .int) :: TG) { frames := 8, cells := 1, slots := 6, locals := 132 } (va_Pc [.ref h0, .int (iI (ob : Int)), .int (iI from_), .int (iI to_)] (fun U => va_K D vwCl (tyx cI cJ cO cZ) U ∧ va_P D vwCl [(h0, .inr (7, [.ref x1, .ref y1, .ref al, .ref dy, .ref fl, .ref br, .ref bk, .int (iI fr), .int (iI po)])), (x1, .inr (9, [.ref x2, .int (iI (no : Int)), .int (iI xm)])), (x2, .inl (cO, xc, .inr (.inr (.inr (.inr xf))))), (e0, .inr (4, [.int (iI kd), .ref e1, .ref e2, .ref e3, .int (iI en)])), (e1, .inl (cI, 8, .inl (fun k => iI (es k)))), (e2, .inl (cI, 16, .inl (fun k => iI (ef k)))), (e3, .inl (cI, 16, .inl (fun k => iI (et k))))] U.heap ∧ Ev Z U)) (th_X X) 1 6 (fun _ => False) := by
  refine MetT.ofW (cc := prog_1_method_7_code) (maxL := 5) (ret := (some .int)) (by decide) rfl ?_
  intro p e s m args below meth c s₁ B hml hv
  obtain ⟨rfl, hK, hP, hE⟩ := hv
  have hx := B.exec
  have hb := B.bytes
  have hr := B.returns
  have hts0 := atoms_spec (ws := (.code ⟨"LightDoses", "shown", "(III)I"⟩ prog_1_method_7_code 5 (some .int) :: TG)) B.pre
  have hts : ∀ w ∈ TG, w.before _ s = true := fun w h => hts0 w (List.mem_cons_of_mem _ h)
  have hown : s.vm.findClass "LightDoses" = some m.cls := findClass_of_methodNamed B.named
  have hlocks := B.notSynchronized
  have hno := nv_noTable B hts0
  have hP : va_P D vwCl [(h0, .inr (7, [.ref x1, .ref y1, .ref al, .ref dy, .ref fl, .ref br, .ref bk, .int (iI fr), .int (iI po)])), (x1, .inr (9, [.ref x2, .int (iI (no : Int)), .int (iI xm)])), (x2, .inl (cO, xc, .inr (.inr (.inr (.inr xf))))), (e0, .inr (4, [.int (iI kd), .ref e1, .ref e2, .ref e3, .int (iI en)])), (e1, .inl (cI, 8, .inl (fun k => iI (es k)))), (e2, .inl (cI, 16, .inl (fun k => iI (ef k)))), (e3, .inl (cI, 16, .inl (fun k => iI (et k))))] s.heap := hP
  have hl := lv_entry ([Value.ref h0, Value.int (iI (ob : Int)), Value.int (iI from_), Value.int (iI to_)]) (n := 5) (Nat.le_of_ble_eq_true rfl)
  rw [lg_entry_eq]
  generalize (lg_sl ([Value.ref h0, Value.int (iI (ob : Int)), Value.int (iI from_), Value.int (iI to_)]) ++ List.replicate (5 - (lg_sl ([Value.ref h0, Value.int (iI (ob : Int)), Value.int (iI from_), Value.int (iI to_)])).length) Slot.unset).toArray = ls at hl ⊢
  have hl : lv_has ls 5 [(0, .ref h0), (1, .int (iI (ob : Int))), (2, .int (iI from_)), (3, .int (iI to_))] := hl
  unfold vt_LD_shown2 at v
  refine lv_aload_n hx hb d_LD_shown_0 rfl (lv_at hl 0 rfl) ?_
  refine lv_iload_n hx hb d_LD_shown_1 rfl (lv_at hl 1 rfl) ?_
  obtain ⟨q1, v⟩ := v
  refine va_csr (nv_runV (wc := [(h0, .inr (7, [.ref x1, .ref y1, .ref al, .ref dy, .ref fl, .ref br, .ref bk, .int (iI fr), .int (iI po)])), (x1, .inr (9, [.ref x2, .int (iI (no : Int)), .int (iI xm)])), (x2, .inl (cO, xc, .inr (.inr (.inr (.inr xf))))), (e0, .inr (4, [.int (iI kd), .ref e1, .ref e2, .ref e3, .int (iI en)])), (e1, .inl (cI, 8, .inl (fun k => iI (es k)))), (e2, .inl (cI, 16, .inl (fun k => iI (ef k)))), (e3, .inl (cI, 16, .inl (fun k => iI (et k))))]) (As := [.int (iI (ob : Int))]) (rest := []) ⟨hx, hb, hml, hown, hts⟩ (m_LD_exhibitOf l D cI cJ cO cZ h0 x1 y1 al dy fl br bk x2 e0 e1 e2 e3 fr po no xm xc xf kd es ef et en ob hxf hob hxn hxc q1) (nv_cwV (n := 1) hts wd_191 wd_193 sl_3 wd_1 wd_194 (by decide +kernel) ⟨Nat.le_of_ble_eq_true rfl, Nat.le_of_ble_eq_true rfl⟩) hK (hP.sub [0, 1, 2, 3, 4, 5, 6] rfl) (va_recv hK hP (ci := 7) (q0 := 0) rfl rfl) rfl hl.1 rfl (Nat.le_of_ble_eq_true rfl) d_LD_shown_2 (Nat.le_of_ble_eq_true rfl) (Nat.le_of_ble_eq_true rfl)) (fun r9 hr9 => ?_)
  have hr9 : r9 = e0 := hr9
  rw [hr9]
  refine lv_astore (lv' := [(4, .ref e0), (0, .ref h0), (1, .int (iI (ob : Int))), (2, .int (iI from_)), (3, .int (iI to_))]) hx hb d_LD_shown_5 hl (by decide) rfl (fun ls hl => ?_)
  refine lv_iload_n hx hb d_LD_shown_7 rfl (lv_at hl 3 rfl) ?_
  refine nv_sipush (z := 26280) hx hb d_LD_shown_8 (by decide) ?_
  obtain ⟨k2, v⟩ := v
  by_cases c3 : 0 ≤ from_ ∧ from_ < 26280
  · replace v := v.1 c3
    refine nv_callSv (nv_runS (wc := []) (As := [.int (iI from_), .int (iI 26280)]) (rest := []) ⟨hx, hb, hml, hown, hts⟩ (m_LD_checkIndex l D cI cJ cO cZ from_ 26280 (s_LD_checkIndex k2 (by decide) c3)) (nv_cwS (n := 2) hts wd_195 wd_196 wd_1 wd_197 (by decide +kernel) ⟨Nat.le_of_ble_eq_true rfl, Nat.le_of_ble_eq_true rfl⟩) hK (hP.sub [] rfl) rfl hl.1 rfl (Nat.le_of_ble_eq_true rfl) d_LD_shown_11 (Nat.le_of_ble_eq_true rfl) (Nat.le_of_ble_eq_true rfl)) ?_
    refine lv_aload hx hb d_LD_shown_14 (lv_at hl 0 rfl) ?_
    refine va_get (D := D) (ci := 4) (v := .int (iI en)) (C := "LightDoses$Exhibit") (T := T_Ex) (N := 5) hx hb hts in_Ex hown hK hP 3 rfl rfl 4 (by decide) (hts _ wd_363) (fun _ h9 => h9) rfl d_LD_shown_16 ?_
    refine nv_bipush (z := 16) hx hb d_LD_shown_19 (by decide) ?_
    obtain ⟨k4, v⟩ := v
    refine nv_icmp_lt (tgt := 34) hx hb d_LD_shown_21 (by decide) k4 (by decide) (fun c5 => ?_) (fun c5 => ?_)
    · replace v := v.1 c5
      refine lv_iload_n hx hb d_LD_shown_34 rfl (lv_at hl 3 rfl) ?_
      refine lv_iload_n hx hb d_LD_shown_35 rfl (lv_at hl 4 rfl) ?_
      obtain ⟨k6, v⟩ := v
      by_cases c7 : from_ < to_ ∧ to_ ≤ 26280
      · replace v := v.1 c7
        refine nv_callSv (nv_runS (wc := []) (As := [.int (iI from_), .int (iI to_)]) (rest := []) ⟨hx, hb, hml, hown, hts⟩ (m_LD_checkEnd l D cI cJ cO cZ from_ to_ (s_LD_checkEnd k2 k6 c7)) (nv_cwS (n := 2) hts wd_556 wd_557 wd_1 wd_558 (by decide +kernel) ⟨Nat.le_of_ble_eq_true rfl, Nat.le_of_ble_eq_true rfl⟩) hK (hP.sub [] rfl) rfl hl.1 rfl (Nat.le_of_ble_eq_true rfl) d_LD_shown_36 (Nat.le_of_ble_eq_true rfl) (Nat.le_of_ble_eq_true rfl)) ?_
        exact v.elim
      · have v := v.2 c7
        subst v
        exact nv_thS (wc := []) (As := [.int (iI from_), .int (iI to_)]) (rest := []) ⟨hx, hb, hml, hown, hts⟩ (t_LD_checkEnd l D cI cJ cO cZ qd mi Z hZ hfl from_ to_ "java/lang/IllegalArgumentException" (f_LD_checkEnd k2 k6 c7)) (nv_cwS (rm := { frames := 6, cells := 1, slots := 6, locals := 90 }) (n := 2) hts wd_556 wd_557 wd_1 wd_558 (by decide +kernel) ⟨Nat.le_of_ble_eq_true rfl, Nat.le_of_ble_eq_true rfl⟩) hK (hP.sub [] rfl) hE rfl hl.1 rfl (Nat.le_of_ble_eq_true rfl) d_LD_shown_36 (Nat.le_of_ble_eq_true rfl) (Nat.le_of_ble_eq_true rfl) hno hlocks
    · replace v := v.2 c5
      subst v
      exact nv_throw (tx := "the object has sixteen rows") hx hb (hfl _ B.admits) (hml.trans hl.1.symm) hZ hE hts hown (by decide +kernel) th_atS wd_333 wd_15 (by decide +kernel) hno hlocks (Nat.le_of_ble_eq_true rfl) (Nat.le_of_ble_eq_true rfl) (Nat.le_of_ble_eq_true rfl) (Nat.le_of_ble_eq_true rfl) d_LD_shown_24 d_LD_shown_27 d_LD_shown_28 d_LD_shown_30 d_LD_shown_33
  · have v := v.2 c3
    subst v
    exact nv_thS (wc := []) (As := [.int (iI from_), .int (iI 26280)]) (rest := []) ⟨hx, hb, hml, hown, hts⟩ (t_LD_checkIndex l D cI cJ cO cZ qd mi Z hZ hfl from_ 26280 "java/lang/IndexOutOfBoundsException" (f_LD_checkIndex k2 (by decide) c3)) (nv_cwS (rm := { frames := 6, cells := 1, slots := 6, locals := 90 }) (n := 2) hts wd_195 wd_196 wd_1 wd_197 (by decide +kernel) ⟨Nat.le_of_ble_eq_true rfl, Nat.le_of_ble_eq_true rfl⟩) hK (hP.sub [] rfl) hE rfl hl.1 rfl (Nat.le_of_ble_eq_true rfl) d_LD_shown_11 (Nat.le_of_ble_eq_true rfl) (Nat.le_of_ble_eq_true rfl) hno hlocks

theorem d_LD_presence_0 : decode prog_1_method_8_code 0 = .ok (.aload_n 0, 1) := by decide +kernel
theorem d_LD_presence_1 : decode prog_1_method_8_code 1 = .ok (.iload_n 1, 1) := by decide +kernel
theorem d_LD_presence_2 : decode prog_1_method_8_code 2 = .ok (.invokevirtual 123, 3) := by decide +kernel
theorem d_LD_presence_5 : decode prog_1_method_8_code 5 = .ok (.astore 4, 2) := by decide +kernel
theorem d_LD_presence_7 : decode prog_1_method_8_code 7 = .ok (.iload_n 2, 1) := by decide +kernel
theorem d_LD_presence_8 : decode prog_1_method_8_code 8 = .ok (.sipush 26280, 3) := by decide +kernel
theorem d_LD_presence_11 : decode prog_1_method_8_code 11 = .ok (.invokestatic 65, 3) := by decide +kernel
theorem d_LD_presence_14 : decode prog_1_method_8_code 14 = .ok (.aload 4, 2) := by decide +kernel
theorem d_LD_presence_16 : decode prog_1_method_8_code 16 = .ok (.getfield 127, 3) := by decide +kernel
theorem d_LD_presence_19 : decode prog_1_method_8_code 19 = .ok (.iload_n 2, 1) := by decide +kernel
theorem d_LD_presence_20 : decode prog_1_method_8_code 20 = .ok (.invokestatic 131, 3) := by decide +kernel
theorem d_LD_presence_23 : decode prog_1_method_8_code 23 = .ok (.aload 4, 2) := by decide +kernel
theorem d_LD_presence_25 : decode prog_1_method_8_code 25 = .ok (.iload_n 2, 1) := by decide +kernel
theorem d_LD_presence_26 : decode prog_1_method_8_code 26 = .ok (.iload_n 3, 1) := by decide +kernel
theorem d_LD_presence_27 : decode prog_1_method_8_code 27 = .ok (.invokevirtual 135, 3) := by decide +kernel
theorem d_LD_presence_30 : decode prog_1_method_8_code 30 = .ok (.aload_n 0, 1) := by decide +kernel
theorem d_LD_presence_31 : decode prog_1_method_8_code 31 = .ok (.iconst 0, 1) := by decide +kernel
theorem d_LD_presence_32 : decode prog_1_method_8_code 32 = .ok (.putfield 57, 3) := by decide +kernel
theorem d_LD_presence_35 : decode prog_1_method_8_code 35 = .ok (.aload 4, 2) := by decide +kernel
theorem d_LD_presence_37 : decode prog_1_method_8_code 37 = .ok (.getfield 127, 3) := by decide +kernel
theorem d_LD_presence_40 : decode prog_1_method_8_code 40 = .ok (.getfield 139, 3) := by decide +kernel
theorem d_LD_presence_43 : decode prog_1_method_8_code 43 = .ok (.ireturn, 1) := by decide +kernel
def vt_LD_presence (fr : Int) (po : Int) (nl : Nat) (ym : Int) (lp : Int) (hour : Int) (on : Int) (X : String) : Prop := (r32 lp) ∧ ((r32 (nl : Int)) ∧ (((0 ≤ lp ∧ lp < (nl : Int)) → False) ∧ (¬ (0 ≤ lp ∧ lp < (nl : Int)) → X = "java/lang/IndexOutOfBoundsException")))
set_option maxHeartbeats 4000000 in
set_option maxRecDepth 100000 in
theorem t_LD_presence (l : Launch) (D : va_G) (cI cJ cO cZ : ClassId) (qd mi : Nat) (Z : State) (hZ : EvZ qd mi Z) (hfl : ∀ e : Env, l.admits e → e.platform.stackTraces = false) (h0 x1 y1 al dy fl br bk y2 : Nat) (fr : Int) (po : Int) (nl : Nat) (ym : Int) (lp : Int) (hour : Int) (on : Int) (X : String) (v : vt_LD_presence fr po nl ym lp hour on X) : MetT l ⟨"LightDoses", "presence", "(IIZ)I"⟩ (.code ⟨"LightDoses", "presence", "(IIZ)I"⟩ prog_1_method_8_code 5 (some .int) :: TG) { frames := 8, cells := 1, slots := 6, locals := 132 } (va_Pc [.ref h0, .int (iI lp), .int (iI hour), .int (iI on)] (fun U => va_K D vwCl (tyx cI cJ cO cZ) U ∧ va_P D vwCl [(h0, .inr (7, [.ref x1, .ref y1, .ref al, .ref dy, .ref fl, .ref br, .ref bk, .int (iI fr), .int (iI po)])), (y1, .inr (9, [.ref y2, .int (iI (nl : Int)), .int (iI ym)]))] U.heap ∧ Ev Z U)) (th_X X) 1 6 (fun _ => False) := by
  refine MetT.ofW (cc := prog_1_method_8_code) (maxL := 5) (ret := (some .int)) (by decide) rfl ?_
  intro p e s m args below meth c s₁ B hml hv
  obtain ⟨rfl, hK, hP, hE⟩ := hv
  have hx := B.exec
  have hb := B.bytes
  have hr := B.returns
  have hts0 := atoms_spec (ws := (.code ⟨"LightDoses", "presence", "(IIZ)I"⟩ prog_1_method_8_code 5 (some .int) :: TG)) B.pre
  have hts : ∀ w ∈ TG, w.before _ s = true := fun w h => hts0 w (List.mem_cons_of_mem _ h)
  have hown : s.vm.findClass "LightDoses" = some m.cls := findClass_of_methodNamed B.named
  have hlocks := B.notSynchronized
  have hno := nv_noTable B hts0
  have hP : va_P D vwCl [(h0, .inr (7, [.ref x1, .ref y1, .ref al, .ref dy, .ref fl, .ref br, .ref bk, .int (iI fr), .int (iI po)])), (y1, .inr (9, [.ref y2, .int (iI (nl : Int)), .int (iI ym)]))] s.heap := hP
  have hl := lv_entry ([Value.ref h0, Value.int (iI lp), Value.int (iI hour), Value.int (iI on)]) (n := 5) (Nat.le_of_ble_eq_true rfl)
  rw [lg_entry_eq]
  generalize (lg_sl ([Value.ref h0, Value.int (iI lp), Value.int (iI hour), Value.int (iI on)]) ++ List.replicate (5 - (lg_sl ([Value.ref h0, Value.int (iI lp), Value.int (iI hour), Value.int (iI on)])).length) Slot.unset).toArray = ls at hl ⊢
  have hl : lv_has ls 5 [(0, .ref h0), (1, .int (iI lp)), (2, .int (iI hour)), (3, .int (iI on))] := hl
  unfold vt_LD_presence at v
  refine lv_aload_n hx hb d_LD_presence_0 rfl (lv_at hl 0 rfl) ?_
  refine lv_iload_n hx hb d_LD_presence_1 rfl (lv_at hl 1 rfl) ?_
  obtain ⟨k2, v⟩ := v
  obtain ⟨k3, v⟩ := v
  by_cases c1 : 0 ≤ lp ∧ lp < (nl : Int)
  · exact (v.1 c1).elim
  · have v := v.2 c1
    subst v
    exact nv_thV (wc := [(h0, .inr (7, [.ref x1, .ref y1, .ref al, .ref dy, .ref fl, .ref br, .ref bk, .int (iI fr), .int (iI po)])), (y1, .inr (9, [.ref y2, .int (iI (nl : Int)), .int (iI ym)]))]) (As := [.int (iI lp)]) (rest := []) ⟨hx, hb, hml, hown, hts⟩ (t_LD_lampOf l D cI cJ cO cZ qd mi Z hZ hfl h0 x1 y1 al dy fl br bk y2 fr po nl ym lp "java/lang/IndexOutOfBoundsException" (f_LD_lampOf k2 k3 c1)) (nv_cwV (rm := { frames := 7, cells := 1, slots := 6, locals := 111 }) (n := 1) hts wd_571 wd_573 sl_14 wd_1 wd_574 (by decide +kernel) ⟨Nat.le_of_ble_eq_true rfl, Nat.le_of_ble_eq_true rfl⟩) hK (hP.sub [0, 1] rfl) hE (va_recv hK hP (ci := 7) (q0 := 0) rfl rfl) rfl hl.1 rfl (Nat.le_of_ble_eq_true rfl) d_LD_presence_2 (Nat.le_of_ble_eq_true rfl) (Nat.le_of_ble_eq_true rfl) hno hlocks

def vt_LD_presence2 (fr : Int) (po : Int) (nl : Nat) (ym : Int) (yc : Nat) (yf : Nat → Option Nat) (wfst : Int) (wh : Nat → Int) (wv : Nat → Int) (wn : Int) (mfst : Int) (mh : Nat → Int) (mv : Nat → Int) (mn : Int) (ps : Nat → Int) (pl : Nat → Int) (pt : Nat → Int) (np : Int) (lp : Nat) (hour : Int) (on : Int) (X : String) : Prop := (vc_LD_lampOf fr po nl ym yc yf wfst wh wv wn mfst mh mv mn ps pl pt np lp) ∧ ((r32 hour) ∧ (((0 ≤ hour ∧ hour < 26280) → ((vc_LD_checkChange wfst wh wv wn hour) ∧ (False)) ∨ (X = "java/lang/IllegalStateException" ∧ vt_LD_checkChange wfst wh wv wn hour "java/lang/IllegalStateException")) ∧ (¬ (0 ≤ hour ∧ hour < 26280) → X = "java/lang/IndexOutOfBoundsException")))
set_option maxHeartbeats 4000000 in
set_option maxRecDepth 100000 in
theorem t_LD_presence2 (l : Launch) (D : va_G) (cI cJ cO cZ : ClassId) (qd mi : Nat) (Z : State) (hZ : EvZ qd mi Z) (hfl : ∀ e : Env, l.admits e → e.platform.stackTraces = false) (h0 x1 y1 al dy fl br bk y2 p0 p1 p4 p7 p8 p9 p2 p3 p5 p6 : Nat) (fr : Int) (po : Int) (nl : Nat) (ym : Int) (yc : Nat) (yf : Nat → Option Nat) (wfst : Int) (wh : Nat → Int) (wv : Nat → Int) (wn : Int) (mfst : Int) (mh : Nat → Int) (mv : Nat → Int) (mn : Int) (ps : Nat → Int) (pl : Nat → Int) (pt : Nat → Int) (np : Int) (lp : Nat) (hour : Int) (on : Int) (hyf : yf lp = some p0) (hlp : lp < nl) (hyn : nl ≤ yc) (hyc : yc < 1000000) (X : String) (v : vt_LD_presence2 fr po nl ym yc yf wfst wh wv wn mfst mh mv mn ps pl pt np lp hour on X) : MetT l ⟨"LightDoses", "presence", "(IIZ)I"⟩ (.code ⟨"LightDoses", "presence", "(IIZ)I"⟩ prog_1_method_8_code 5 (some .int) :: TG) { frames := 8, cells := 1, slots := 6, locals := 132 } (va_Pc [.ref h0, .int (iI (lp : Int)), .int (iI hour), .int (iI on)] (fun U => va_K D vwCl (tyx cI cJ cO cZ) U ∧ va_P D vwCl [(h0, .inr (7, [.ref x1, .ref y1, .ref al, .ref dy, .ref fl, .ref br, .ref bk, .int (iI fr), .int (iI po)])), (y1, .inr (9, [.ref y2, .int (iI (nl : Int)), .int (iI ym)])), (y2, .inl (cO, yc, .inr (.inr (.inr (.inr yf))))), (p0, .inr (6, [.ref p1, .ref p4, .ref p7, .ref p8, .ref p9, .int (iI np)])), (p1, .inr (2, [.int (iI wfst), .ref p2, .ref p3, .int (iI wn)])), (p2, .inl (cI, 20, .inl (fun k => iI (wh k)))), (p3, .inl (cI, 20, .inl (fun k => iI (wv k)))), (p4, .inr (2, [.int (iI mfst), .ref p5, .ref p6, .int (iI mn)])), (p5, .inl (cI, 20, .inl (fun k => iI (mh k)))), (p6, .inl (cI, 20, .inl (fun k => iI (mv k)))), (p7, .inl (cI, 41, .inl (fun k => iI (ps k)))), (p8, .inl (cI, 41, .inl (fun k => iI (pl k)))), (p9, .inl (cJ, 41, .inr (.inl (fun k => lI (pt k)))))] U.heap ∧ Ev Z U)) (th_X X) 1 6 (fun _ => False) := by
  refine MetT.ofW (cc := prog_1_method_8_code) (maxL := 5) (ret := (some .int)) (by decide) rfl ?_
  intro p e s m args below meth c s₁ B hml hv
  obtain ⟨rfl, hK, hP, hE⟩ := hv
  have hx := B.exec
  have hb := B.bytes
  have hr := B.returns
  have hts0 := atoms_spec (ws := (.code ⟨"LightDoses", "presence", "(IIZ)I"⟩ prog_1_method_8_code 5 (some .int) :: TG)) B.pre
  have hts : ∀ w ∈ TG, w.before _ s = true := fun w h => hts0 w (List.mem_cons_of_mem _ h)
  have hown : s.vm.findClass "LightDoses" = some m.cls := findClass_of_methodNamed B.named
  have hlocks := B.notSynchronized
  have hno := nv_noTable B hts0
  have hP : va_P D vwCl [(h0, .inr (7, [.ref x1, .ref y1, .ref al, .ref dy, .ref fl, .ref br, .ref bk, .int (iI fr), .int (iI po)])), (y1, .inr (9, [.ref y2, .int (iI (nl : Int)), .int (iI ym)])), (y2, .inl (cO, yc, .inr (.inr (.inr (.inr yf))))), (p0, .inr (6, [.ref p1, .ref p4, .ref p7, .ref p8, .ref p9, .int (iI np)])), (p1, .inr (2, [.int (iI wfst), .ref p2, .ref p3, .int (iI wn)])), (p2, .inl (cI, 20, .inl (fun k => iI (wh k)))), (p3, .inl (cI, 20, .inl (fun k => iI (wv k)))), (p4, .inr (2, [.int (iI mfst), .ref p5, .ref p6, .int (iI mn)])), (p5, .inl (cI, 20, .inl (fun k => iI (mh k)))), (p6, .inl (cI, 20, .inl (fun k => iI (mv k)))), (p7, .inl (cI, 41, .inl (fun k => iI (ps k)))), (p8, .inl (cI, 41, .inl (fun k => iI (pl k)))), (p9, .inl (cJ, 41, .inr (.inl (fun k => lI (pt k)))))] s.heap := hP
  have hl := lv_entry ([Value.ref h0, Value.int (iI (lp : Int)), Value.int (iI hour), Value.int (iI on)]) (n := 5) (Nat.le_of_ble_eq_true rfl)
  rw [lg_entry_eq]
  generalize (lg_sl ([Value.ref h0, Value.int (iI (lp : Int)), Value.int (iI hour), Value.int (iI on)]) ++ List.replicate (5 - (lg_sl ([Value.ref h0, Value.int (iI (lp : Int)), Value.int (iI hour), Value.int (iI on)])).length) Slot.unset).toArray = ls at hl ⊢
  have hl : lv_has ls 5 [(0, .ref h0), (1, .int (iI (lp : Int))), (2, .int (iI hour)), (3, .int (iI on))] := hl
  unfold vt_LD_presence2 at v
  refine lv_aload_n hx hb d_LD_presence_0 rfl (lv_at hl 0 rfl) ?_
  refine lv_iload_n hx hb d_LD_presence_1 rfl (lv_at hl 1 rfl) ?_
  obtain ⟨q1, v⟩ := v
  refine va_csr (nv_runV (wc := [(h0, .inr (7, [.ref x1, .ref y1, .ref al, .ref dy, .ref fl, .ref br, .ref bk, .int (iI fr), .int (iI po)])), (y1, .inr (9, [.ref y2, .int (iI (nl : Int)), .int (iI ym)])), (y2, .inl (cO, yc, .inr (.inr (.inr (.inr yf))))), (p0, .inr (6, [.ref p1, .ref p4, .ref p7, .ref p8, .ref p9, .int (iI np)])), (p1, .inr (2, [.int (iI wfst), .ref p2, .ref p3, .int (iI wn)])), (p2, .inl (cI, 20, .inl (fun k => iI (wh k)))), (p3, .inl (cI, 20, .inl (fun k => iI (wv k)))), (p4, .inr (2, [.int (iI mfst), .ref p5, .ref p6, .int (iI mn)])), (p5, .inl (cI, 20, .inl (fun k => iI (mh k)))), (p6, .inl (cI, 20, .inl (fun k => iI (mv k)))), (p7, .inl (cI, 41, .inl (fun k => iI (ps k)))), (p8, .inl (cI, 41, .inl (fun k => iI (pl k)))), (p9, .inl (cJ, 41, .inr (.inl (fun k => lI (pt k)))))]) (As := [.int (iI (lp : Int))]) (rest := []) ⟨hx, hb, hml, hown, hts⟩ (m_LD_lampOf l D cI cJ cO cZ h0 x1 y1 al dy fl br bk y2 p0 p1 p4 p7 p8 p9 p2 p3 p5 p6 fr po nl ym yc yf wfst wh wv wn mfst mh mv mn ps pl pt np lp hyf hlp hyn hyc q1) (nv_cwV (n := 1) hts wd_571 wd_573 sl_14 wd_1 wd_574 (by decide +kernel) ⟨Nat.le_of_ble_eq_true rfl, Nat.le_of_ble_eq_true rfl⟩) hK (hP.sub [0, 1, 2, 3, 4, 5, 6, 7, 8, 9, 10, 11, 12] rfl) (va_recv hK hP (ci := 7) (q0 := 0) rfl rfl) rfl hl.1 rfl (Nat.le_of_ble_eq_true rfl) d_LD_presence_2 (Nat.le_of_ble_eq_true rfl) (Nat.le_of_ble_eq_true rfl)) (fun r9 hr9 => ?_)
  have hr9 : r9 = p0 := hr9
  rw [hr9]
  refine lv_astore (lv' := [(4, .ref p0), (0, .ref h0), (1, .int (iI (lp : Int))), (2, .int (iI hour)), (3, .int (iI on))]) hx hb d_LD_presence_5 hl (by decide) rfl (fun ls hl => ?_)
  refine lv_iload_n hx hb d_LD_presence_7 rfl (lv_at hl 3 rfl) ?_
  refine nv_sipush (z := 26280) hx hb d_LD_presence_8 (by decide) ?_
  obtain ⟨k2, v⟩ := v
  by_cases c3 : 0 ≤ hour ∧ hour < 26280
  · replace v := v.1 c3
    refine nv_callSv (nv_runS (wc := []) (As := [.int (iI hour), .int (iI 26280)]) (rest := []) ⟨hx, hb, hml, hown, hts⟩ (m_LD_checkIndex l D cI cJ cO cZ hour 26280 (s_LD_checkIndex k2 (by decide) c3)) (nv_cwS (n := 2) hts wd_195 wd_196 wd_1 wd_197 (by decide +kernel) ⟨Nat.le_of_ble_eq_true rfl, Nat.le_of_ble_eq_true rfl⟩) hK (hP.sub [] rfl) rfl hl.1 rfl (Nat.le_of_ble_eq_true rfl) d_LD_presence_11 (Nat.le_of_ble_eq_true rfl) (Nat.le_of_ble_eq_true rfl)) ?_
    refine lv_aload hx hb d_LD_presence_14 (lv_at hl 0 rfl) ?_
    refine va_get (D := D) (ci := 6) (v := .ref p1) (C := "LightDoses$Lamp") (T := T_Lp) (N := 6) hx hb hts in_Lp hown hK hP 3 rfl rfl 0 (by decide) (hts _ wd_510) (fun _ h9 => h9) rfl d_LD_presence_16 ?_
    refine lv_iload_n hx hb d_LD_presence_19 rfl (lv_at hl 3 rfl) ?_
    rcases v with ⟨c4, v⟩ | v
    · refine nv_callSv (nv_runS (wc := [(p1, .inr (2, [.int (iI wfst), .ref p2, .ref p3, .int (iI wn)])), (p2, .inl (cI, 20, .inl (fun k => iI (wh k)))), (p3, .inl (cI, 20, .inl (fun k => iI (wv k))))]) (As := [.ref p1, .int (iI hour)]) (rest := []) ⟨hx, hb, hml, hown, hts⟩ (m_LD_checkChange l D cI cJ cO cZ p1 p2 p3 wfst wh wv wn hour c4) (nv_cwS (n := 2) hts wd_575 wd_576 wd_1 wd_577 (by decide +kernel) ⟨Nat.le_of_ble_eq_true rfl, Nat.le_of_ble_eq_true rfl⟩) hK (hP.sub [4, 5, 6] rfl) rfl hl.1 rfl (Nat.le_of_ble_eq_true rfl) d_LD_presence_20 (Nat.le_of_ble_eq_true rfl) (Nat.le_of_ble_eq_true rfl)) ?_
      exact v.elim
    · obtain ⟨rfl, _⟩ := id v
      exact nv_thS (wc := [(p1, .inr (2, [.int (iI wfst), .ref p2, .ref p3, .int (iI wn)])), (p2, .inl (cI, 20, .inl (fun k => iI (wh k)))), (p3, .inl (cI, 20, .inl (fun k => iI (wv k))))]) (As := [.ref p1, .int (iI hour)]) (rest := []) ⟨hx, hb, hml, hown, hts⟩ (t_LD_checkChange l D cI cJ cO cZ qd mi Z hZ hfl p1 p2 p3 wfst wh wv wn hour "java/lang/IllegalStateException" v.2) (nv_cwS (rm := { frames := 6, cells := 1, slots := 6, locals := 90 }) (n := 2) hts wd_575 wd_576 wd_1 wd_577 (by decide +kernel) ⟨Nat.le_of_ble_eq_true rfl, Nat.le_of_ble_eq_true rfl⟩) hK (hP.sub [4, 5, 6] rfl) hE rfl hl.1 rfl (Nat.le_of_ble_eq_true rfl) d_LD_presence_20 (Nat.le_of_ble_eq_true rfl) (Nat.le_of_ble_eq_true rfl) hno hlocks
  · have v := v.2 c3
    subst v
    exact nv_thS (wc := []) (As := [.int (iI hour), .int (iI 26280)]) (rest := []) ⟨hx, hb, hml, hown, hts⟩ (t_LD_checkIndex l D cI cJ cO cZ qd mi Z hZ hfl hour 26280 "java/lang/IndexOutOfBoundsException" (f_LD_checkIndex k2 (by decide) c3)) (nv_cwS (rm := { frames := 6, cells := 1, slots := 6, locals := 90 }) (n := 2) hts wd_195 wd_196 wd_1 wd_197 (by decide +kernel) ⟨Nat.le_of_ble_eq_true rfl, Nat.le_of_ble_eq_true rfl⟩) hK (hP.sub [] rfl) hE rfl hl.1 rfl (Nat.le_of_ble_eq_true rfl) d_LD_presence_11 (Nat.le_of_ble_eq_true rfl) (Nat.le_of_ble_eq_true rfl) hno hlocks

theorem d_LD_meter_0 : decode prog_1_method_9_code 0 = .ok (.aload_n 0, 1) := by decide +kernel
theorem d_LD_meter_1 : decode prog_1_method_9_code 1 = .ok (.iload_n 1, 1) := by decide +kernel
theorem d_LD_meter_2 : decode prog_1_method_9_code 2 = .ok (.invokevirtual 123, 3) := by decide +kernel
theorem d_LD_meter_5 : decode prog_1_method_9_code 5 = .ok (.astore 4, 2) := by decide +kernel
theorem d_LD_meter_7 : decode prog_1_method_9_code 7 = .ok (.iload_n 2, 1) := by decide +kernel
theorem d_LD_meter_8 : decode prog_1_method_9_code 8 = .ok (.sipush 26280, 3) := by decide +kernel
theorem d_LD_meter_11 : decode prog_1_method_9_code 11 = .ok (.invokestatic 65, 3) := by decide +kernel
theorem d_LD_meter_14 : decode prog_1_method_9_code 14 = .ok (.aload 4, 2) := by decide +kernel
theorem d_LD_meter_16 : decode prog_1_method_9_code 16 = .ok (.getfield 143, 3) := by decide +kernel
theorem d_LD_meter_19 : decode prog_1_method_9_code 19 = .ok (.iload_n 2, 1) := by decide +kernel
theorem d_LD_meter_20 : decode prog_1_method_9_code 20 = .ok (.invokestatic 131, 3) := by decide +kernel
theorem d_LD_meter_23 : decode prog_1_method_9_code 23 = .ok (.iload_n 3, 1) := by decide +kernel
theorem d_LD_meter_24 : decode prog_1_method_9_code 24 = .ok (.iconst 0, 1) := by decide +kernel
theorem d_LD_meter_25 : decode prog_1_method_9_code 25 = .ok (.sipush 5000, 3) := by decide +kernel
theorem d_LD_meter_28 : decode prog_1_method_9_code 28 = .ok (.invokestatic 90, 3) := by decide +kernel
theorem d_LD_meter_31 : decode prog_1_method_9_code 31 = .ok (.aload 4, 2) := by decide +kernel
theorem d_LD_meter_33 : decode prog_1_method_9_code 33 = .ok (.iload_n 2, 1) := by decide +kernel
theorem d_LD_meter_34 : decode prog_1_method_9_code 34 = .ok (.iload_n 3, 1) := by decide +kernel
theorem d_LD_meter_35 : decode prog_1_method_9_code 35 = .ok (.invokevirtual 146, 3) := by decide +kernel
theorem d_LD_meter_38 : decode prog_1_method_9_code 38 = .ok (.aload_n 0, 1) := by decide +kernel
theorem d_LD_meter_39 : decode prog_1_method_9_code 39 = .ok (.iconst 0, 1) := by decide +kernel
theorem d_LD_meter_40 : decode prog_1_method_9_code 40 = .ok (.putfield 57, 3) := by decide +kernel
theorem d_LD_meter_43 : decode prog_1_method_9_code 43 = .ok (.aload 4, 2) := by decide +kernel
theorem d_LD_meter_45 : decode prog_1_method_9_code 45 = .ok (.getfield 143, 3) := by decide +kernel
theorem d_LD_meter_48 : decode prog_1_method_9_code 48 = .ok (.getfield 139, 3) := by decide +kernel
theorem d_LD_meter_51 : decode prog_1_method_9_code 51 = .ok (.ireturn, 1) := by decide +kernel
def vt_LD_meter (fr : Int) (po : Int) (nl : Nat) (ym : Int) (lp : Int) (hour : Int) (lx : Int) (X : String) : Prop := (r32 lp) ∧ ((r32 (nl : Int)) ∧ (((0 ≤ lp ∧ lp < (nl : Int)) → False) ∧ (¬ (0 ≤ lp ∧ lp < (nl : Int)) → X = "java/lang/IndexOutOfBoundsException")))
set_option maxHeartbeats 4000000 in
set_option maxRecDepth 100000 in
theorem t_LD_meter (l : Launch) (D : va_G) (cI cJ cO cZ : ClassId) (qd mi : Nat) (Z : State) (hZ : EvZ qd mi Z) (hfl : ∀ e : Env, l.admits e → e.platform.stackTraces = false) (h0 x1 y1 al dy fl br bk y2 : Nat) (fr : Int) (po : Int) (nl : Nat) (ym : Int) (lp : Int) (hour : Int) (lx : Int) (X : String) (v : vt_LD_meter fr po nl ym lp hour lx X) : MetT l ⟨"LightDoses", "meter", "(III)I"⟩ (.code ⟨"LightDoses", "meter", "(III)I"⟩ prog_1_method_9_code 5 (some .int) :: TG) { frames := 8, cells := 1, slots := 6, locals := 132 } (va_Pc [.ref h0, .int (iI lp), .int (iI hour), .int (iI lx)] (fun U => va_K D vwCl (tyx cI cJ cO cZ) U ∧ va_P D vwCl [(h0, .inr (7, [.ref x1, .ref y1, .ref al, .ref dy, .ref fl, .ref br, .ref bk, .int (iI fr), .int (iI po)])), (y1, .inr (9, [.ref y2, .int (iI (nl : Int)), .int (iI ym)]))] U.heap ∧ Ev Z U)) (th_X X) 1 6 (fun _ => False) := by
  refine MetT.ofW (cc := prog_1_method_9_code) (maxL := 5) (ret := (some .int)) (by decide) rfl ?_
  intro p e s m args below meth c s₁ B hml hv
  obtain ⟨rfl, hK, hP, hE⟩ := hv
  have hx := B.exec
  have hb := B.bytes
  have hr := B.returns
  have hts0 := atoms_spec (ws := (.code ⟨"LightDoses", "meter", "(III)I"⟩ prog_1_method_9_code 5 (some .int) :: TG)) B.pre
  have hts : ∀ w ∈ TG, w.before _ s = true := fun w h => hts0 w (List.mem_cons_of_mem _ h)
  have hown : s.vm.findClass "LightDoses" = some m.cls := findClass_of_methodNamed B.named
  have hlocks := B.notSynchronized
  have hno := nv_noTable B hts0
  have hP : va_P D vwCl [(h0, .inr (7, [.ref x1, .ref y1, .ref al, .ref dy, .ref fl, .ref br, .ref bk, .int (iI fr), .int (iI po)])), (y1, .inr (9, [.ref y2, .int (iI (nl : Int)), .int (iI ym)]))] s.heap := hP
  have hl := lv_entry ([Value.ref h0, Value.int (iI lp), Value.int (iI hour), Value.int (iI lx)]) (n := 5) (Nat.le_of_ble_eq_true rfl)
  rw [lg_entry_eq]
  generalize (lg_sl ([Value.ref h0, Value.int (iI lp), Value.int (iI hour), Value.int (iI lx)]) ++ List.replicate (5 - (lg_sl ([Value.ref h0, Value.int (iI lp), Value.int (iI hour), Value.int (iI lx)])).length) Slot.unset).toArray = ls at hl ⊢
  have hl : lv_has ls 5 [(0, .ref h0), (1, .int (iI lp)), (2, .int (iI hour)), (3, .int (iI lx))] := hl
  unfold vt_LD_meter at v
  refine lv_aload_n hx hb d_LD_meter_0 rfl (lv_at hl 0 rfl) ?_
  refine lv_iload_n hx hb d_LD_meter_1 rfl (lv_at hl 1 rfl) ?_
  obtain ⟨k2, v⟩ := v
  obtain ⟨k3, v⟩ := v
  by_cases c1 : 0 ≤ lp ∧ lp < (nl : Int)
  · exact (v.1 c1).elim
  · have v := v.2 c1
    subst v
    exact nv_thV (wc := [(h0, .inr (7, [.ref x1, .ref y1, .ref al, .ref dy, .ref fl, .ref br, .ref bk, .int (iI fr), .int (iI po)])), (y1, .inr (9, [.ref y2, .int (iI (nl : Int)), .int (iI ym)]))]) (As := [.int (iI lp)]) (rest := []) ⟨hx, hb, hml, hown, hts⟩ (t_LD_lampOf l D cI cJ cO cZ qd mi Z hZ hfl h0 x1 y1 al dy fl br bk y2 fr po nl ym lp "java/lang/IndexOutOfBoundsException" (f_LD_lampOf k2 k3 c1)) (nv_cwV (rm := { frames := 7, cells := 1, slots := 6, locals := 111 }) (n := 1) hts wd_571 wd_573 sl_14 wd_1 wd_574 (by decide +kernel) ⟨Nat.le_of_ble_eq_true rfl, Nat.le_of_ble_eq_true rfl⟩) hK (hP.sub [0, 1] rfl) hE (va_recv hK hP (ci := 7) (q0 := 0) rfl rfl) rfl hl.1 rfl (Nat.le_of_ble_eq_true rfl) d_LD_meter_2 (Nat.le_of_ble_eq_true rfl) (Nat.le_of_ble_eq_true rfl) hno hlocks

def vt_LD_meter2 (fr : Int) (po : Int) (nl : Nat) (ym : Int) (yc : Nat) (yf : Nat → Option Nat) (wfst : Int) (wh : Nat → Int) (wv : Nat → Int) (wn : Int) (mfst : Int) (mh : Nat → Int) (mv : Nat → Int) (mn : Int) (ps : Nat → Int) (pl : Nat → Int) (pt : Nat → Int) (np : Int) (lp : Nat) (hour : Int) (lx : Int) (X : String) : Prop := (vc_LD_lampOf fr po nl ym yc yf wfst wh wv wn mfst mh mv mn ps pl pt np lp) ∧ ((r32 hour) ∧ (((0 ≤ hour ∧ hour < 26280) → ((vc_LD_checkChange mfst mh mv mn hour) ∧ ((r32 lx) ∧ (((0 ≤ lx ∧ lx ≤ 5000) → False) ∧ (¬ (0 ≤ lx ∧ lx ≤ 5000) → X = "java/lang/IllegalArgumentException")))) ∨ (X = "java/lang/IllegalStateException" ∧ vt_LD_checkChange mfst mh mv mn hour "java/lang/IllegalStateException")) ∧ (¬ (0 ≤ hour ∧ hour < 26280) → X = "java/lang/IndexOutOfBoundsException")))
set_option maxHeartbeats 4000000 in
set_option maxRecDepth 100000 in
theorem t_LD_meter2 (l : Launch) (D : va_G) (cI cJ cO cZ : ClassId) (qd mi : Nat) (Z : State) (hZ : EvZ qd mi Z) (hfl : ∀ e : Env, l.admits e → e.platform.stackTraces = false) (h0 x1 y1 al dy fl br bk y2 p0 p1 p4 p7 p8 p9 p2 p3 p5 p6 : Nat) (fr : Int) (po : Int) (nl : Nat) (ym : Int) (yc : Nat) (yf : Nat → Option Nat) (wfst : Int) (wh : Nat → Int) (wv : Nat → Int) (wn : Int) (mfst : Int) (mh : Nat → Int) (mv : Nat → Int) (mn : Int) (ps : Nat → Int) (pl : Nat → Int) (pt : Nat → Int) (np : Int) (lp : Nat) (hour : Int) (lx : Int) (hyf : yf lp = some p0) (hlp : lp < nl) (hyn : nl ≤ yc) (hyc : yc < 1000000) (X : String) (v : vt_LD_meter2 fr po nl ym yc yf wfst wh wv wn mfst mh mv mn ps pl pt np lp hour lx X) : MetT l ⟨"LightDoses", "meter", "(III)I"⟩ (.code ⟨"LightDoses", "meter", "(III)I"⟩ prog_1_method_9_code 5 (some .int) :: TG) { frames := 8, cells := 1, slots := 6, locals := 132 } (va_Pc [.ref h0, .int (iI (lp : Int)), .int (iI hour), .int (iI lx)] (fun U => va_K D vwCl (tyx cI cJ cO cZ) U ∧ va_P D vwCl [(h0, .inr (7, [.ref x1, .ref y1, .ref al, .ref dy, .ref fl, .ref br, .ref bk, .int (iI fr), .int (iI po)])), (y1, .inr (9, [.ref y2, .int (iI (nl : Int)), .int (iI ym)])), (y2, .inl (cO, yc, .inr (.inr (.inr (.inr yf))))), (p0, .inr (6, [.ref p1, .ref p4, .ref p7, .ref p8, .ref p9, .int (iI np)])), (p1, .inr (2, [.int (iI wfst), .ref p2, .ref p3, .int (iI wn)])), (p2, .inl (cI, 20, .inl (fun k => iI (wh k)))), (p3, .inl (cI, 20, .inl (fun k => iI (wv k)))), (p4, .inr (2, [.int (iI mfst), .ref p5, .ref p6, .int (iI mn)])), (p5, .inl (cI, 20, .inl (fun k => iI (mh k)))), (p6, .inl (cI, 20, .inl (fun k => iI (mv k)))), (p7, .inl (cI, 41, .inl (fun k => iI (ps k)))), (p8, .inl (cI, 41, .inl (fun k => iI (pl k)))), (p9, .inl (cJ, 41, .inr (.inl (fun k => lI (pt k)))))] U.heap ∧ Ev Z U)) (th_X X) 1 6 (fun _ => False) := by
  refine MetT.ofW (cc := prog_1_method_9_code) (maxL := 5) (ret := (some .int)) (by decide) rfl ?_
  intro p e s m args below meth c s₁ B hml hv
  obtain ⟨rfl, hK, hP, hE⟩ := hv
  have hx := B.exec
  have hb := B.bytes
  have hr := B.returns
  have hts0 := atoms_spec (ws := (.code ⟨"LightDoses", "meter", "(III)I"⟩ prog_1_method_9_code 5 (some .int) :: TG)) B.pre
  have hts : ∀ w ∈ TG, w.before _ s = true := fun w h => hts0 w (List.mem_cons_of_mem _ h)
  have hown : s.vm.findClass "LightDoses" = some m.cls := findClass_of_methodNamed B.named
  have hlocks := B.notSynchronized
  have hno := nv_noTable B hts0
  have hP : va_P D vwCl [(h0, .inr (7, [.ref x1, .ref y1, .ref al, .ref dy, .ref fl, .ref br, .ref bk, .int (iI fr), .int (iI po)])), (y1, .inr (9, [.ref y2, .int (iI (nl : Int)), .int (iI ym)])), (y2, .inl (cO, yc, .inr (.inr (.inr (.inr yf))))), (p0, .inr (6, [.ref p1, .ref p4, .ref p7, .ref p8, .ref p9, .int (iI np)])), (p1, .inr (2, [.int (iI wfst), .ref p2, .ref p3, .int (iI wn)])), (p2, .inl (cI, 20, .inl (fun k => iI (wh k)))), (p3, .inl (cI, 20, .inl (fun k => iI (wv k)))), (p4, .inr (2, [.int (iI mfst), .ref p5, .ref p6, .int (iI mn)])), (p5, .inl (cI, 20, .inl (fun k => iI (mh k)))), (p6, .inl (cI, 20, .inl (fun k => iI (mv k)))), (p7, .inl (cI, 41, .inl (fun k => iI (ps k)))), (p8, .inl (cI, 41, .inl (fun k => iI (pl k)))), (p9, .inl (cJ, 41, .inr (.inl (fun k => lI (pt k)))))] s.heap := hP
  have hl := lv_entry ([Value.ref h0, Value.int (iI (lp : Int)), Value.int (iI hour), Value.int (iI lx)]) (n := 5) (Nat.le_of_ble_eq_true rfl)
  rw [lg_entry_eq]
  generalize (lg_sl ([Value.ref h0, Value.int (iI (lp : Int)), Value.int (iI hour), Value.int (iI lx)]) ++ List.replicate (5 - (lg_sl ([Value.ref h0, Value.int (iI (lp : Int)), Value.int (iI hour), Value.int (iI lx)])).length) Slot.unset).toArray = ls at hl ⊢
  have hl : lv_has ls 5 [(0, .ref h0), (1, .int (iI (lp : Int))), (2, .int (iI hour)), (3, .int (iI lx))] := hl
  unfold vt_LD_meter2 at v
  refine lv_aload_n hx hb d_LD_meter_0 rfl (lv_at hl 0 rfl) ?_
  refine lv_iload_n hx hb d_LD_meter_1 rfl (lv_at hl 1 rfl) ?_
  obtain ⟨q1, v⟩ := v
  refine va_csr (nv_runV (wc := [(h0, .inr (7, [.ref x1, .ref y1, .ref al, .ref dy, .ref fl, .ref br, .ref bk, .int (iI fr), .int (iI po)])), (y1, .inr (9, [.ref y2, .int (iI (nl : Int)), .int (iI ym)])), (y2, .inl (cO, yc, .inr (.inr (.inr (.inr yf))))), (p0, .inr (6, [.ref p1, .ref p4, .ref p7, .ref p8, .ref p9, .int (iI np)])), (p1, .inr (2, [.int (iI wfst), .ref p2, .ref p3, .int (iI wn)])), (p2, .inl (cI, 20, .inl (fun k => iI (wh k)))), (p3, .inl (cI, 20, .inl (fun k => iI (wv k)))), (p4, .inr (2, [.int (iI mfst), .ref p5, .ref p6, .int (iI mn)])), (p5, .inl (cI, 20, .inl (fun k => iI (mh k)))), (p6, .inl (cI, 20, .inl (fun k => iI (mv k)))), (p7, .inl (cI, 41, .inl (fun k => iI (ps k)))), (p8, .inl (cI, 41, .inl (fun k => iI (pl k)))), (p9, .inl (cJ, 41, .inr (.inl (fun k => lI (pt k)))))]) (As := [.int (iI (lp : Int))]) (rest := []) ⟨hx, hb, hml, hown, hts⟩ (m_LD_lampOf l D cI cJ cO cZ h0 x1 y1 al dy fl br bk y2 p0 p1 p4 p7 p8 p9 p2 p3 p5 p6 fr po nl ym yc yf wfst wh wv wn mfst mh mv mn ps pl pt np lp hyf hlp hyn hyc q1) (nv_cwV (n := 1) hts wd_571 wd_573 sl_14 wd_1 wd_574 (by decide +kernel) ⟨Nat.le_of_ble_eq_true rfl, Nat.le_of_ble_eq_true rfl⟩) hK (hP.sub [0, 1, 2, 3, 4, 5, 6, 7, 8, 9, 10, 11, 12] rfl) (va_recv hK hP (ci := 7) (q0 := 0) rfl rfl) rfl hl.1 rfl (Nat.le_of_ble_eq_true rfl) d_LD_meter_2 (Nat.le_of_ble_eq_true rfl) (Nat.le_of_ble_eq_true rfl)) (fun r9 hr9 => ?_)
  have hr9 : r9 = p0 := hr9
  rw [hr9]
  refine lv_astore (lv' := [(4, .ref p0), (0, .ref h0), (1, .int (iI (lp : Int))), (2, .int (iI hour)), (3, .int (iI lx))]) hx hb d_LD_meter_5 hl (by decide) rfl (fun ls hl => ?_)
  refine lv_iload_n hx hb d_LD_meter_7 rfl (lv_at hl 3 rfl) ?_
  refine nv_sipush (z := 26280) hx hb d_LD_meter_8 (by decide) ?_
  obtain ⟨k2, v⟩ := v
  by_cases c3 : 0 ≤ hour ∧ hour < 26280
  · replace v := v.1 c3
    refine nv_callSv (nv_runS (wc := []) (As := [.int (iI hour), .int (iI 26280)]) (rest := []) ⟨hx, hb, hml, hown, hts⟩ (m_LD_checkIndex l D cI cJ cO cZ hour 26280 (s_LD_checkIndex k2 (by decide) c3)) (nv_cwS (n := 2) hts wd_195 wd_196 wd_1 wd_197 (by decide +kernel) ⟨Nat.le_of_ble_eq_true rfl, Nat.le_of_ble_eq_true rfl⟩) hK (hP.sub [] rfl) rfl hl.1 rfl (Nat.le_of_ble_eq_true rfl) d_LD_meter_11 (Nat.le_of_ble_eq_true rfl) (Nat.le_of_ble_eq_true rfl)) ?_
    refine lv_aload hx hb d_LD_meter_14 (lv_at hl 0 rfl) ?_
    refine va_get (D := D) (ci := 6) (v := .ref p4) (C := "LightDoses$Lamp") (T := T_Lp) (N := 6) hx hb hts in_Lp hown hK hP 3 rfl rfl 1 (by decide) (hts _ wd_512) (fun _ h9 => h9) rfl d_LD_meter_16 ?_
    refine lv_iload_n hx hb d_LD_meter_19 rfl (lv_at hl 3 rfl) ?_
    rcases v with ⟨c4, v⟩ | v
    · refine nv_callSv (nv_runS (wc := [(p4, .inr (2, [.int (iI mfst), .ref p5, .ref p6, .int (iI mn)])), (p5, .inl (cI, 20, .inl (fun k => iI (mh k)))), (p6, .inl (cI, 20, .inl (fun k => iI (mv k))))]) (As := [.ref p4, .int (iI hour)]) (rest := []) ⟨hx, hb, hml, hown, hts⟩ (m_LD_checkChange l D cI cJ cO cZ p4 p5 p6 mfst mh mv mn hour c4) (nv_cwS (n := 2) hts wd_575 wd_576 wd_1 wd_577 (by decide +kernel) ⟨Nat.le_of_ble_eq_true rfl, Nat.le_of_ble_eq_true rfl⟩) hK (hP.sub [7, 8, 9] rfl) rfl hl.1 rfl (Nat.le_of_ble_eq_true rfl) d_LD_meter_20 (Nat.le_of_ble_eq_true rfl) (Nat.le_of_ble_eq_true rfl)) ?_
      refine lv_iload_n hx hb d_LD_meter_23 rfl (lv_at hl 4 rfl) ?_
      refine nv_iconst (n := 0) hx hb d_LD_meter_24 ?_
      refine nv_sipush (z := 5000) hx hb d_LD_meter_25 (by decide) ?_
      obtain ⟨k5, v⟩ := v
      by_cases c6 : 0 ≤ lx ∧ lx ≤ 5000
      · replace v := v.1 c6
        refine nv_callSv (nv_runS (wc := []) (As := [.int (iI lx), .int (iI 0), .int (iI 5000)]) (rest := []) ⟨hx, hb, hml, hown, hts⟩ (m_LD_checkArgument l D cI cJ cO cZ lx 0 5000 (s_LD_checkArgument k5 (by decide) (by decide) c6)) (nv_cwS (n := 3) hts wd_440 wd_441 wd_1 wd_442 (by decide +kernel) ⟨Nat.le_of_ble_eq_true rfl, Nat.le_of_ble_eq_true rfl⟩) hK (hP.sub [] rfl) rfl hl.1 rfl (Nat.le_of_ble_eq_true rfl) d_LD_meter_28 (Nat.le_of_ble_eq_true rfl) (Nat.le_of_ble_eq_true rfl)) ?_
        exact v.elim
      · have v := v.2 c6
        subst v
        exact nv_thS (wc := []) (As := [.int (iI lx), .int (iI 0), .int (iI 5000)]) (rest := []) ⟨hx, hb, hml, hown, hts⟩ (t_LD_checkArgument l D cI cJ cO cZ qd mi Z hZ hfl lx 0 5000 "java/lang/IllegalArgumentException" (f_LD_checkArgument k5 (by decide) (by decide) c6)) (nv_cwS (rm := { frames := 6, cells := 1, slots := 6, locals := 90 }) (n := 3) hts wd_440 wd_441 wd_1 wd_442 (by decide +kernel) ⟨Nat.le_of_ble_eq_true rfl, Nat.le_of_ble_eq_true rfl⟩) hK (hP.sub [] rfl) hE rfl hl.1 rfl (Nat.le_of_ble_eq_true rfl) d_LD_meter_28 (Nat.le_of_ble_eq_true rfl) (Nat.le_of_ble_eq_true rfl) hno hlocks
    · obtain ⟨rfl, _⟩ := id v
      exact nv_thS (wc := [(p4, .inr (2, [.int (iI mfst), .ref p5, .ref p6, .int (iI mn)])), (p5, .inl (cI, 20, .inl (fun k => iI (mh k)))), (p6, .inl (cI, 20, .inl (fun k => iI (mv k))))]) (As := [.ref p4, .int (iI hour)]) (rest := []) ⟨hx, hb, hml, hown, hts⟩ (t_LD_checkChange l D cI cJ cO cZ qd mi Z hZ hfl p4 p5 p6 mfst mh mv mn hour "java/lang/IllegalStateException" v.2) (nv_cwS (rm := { frames := 6, cells := 1, slots := 6, locals := 90 }) (n := 2) hts wd_575 wd_576 wd_1 wd_577 (by decide +kernel) ⟨Nat.le_of_ble_eq_true rfl, Nat.le_of_ble_eq_true rfl⟩) hK (hP.sub [7, 8, 9] rfl) hE rfl hl.1 rfl (Nat.le_of_ble_eq_true rfl) d_LD_meter_20 (Nat.le_of_ble_eq_true rfl) (Nat.le_of_ble_eq_true rfl) hno hlocks
  · have v := v.2 c3
    subst v
    exact nv_thS (wc := []) (As := [.int (iI hour), .int (iI 26280)]) (rest := []) ⟨hx, hb, hml, hown, hts⟩ (t_LD_checkIndex l D cI cJ cO cZ qd mi Z hZ hfl hour 26280 "java/lang/IndexOutOfBoundsException" (f_LD_checkIndex k2 (by decide) c3)) (nv_cwS (rm := { frames := 6, cells := 1, slots := 6, locals := 90 }) (n := 2) hts wd_195 wd_196 wd_1 wd_197 (by decide +kernel) ⟨Nat.le_of_ble_eq_true rfl, Nat.le_of_ble_eq_true rfl⟩) hK (hP.sub [] rfl) hE rfl hl.1 rfl (Nat.le_of_ble_eq_true rfl) d_LD_meter_11 (Nat.le_of_ble_eq_true rfl) (Nat.le_of_ble_eq_true rfl) hno hlocks

theorem d_LD_flash_0 : decode prog_1_method_10_code 0 = .ok (.iload_n 1, 1) := by decide +kernel
theorem d_LD_flash_1 : decode prog_1_method_10_code 1 = .ok (.aload_n 0, 1) := by decide +kernel
theorem d_LD_flash_2 : decode prog_1_method_10_code 2 = .ok (.getfield 12, 3) := by decide +kernel
theorem d_LD_flash_5 : decode prog_1_method_10_code 5 = .ok (.invokevirtual 69, 3) := by decide +kernel
theorem d_LD_flash_8 : decode prog_1_method_10_code 8 = .ok (.invokestatic 65, 3) := by decide +kernel
theorem d_LD_flash_11 : decode prog_1_method_10_code 11 = .ok (.iload_n 2, 1) := by decide +kernel
theorem d_LD_flash_12 : decode prog_1_method_10_code 12 = .ok (.sipush 26280, 3) := by decide +kernel
theorem d_LD_flash_15 : decode prog_1_method_10_code 15 = .ok (.invokestatic 65, 3) := by decide +kernel
theorem d_LD_flash_18 : decode prog_1_method_10_code 18 = .ok (.aload_n 0, 1) := by decide +kernel
theorem d_LD_flash_19 : decode prog_1_method_10_code 19 = .ok (.getfield 39, 3) := by decide +kernel
theorem d_LD_flash_22 : decode prog_1_method_10_code 22 = .ok (.getfield 149, 3) := by decide +kernel
theorem d_LD_flash_25 : decode prog_1_method_10_code 25 = .ok (.bipush 40, 2) := by decide +kernel
theorem d_LD_flash_27 : decode prog_1_method_10_code 27 = .ok (.if_icmp .lt 13, 3) := by decide +kernel
theorem d_LD_flash_30 : decode prog_1_method_10_code 30 = .ok (.new 73, 3) := by decide +kernel
theorem d_LD_flash_33 : decode prog_1_method_10_code 33 = .ok (.dup, 1) := by decide +kernel
theorem d_LD_flash_34 : decode prog_1_method_10_code 34 = .ok (.ldc 150, 2) := by decide +kernel
theorem d_LD_flash_36 : decode prog_1_method_10_code 36 = .ok (.invokespecial 77, 3) := by decide +kernel
theorem d_LD_flash_39 : decode prog_1_method_10_code 39 = .ok (.athrow, 1) := by decide +kernel
theorem d_LD_flash_40 : decode prog_1_method_10_code 40 = .ok (.iload_n 3, 1) := by decide +kernel
theorem d_LD_flash_41 : decode prog_1_method_10_code 41 = .ok (.iconst 0, 1) := by decide +kernel
theorem d_LD_flash_42 : decode prog_1_method_10_code 42 = .ok (.ldc 89, 2) := by decide +kernel
theorem d_LD_flash_44 : decode prog_1_method_10_code 44 = .ok (.invokestatic 90, 3) := by decide +kernel
theorem d_LD_flash_47 : decode prog_1_method_10_code 47 = .ok (.aload_n 0, 1) := by decide +kernel
theorem d_LD_flash_48 : decode prog_1_method_10_code 48 = .ok (.getfield 39, 3) := by decide +kernel
theorem d_LD_flash_51 : decode prog_1_method_10_code 51 = .ok (.iload_n 1, 1) := by decide +kernel
theorem d_LD_flash_52 : decode prog_1_method_10_code 52 = .ok (.iload_n 2, 1) := by decide +kernel
theorem d_LD_flash_53 : decode prog_1_method_10_code 53 = .ok (.iload_n 3, 1) := by decide +kernel
theorem d_LD_flash_54 : decode prog_1_method_10_code 54 = .ok (.invokevirtual 152, 3) := by decide +kernel
theorem d_LD_flash_57 : decode prog_1_method_10_code 57 = .ok (.aload_n 0, 1) := by decide +kernel
theorem d_LD_flash_58 : decode prog_1_method_10_code 58 = .ok (.iconst 0, 1) := by decide +kernel
theorem d_LD_flash_59 : decode prog_1_method_10_code 59 = .ok (.putfield 57, 3) := by decide +kernel
theorem d_LD_flash_62 : decode prog_1_method_10_code 62 = .ok (.aload_n 0, 1) := by decide +kernel
theorem d_LD_flash_63 : decode prog_1_method_10_code 63 = .ok (.getfield 39, 3) := by decide +kernel
theorem d_LD_flash_66 : decode prog_1_method_10_code 66 = .ok (.getfield 149, 3) := by decide +kernel
theorem d_LD_flash_69 : decode prog_1_method_10_code 69 = .ok (.ireturn, 1) := by decide +kernel
def vt_LD_flash (fr : Int) (po : Int) (no : Nat) (xm : Int) (fo : Nat → Int) (fh : Nat → Int) (fs : Nat → Int) (fn : Int) (ob : Int) (hour : Int) (sec : Int) (X : String) : Prop := (r32 ob) ∧ ((r32 (no : Int)) ∧ (((0 ≤ ob ∧ ob < (no : Int)) → (r32 hour) ∧ (((0 ≤ hour ∧ hour < 26280) → (r32 fn) ∧ ((fn < 40 → (r32 sec) ∧ (((0 ≤ sec ∧ sec ≤ 1000000000) → False) ∧ (¬ (0 ≤ sec ∧ sec ≤ 1000000000) → X = "java/lang/IllegalArgumentException"))) ∧ (40 ≤ fn → X = "java/lang/IllegalStateException"))) ∧ (¬ (0 ≤ hour ∧ hour < 26280) → X = "java/lang/IndexOutOfBoundsException"))) ∧ (¬ (0 ≤ ob ∧ ob < (no : Int)) → X = "java/lang/IndexOutOfBoundsException")))
set_option maxHeartbeats 4000000 in
set_option maxRecDepth 100000 in
theorem t_LD_flash (l : Launch) (D : va_G) (cI cJ cO cZ : ClassId) (qd mi : Nat) (Z : State) (hZ : EvZ qd mi Z) (hfl : ∀ e : Env, l.admits e → e.platform.stackTraces = false) (h0 x1 y1 al dy fl br bk x2 fl1 fl2 fl3 : Nat) (fr : Int) (po : Int) (no : Nat) (xm : Int) (fo : Nat → Int) (fh : Nat → Int) (fs : Nat → Int) (fn : Int) (ob : Int) (hour : Int) (sec : Int) (X : String) (v : vt_LD_flash fr po no xm fo fh fs fn ob hour sec X) : MetT l ⟨"LightDoses", "flash", "(III)I"⟩ (.code ⟨"LightDoses", "flash", "(III)I"⟩ prog_1_method_10_code 4 (some .int) :: TG) { frames := 7, cells := 1, slots := 6, locals := 112 } (va_Pc [.ref h0, .int (iI ob), .int (iI hour), .int (iI sec)] (fun U => va_K D vwCl (tyx cI cJ cO cZ) U ∧ va_P D vwCl [(h0, .inr (7, [.ref x1, .ref y1, .ref al, .ref dy, .ref fl, .ref br, .ref bk, .int (iI fr), .int (iI po)])), (x1, .inr (9, [.ref x2, .int (iI (no : Int)), .int (iI xm)])), (fl, .inr (5, [.ref fl1, .ref fl2, .ref fl3, .int (iI fn)])), (fl1, .inl (cI, 40, .inl (fun k => iI (fo k)))), (fl2, .inl (cI, 40, .inl (fun k => iI (fh k)))), (fl3, .inl (cI, 40, .inl (fun k => iI (fs k))))] U.heap ∧ Ev Z U)) (th_X X) 1 6 (fun _ => False) := by
  refine MetT.ofW (cc := prog_1_method_10_code) (maxL := 4) (ret := (some .int)) (by decide) rfl ?_
  intro p e s m args below meth c s₁ B hml hv
  obtain ⟨rfl, hK, hP, hE⟩ := hv
  have hx := B.exec
  have hb := B.bytes
  have hr := B.returns
  have hts0 := atoms_spec (ws := (.code ⟨"LightDoses", "flash", "(III)I"⟩ prog_1_method_10_code 4 (some .int) :: TG)) B.pre
  have hts : ∀ w ∈ TG, w.before _ s = true := fun w h => hts0 w (List.mem_cons_of_mem _ h)
  have hown : s.vm.findClass "LightDoses" = some m.cls := findClass_of_methodNamed B.named
  have hlocks := B.notSynchronized
  have hno := nv_noTable B hts0
  have hP : va_P D vwCl [(h0, .inr (7, [.ref x1, .ref y1, .ref al, .ref dy, .ref fl, .ref br, .ref bk, .int (iI fr), .int (iI po)])), (x1, .inr (9, [.ref x2, .int (iI (no : Int)), .int (iI xm)])), (fl, .inr (5, [.ref fl1, .ref fl2, .ref fl3, .int (iI fn)])), (fl1, .inl (cI, 40, .inl (fun k => iI (fo k)))), (fl2, .inl (cI, 40, .inl (fun k => iI (fh k)))), (fl3, .inl (cI, 40, .inl (fun k => iI (fs k))))] s.heap := hP
  have hl := lv_entry ([Value.ref h0, Value.int (iI ob), Value.int (iI hour), Value.int (iI sec)]) (n := 4) (Nat.le_of_ble_eq_true rfl)
  rw [lg_entry_eq]
  generalize (lg_sl ([Value.ref h0, Value.int (iI ob), Value.int (iI hour), Value.int (iI sec)]) ++ List.replicate (4 - (lg_sl ([Value.ref h0, Value.int (iI ob), Value.int (iI hour), Value.int (iI sec)])).length) Slot.unset).toArray = ls at hl ⊢
  have hl : lv_has ls 4 [(0, .ref h0), (1, .int (iI ob)), (2, .int (iI hour)), (3, .int (iI sec))] := hl
  unfold vt_LD_flash at v
  refine lv_iload_n hx hb d_LD_flash_0 rfl (lv_at hl 1 rfl) ?_
  refine lv_aload_n hx hb d_LD_flash_1 rfl (lv_at hl 0 rfl) ?_
  refine va_get (D := D) (ci := 7) (v := .ref x1) (C := "LightDoses") (T := T_LD) (N := 9) hx hb hts in_LD hown hK hP 0 rfl rfl 0 (by decide) (hts _ wd_139) (fun _ h9 => h9) rfl d_LD_flash_2 ?_
  refine vp_callSi (nv_runV (wc := [(x1, .inr (9, [.ref x2, .int (iI (no : Int)), .int (iI xm)]))]) (As := []) (rest := [.int (iI ob)]) ⟨hx, hb, hml, hown, hts⟩ (m_AL_size l D cI cJ cO cZ x1 x2 (no : Int) xm (fun z => z = (no : Int)) (by unfold vc_AL_size; rfl)) (nv_cwV (n := 0) hts wd_179 wd_180 wd_181 wd_4 wd_182 (by decide +kernel) ⟨Nat.le_of_ble_eq_true rfl, Nat.le_of_ble_eq_true rfl⟩) hK (hP.sub [1] rfl) (va_recv hK hP (ci := 9) (q0 := 1) rfl rfl) rfl hl.1 rfl (Nat.le_of_ble_eq_true rfl) d_LD_flash_5 (Nat.le_of_ble_eq_true rfl) (Nat.le_of_ble_eq_true rfl)) (fun r9 hr9 => ?_)
  obtain ⟨_, rfl, rfl⟩ := hr9
  obtain ⟨k1, v⟩ := v
  obtain ⟨k2, v⟩ := v
  by_cases c3 : 0 ≤ ob ∧ ob < (no : Int)
  · replace v := v.1 c3
    refine nv_callSv (nv_runS (wc := []) (As := [.int (iI ob), .int (iI (no : Int))]) (rest := []) ⟨hx, hb, hml, hown, hts⟩ (m_LD_checkIndex l D cI cJ cO cZ ob (no : Int) (s_LD_checkIndex k1 k2 c3)) (nv_cwS (n := 2) hts wd_195 wd_196 wd_1 wd_197 (by decide +kernel) ⟨Nat.le_of_ble_eq_true rfl, Nat.le_of_ble_eq_true rfl⟩) hK (hP.sub [] rfl) rfl hl.1 rfl (Nat.le_of_ble_eq_true rfl) d_LD_flash_8 (Nat.le_of_ble_eq_true rfl) (Nat.le_of_ble_eq_true rfl)) ?_
    refine lv_iload_n hx hb d_LD_flash_11 rfl (lv_at hl 2 rfl) ?_
    refine nv_sipush (z := 26280) hx hb d_LD_flash_12 (by decide) ?_
    obtain ⟨k4, v⟩ := v
    by_cases c5 : 0 ≤ hour ∧ hour < 26280
    · replace v := v.1 c5
      refine nv_callSv (nv_runS (wc := []) (As := [.int (iI hour), .int (iI 26280)]) (rest := []) ⟨hx, hb, hml, hown, hts⟩ (m_LD_checkIndex l D cI cJ cO cZ hour 26280 (s_LD_checkIndex k4 (by decide) c5)) (nv_cwS (n := 2) hts wd_195 wd_196 wd_1 wd_197 (by decide +kernel) ⟨Nat.le_of_ble_eq_true rfl, Nat.le_of_ble_eq_true rfl⟩) hK (hP.sub [] rfl) rfl hl.1 rfl (Nat.le_of_ble_eq_true rfl) d_LD_flash_15 (Nat.le_of_ble_eq_true rfl) (Nat.le_of_ble_eq_true rfl)) ?_
      refine lv_aload_n hx hb d_LD_flash_18 rfl (lv_at hl 0 rfl) ?_
      refine va_get (D := D) (ci := 7) (v := .ref fl) (C := "LightDoses") (T := T_LD) (N := 9) hx hb hts in_LD hown hK hP 0 rfl rfl 4 (by decide) (hts _ wd_143) (fun _ h9 => h9) rfl d_LD_flash_19 ?_
      refine va_get (D := D) (ci := 5) (v := .int (iI fn)) (C := "LightDoses$Flashes") (T := T_Fl) (N := 4) hx hb hts in_Fl hown hK hP 2 rfl rfl 3 (by decide) (hts _ wd_88) (fun _ h9 => h9) rfl d_LD_flash_22 ?_
      refine nv_bipush (z := 40) hx hb d_LD_flash_25 (by decide) ?_
      obtain ⟨k6, v⟩ := v
      refine nv_icmp_lt (tgt := 40) hx hb d_LD_flash_27 (by decide) k6 (by decide) (fun c7 => ?_) (fun c7 => ?_)
      · replace v := v.1 c7
        refine lv_iload_n hx hb d_LD_flash_40 rfl (lv_at hl 3 rfl) ?_
        refine nv_iconst (n := 0) hx hb d_LD_flash_41 ?_
        refine nv_ldc (z := 1000000000) hx hb hown (hts _ wd_439) (by decide) d_LD_flash_42 ?_
        obtain ⟨k8, v⟩ := v
        by_cases c9 : 0 ≤ sec ∧ sec ≤ 1000000000
        · replace v := v.1 c9
          refine nv_callSv (nv_runS (wc := []) (As := [.int (iI sec), .int (iI 0), .int (iI 1000000000)]) (rest := []) ⟨hx, hb, hml, hown, hts⟩ (m_LD_checkArgument l D cI cJ cO cZ sec 0 1000000000 (s_LD_checkArgument k8 (by decide) (by decide) c9)) (nv_cwS (n := 3) hts wd_440 wd_441 wd_1 wd_442 (by decide +kernel) ⟨Nat.le_of_ble_eq_true rfl, Nat.le_of_ble_eq_true rfl⟩) hK (hP.sub [] rfl) rfl hl.1 rfl (Nat.le_of_ble_eq_true rfl) d_LD_flash_44 (Nat.le_of_ble_eq_true rfl) (Nat.le_of_ble_eq_true rfl)) ?_
          exact v.elim
        · have v := v.2 c9
          subst v
          exact nv_thS (wc := []) (As := [.int (iI sec), .int (iI 0), .int (iI 1000000000)]) (rest := []) ⟨hx, hb, hml, hown, hts⟩ (t_LD_checkArgument l D cI cJ cO cZ qd mi Z hZ hfl sec 0 1000000000 "java/lang/IllegalArgumentException" (f_LD_checkArgument k8 (by decide) (by decide) c9)) (nv_cwS (rm := { frames := 6, cells := 1, slots := 6, locals := 90 }) (n := 3) hts wd_440 wd_441 wd_1 wd_442 (by decide +kernel) ⟨Nat.le_of_ble_eq_true rfl, Nat.le_of_ble_eq_true rfl⟩) hK (hP.sub [] rfl) hE rfl hl.1 rfl (Nat.le_of_ble_eq_true rfl) d_LD_flash_44 (Nat.le_of_ble_eq_true rfl) (Nat.le_of_ble_eq_true rfl) hno hlocks
      · replace v := v.2 c7
        subst v
        exact nv_throw (tx := "there are forty flashes") hx hb (hfl _ B.admits) (hml.trans hl.1.symm) hZ hE hts hown (by decide +kernel) th_atS wd_333 wd_15 (by decide +kernel) hno hlocks (Nat.le_of_ble_eq_true rfl) (Nat.le_of_ble_eq_true rfl) (Nat.le_of_ble_eq_true rfl) (Nat.le_of_ble_eq_true rfl) d_LD_flash_30 d_LD_flash_33 d_LD_flash_34 d_LD_flash_36 d_LD_flash_39
    · have v := v.2 c5
      subst v
      exact nv_thS (wc := []) (As := [.int (iI hour), .int (iI 26280)]) (rest := []) ⟨hx, hb, hml, hown, hts⟩ (t_LD_checkIndex l D cI cJ cO cZ qd mi Z hZ hfl hour 26280 "java/lang/IndexOutOfBoundsException" (f_LD_checkIndex k4 (by decide) c5)) (nv_cwS (rm := { frames := 6, cells := 1, slots := 6, locals := 90 }) (n := 2) hts wd_195 wd_196 wd_1 wd_197 (by decide +kernel) ⟨Nat.le_of_ble_eq_true rfl, Nat.le_of_ble_eq_true rfl⟩) hK (hP.sub [] rfl) hE rfl hl.1 rfl (Nat.le_of_ble_eq_true rfl) d_LD_flash_15 (Nat.le_of_ble_eq_true rfl) (Nat.le_of_ble_eq_true rfl) hno hlocks
  · have v := v.2 c3
    subst v
    exact nv_thS (wc := []) (As := [.int (iI ob), .int (iI (no : Int))]) (rest := []) ⟨hx, hb, hml, hown, hts⟩ (t_LD_checkIndex l D cI cJ cO cZ qd mi Z hZ hfl ob (no : Int) "java/lang/IndexOutOfBoundsException" (f_LD_checkIndex k1 k2 c3)) (nv_cwS (rm := { frames := 6, cells := 1, slots := 6, locals := 90 }) (n := 2) hts wd_195 wd_196 wd_1 wd_197 (by decide +kernel) ⟨Nat.le_of_ble_eq_true rfl, Nat.le_of_ble_eq_true rfl⟩) hK (hP.sub [] rfl) hE rfl hl.1 rfl (Nat.le_of_ble_eq_true rfl) d_LD_flash_8 (Nat.le_of_ble_eq_true rfl) (Nat.le_of_ble_eq_true rfl) hno hlocks

theorem d_LD_sum_0 : decode prog_1_method_11_code 0 = .ok (.iload_n 1, 1) := by decide +kernel
theorem d_LD_sum_1 : decode prog_1_method_11_code 1 = .ok (.aload_n 0, 1) := by decide +kernel
theorem d_LD_sum_2 : decode prog_1_method_11_code 2 = .ok (.getfield 12, 3) := by decide +kernel
theorem d_LD_sum_5 : decode prog_1_method_11_code 5 = .ok (.invokevirtual 69, 3) := by decide +kernel
theorem d_LD_sum_8 : decode prog_1_method_11_code 8 = .ok (.invokestatic 65, 3) := by decide +kernel
theorem d_LD_sum_11 : decode prog_1_method_11_code 11 = .ok (.iload_n 3, 1) := by decide +kernel
theorem d_LD_sum_12 : decode prog_1_method_11_code 12 = .ok (.iconst 0, 1) := by decide +kernel
theorem d_LD_sum_13 : decode prog_1_method_11_code 13 = .ok (.sipush 26280, 3) := by decide +kernel
theorem d_LD_sum_16 : decode prog_1_method_11_code 16 = .ok (.invokestatic 90, 3) := by decide +kernel
theorem d_LD_sum_19 : decode prog_1_method_11_code 19 = .ok (.iload_n 2, 1) := by decide +kernel
theorem d_LD_sum_20 : decode prog_1_method_11_code 20 = .ok (.iconst 0, 1) := by decide +kernel
theorem d_LD_sum_21 : decode prog_1_method_11_code 21 = .ok (.iload_n 3, 1) := by decide +kernel
theorem d_LD_sum_22 : decode prog_1_method_11_code 22 = .ok (.invokestatic 90, 3) := by decide +kernel
theorem d_LD_sum_25 : decode prog_1_method_11_code 25 = .ok (.aload_n 0, 1) := by decide +kernel
theorem d_LD_sum_26 : decode prog_1_method_11_code 26 = .ok (.iload_n 1, 1) := by decide +kernel
theorem d_LD_sum_27 : decode prog_1_method_11_code 27 = .ok (.iload_n 2, 1) := by decide +kernel
theorem d_LD_sum_28 : decode prog_1_method_11_code 28 = .ok (.iload_n 3, 1) := by decide +kernel
theorem d_LD_sum_29 : decode prog_1_method_11_code 29 = .ok (.invokevirtual 154, 3) := by decide +kernel
theorem d_LD_sum_32 : decode prog_1_method_11_code 32 = .ok (.lstore 4, 2) := by decide +kernel
theorem d_LD_sum_34 : decode prog_1_method_11_code 34 = .ok (.aload_n 0, 1) := by decide +kernel
theorem d_LD_sum_35 : decode prog_1_method_11_code 35 = .ok (.lload 4, 2) := by decide +kernel
theorem d_LD_sum_37 : decode prog_1_method_11_code 37 = .ok (.ldc2_w 158, 3) := by decide +kernel
theorem d_LD_sum_40 : decode prog_1_method_11_code 40 = .ok (.lrem, 1) := by decide +kernel
theorem d_LD_sum_41 : decode prog_1_method_11_code 41 = .ok (.l2i, 1) := by decide +kernel
theorem d_LD_sum_42 : decode prog_1_method_11_code 42 = .ok (.putfield 61, 3) := by decide +kernel
theorem d_LD_sum_45 : decode prog_1_method_11_code 45 = .ok (.lload 4, 2) := by decide +kernel
theorem d_LD_sum_47 : decode prog_1_method_11_code 47 = .ok (.ldc2_w 158, 3) := by decide +kernel
theorem d_LD_sum_50 : decode prog_1_method_11_code 50 = .ok (.ldiv, 1) := by decide +kernel
theorem d_LD_sum_51 : decode prog_1_method_11_code 51 = .ok (.l2i, 1) := by decide +kernel
theorem d_LD_sum_52 : decode prog_1_method_11_code 52 = .ok (.ireturn, 1) := by decide +kernel
def vt_LD_sum (fr : Int) (po : Int) (no : Nat) (xm : Int) (ob : Int) (from_ : Int) (to_ : Int) (X : String) : Prop := (r32 ob) ∧ ((r32 (no : Int)) ∧ (((0 ≤ ob ∧ ob < (no : Int)) → (r32 to_) ∧ (((0 ≤ to_ ∧ to_ ≤ 26280) → (r32 from_) ∧ (((0 ≤ from_ ∧ from_ ≤ to_) → False) ∧ (¬ (0 ≤ from_ ∧ from_ ≤ to_) → X = "java/lang/IllegalArgumentException"))) ∧ (¬ (0 ≤ to_ ∧ to_ ≤ 26280) → X = "java/lang/IllegalArgumentException"))) ∧ (¬ (0 ≤ ob ∧ ob < (no : Int)) → X = "java/lang/IndexOutOfBoundsException")))
set_option maxHeartbeats 4000000 in
set_option maxRecDepth 100000 in
theorem t_LD_sum (l : Launch) (D : va_G) (cI cJ cO cZ : ClassId) (qd mi : Nat) (Z : State) (hZ : EvZ qd mi Z) (hfl : ∀ e : Env, l.admits e → e.platform.stackTraces = false) (h0 x1 y1 al dy fl br bk x2 : Nat) (fr : Int) (po : Int) (no : Nat) (xm : Int) (ob : Int) (from_ : Int) (to_ : Int) (X : String) (v : vt_LD_sum fr po no xm ob from_ to_ X) : MetT l ⟨"LightDoses", "sum", "(III)I"⟩ (.code ⟨"LightDoses", "sum", "(III)I"⟩ prog_1_method_11_code 6 (some .int) :: TG) { frames := 7, cells := 1, slots := 6, locals := 144 } (va_Pc [.ref h0, .int (iI ob), .int (iI from_), .int (iI to_)] (fun U => va_K D vwCl (tyx cI cJ cO cZ) U ∧ va_P D vwCl [(h0, .inr (7, [.ref x1, .ref y1, .ref al, .ref dy, .ref fl, .ref br, .ref bk, .int (iI fr), .int (iI po)])), (x1, .inr (9, [.ref x2, .int (iI (no : Int)), .int (iI xm)]))] U.heap ∧ Ev Z U)) (th_X X) 1 6 (fun _ => False) := by
  refine MetT.ofW (cc := prog_1_method_11_code) (maxL := 6) (ret := (some .int)) (by decide) rfl ?_
  intro p e s m args below meth c s₁ B hml hv
  obtain ⟨rfl, hK, hP, hE⟩ := hv
  have hx := B.exec
  have hb := B.bytes
  have hr := B.returns
  have hts0 := atoms_spec (ws := (.code ⟨"LightDoses", "sum", "(III)I"⟩ prog_1_method_11_code 6 (some .int) :: TG)) B.pre
  have hts : ∀ w ∈ TG, w.before _ s = true := fun w h => hts0 w (List.mem_cons_of_mem _ h)
  have hown : s.vm.findClass "LightDoses" = some m.cls := findClass_of_methodNamed B.named
  have hlocks := B.notSynchronized
  have hno := nv_noTable B hts0
  have hP : va_P D vwCl [(h0, .inr (7, [.ref x1, .ref y1, .ref al, .ref dy, .ref fl, .ref br, .ref bk, .int (iI fr), .int (iI po)])), (x1, .inr (9, [.ref x2, .int (iI (no : Int)), .int (iI xm)]))] s.heap := hP
  have hl := lv_entry ([Value.ref h0, Value.int (iI ob), Value.int (iI from_), Value.int (iI to_)]) (n := 6) (Nat.le_of_ble_eq_true rfl)
  rw [lg_entry_eq]
  generalize (lg_sl ([Value.ref h0, Value.int (iI ob), Value.int (iI from_), Value.int (iI to_)]) ++ List.replicate (6 - (lg_sl ([Value.ref h0, Value.int (iI ob), Value.int (iI from_), Value.int (iI to_)])).length) Slot.unset).toArray = ls at hl ⊢
  have hl : lv_has ls 6 [(0, .ref h0), (1, .int (iI ob)), (2, .int (iI from_)), (3, .int (iI to_))] := hl
  unfold vt_LD_sum at v
  refine lv_iload_n hx hb d_LD_sum_0 rfl (lv_at hl 1 rfl) ?_
  refine lv_aload_n hx hb d_LD_sum_1 rfl (lv_at hl 0 rfl) ?_
  refine va_get (D := D) (ci := 7) (v := .ref x1) (C := "LightDoses") (T := T_LD) (N := 9) hx hb hts in_LD hown hK hP 0 rfl rfl 0 (by decide) (hts _ wd_139) (fun _ h9 => h9) rfl d_LD_sum_2 ?_
  refine vp_callSi (nv_runV (wc := [(x1, .inr (9, [.ref x2, .int (iI (no : Int)), .int (iI xm)]))]) (As := []) (rest := [.int (iI ob)]) ⟨hx, hb, hml, hown, hts⟩ (m_AL_size l D cI cJ cO cZ x1 x2 (no : Int) xm (fun z => z = (no : Int)) (by unfold vc_AL_size; rfl)) (nv_cwV (n := 0) hts wd_179 wd_180 wd_181 wd_4 wd_182 (by decide +kernel) ⟨Nat.le_of_ble_eq_true rfl, Nat.le_of_ble_eq_true rfl⟩) hK (hP.sub [1] rfl) (va_recv hK hP (ci := 9) (q0 := 1) rfl rfl) rfl hl.1 rfl (Nat.le_of_ble_eq_true rfl) d_LD_sum_5 (Nat.le_of_ble_eq_true rfl) (Nat.le_of_ble_eq_true rfl)) (fun r9 hr9 => ?_)
  obtain ⟨_, rfl, rfl⟩ := hr9
  obtain ⟨k1, v⟩ := v
  obtain ⟨k2, v⟩ := v
  by_cases c3 : 0 ≤ ob ∧ ob < (no : Int)
  · replace v := v.1 c3
    refine nv_callSv (nv_runS (wc := []) (As := [.int (iI ob), .int (iI (no : Int))]) (rest := []) ⟨hx, hb, hml, hown, hts⟩ (m_LD_checkIndex l D cI cJ cO cZ ob (no : Int) (s_LD_checkIndex k1 k2 c3)) (nv_cwS (n := 2) hts wd_195 wd_196 wd_1 wd_197 (by decide +kernel) ⟨Nat.le_of_ble_eq_true rfl, Nat.le_of_ble_eq_true rfl⟩) hK (hP.sub [] rfl) rfl hl.1 rfl (Nat.le_of_ble_eq_true rfl) d_LD_sum_8 (Nat.le_of_ble_eq_true rfl) (Nat.le_of_ble_eq_true rfl)) ?_
    refine lv_iload_n hx hb d_LD_sum_11 rfl (lv_at hl 3 rfl) ?_
    refine nv_iconst (n := 0) hx hb d_LD_sum_12 ?_
    refine nv_sipush (z := 26280) hx hb d_LD_sum_13 (by decide) ?_
    obtain ⟨k4, v⟩ := v
    by_cases c5 : 0 ≤ to_ ∧ to_ ≤ 26280
    · replace v := v.1 c5
      refine nv_callSv (nv_runS (wc := []) (As := [.int (iI to_), .int (iI 0), .int (iI 26280)]) (rest := []) ⟨hx, hb, hml, hown, hts⟩ (m_LD_checkArgument l D cI cJ cO cZ to_ 0 26280 (s_LD_checkArgument k4 (by decide) (by decide) c5)) (nv_cwS (n := 3) hts wd_440 wd_441 wd_1 wd_442 (by decide +kernel) ⟨Nat.le_of_ble_eq_true rfl, Nat.le_of_ble_eq_true rfl⟩) hK (hP.sub [] rfl) rfl hl.1 rfl (Nat.le_of_ble_eq_true rfl) d_LD_sum_16 (Nat.le_of_ble_eq_true rfl) (Nat.le_of_ble_eq_true rfl)) ?_
      refine lv_iload_n hx hb d_LD_sum_19 rfl (lv_at hl 2 rfl) ?_
      refine nv_iconst (n := 0) hx hb d_LD_sum_20 ?_
      refine lv_iload_n hx hb d_LD_sum_21 rfl (lv_at hl 3 rfl) ?_
      obtain ⟨k6, v⟩ := v
      by_cases c7 : 0 ≤ from_ ∧ from_ ≤ to_
      · replace v := v.1 c7
        refine nv_callSv (nv_runS (wc := []) (As := [.int (iI from_), .int (iI 0), .int (iI to_)]) (rest := []) ⟨hx, hb, hml, hown, hts⟩ (m_LD_checkArgument l D cI cJ cO cZ from_ 0 to_ (s_LD_checkArgument k6 (by decide) k4 c7)) (nv_cwS (n := 3) hts wd_440 wd_441 wd_1 wd_442 (by decide +kernel) ⟨Nat.le_of_ble_eq_true rfl, Nat.le_of_ble_eq_true rfl⟩) hK (hP.sub [] rfl) rfl hl.1 rfl (Nat.le_of_ble_eq_true rfl) d_LD_sum_22 (Nat.le_of_ble_eq_true rfl) (Nat.le_of_ble_eq_true rfl)) ?_
        exact v.elim
      · have v := v.2 c7
        subst v
        exact nv_thS (wc := []) (As := [.int (iI from_), .int (iI 0), .int (iI to_)]) (rest := []) ⟨hx, hb, hml, hown, hts⟩ (t_LD_checkArgument l D cI cJ cO cZ qd mi Z hZ hfl from_ 0 to_ "java/lang/IllegalArgumentException" (f_LD_checkArgument k6 (by decide) k4 c7)) (nv_cwS (rm := { frames := 6, cells := 1, slots := 6, locals := 90 }) (n := 3) hts wd_440 wd_441 wd_1 wd_442 (by decide +kernel) ⟨Nat.le_of_ble_eq_true rfl, Nat.le_of_ble_eq_true rfl⟩) hK (hP.sub [] rfl) hE rfl hl.1 rfl (Nat.le_of_ble_eq_true rfl) d_LD_sum_22 (Nat.le_of_ble_eq_true rfl) (Nat.le_of_ble_eq_true rfl) hno hlocks
    · have v := v.2 c5
      subst v
      exact nv_thS (wc := []) (As := [.int (iI to_), .int (iI 0), .int (iI 26280)]) (rest := []) ⟨hx, hb, hml, hown, hts⟩ (t_LD_checkArgument l D cI cJ cO cZ qd mi Z hZ hfl to_ 0 26280 "java/lang/IllegalArgumentException" (f_LD_checkArgument k4 (by decide) (by decide) c5)) (nv_cwS (rm := { frames := 6, cells := 1, slots := 6, locals := 90 }) (n := 3) hts wd_440 wd_441 wd_1 wd_442 (by decide +kernel) ⟨Nat.le_of_ble_eq_true rfl, Nat.le_of_ble_eq_true rfl⟩) hK (hP.sub [] rfl) hE rfl hl.1 rfl (Nat.le_of_ble_eq_true rfl) d_LD_sum_16 (Nat.le_of_ble_eq_true rfl) (Nat.le_of_ble_eq_true rfl) hno hlocks
  · have v := v.2 c3
    subst v
    exact nv_thS (wc := []) (As := [.int (iI ob), .int (iI (no : Int))]) (rest := []) ⟨hx, hb, hml, hown, hts⟩ (t_LD_checkIndex l D cI cJ cO cZ qd mi Z hZ hfl ob (no : Int) "java/lang/IndexOutOfBoundsException" (f_LD_checkIndex k1 k2 c3)) (nv_cwS (rm := { frames := 6, cells := 1, slots := 6, locals := 90 }) (n := 2) hts wd_195 wd_196 wd_1 wd_197 (by decide +kernel) ⟨Nat.le_of_ble_eq_true rfl, Nat.le_of_ble_eq_true rfl⟩) hK (hP.sub [] rfl) hE rfl hl.1 rfl (Nat.le_of_ble_eq_true rfl) d_LD_sum_8 (Nat.le_of_ble_eq_true rfl) (Nat.le_of_ble_eq_true rfl) hno hlocks

def vt_LD_left (fr : Int) (po : Int) (no : Nat) (xm : Int) (ob : Int) (yr : Int) (X : String) : Prop := (r32 ob) ∧ ((r32 (no : Int)) ∧ (((0 ≤ ob ∧ ob < (no : Int)) → False) ∧ (¬ (0 ≤ ob ∧ ob < (no : Int)) → X = "java/lang/IndexOutOfBoundsException")))
set_option maxHeartbeats 4000000 in
set_option maxRecDepth 100000 in
theorem t_LD_left (l : Launch) (D : va_G) (cI cJ cO cZ : ClassId) (qd mi : Nat) (Z : State) (hZ : EvZ qd mi Z) (hfl : ∀ e : Env, l.admits e → e.platform.stackTraces = false) (h0 x1 y1 al dy fl br bk x2 : Nat) (fr : Int) (po : Int) (no : Nat) (xm : Int) (ob : Int) (yr : Int) (X : String) (v : vt_LD_left fr po no xm ob yr X) : MetT l ⟨"LightDoses", "left", "(II)I"⟩ (.code ⟨"LightDoses", "left", "(II)I"⟩ prog_1_method_13_code 4 (some .int) :: TG) { frames := 8, cells := 1, slots := 6, locals := 167 } (va_Pc [.ref h0, .int (iI ob), .int (iI yr)] (fun U => va_K D vwCl (tyx cI cJ cO cZ) U ∧ va_P D vwCl [(h0, .inr (7, [.ref x1, .ref y1, .ref al, .ref dy, .ref fl, .ref br, .ref bk, .int (iI fr), .int (iI po)])), (x1, .inr (9, [.ref x2, .int (iI (no : Int)), .int (iI xm)]))] U.heap ∧ Ev Z U)) (th_X X) 1 6 (fun _ => False) := by
  refine MetT.ofW (cc := prog_1_method_13_code) (maxL := 4) (ret := (some .int)) (by decide) rfl ?_
  intro p e s m args below meth c s₁ B hml hv
  obtain ⟨rfl, hK, hP, hE⟩ := hv
  have hx := B.exec
  have hb := B.bytes
  have hr := B.returns
  have hts0 := atoms_spec (ws := (.code ⟨"LightDoses", "left", "(II)I"⟩ prog_1_method_13_code 4 (some .int) :: TG)) B.pre
  have hts : ∀ w ∈ TG, w.before _ s = true := fun w h => hts0 w (List.mem_cons_of_mem _ h)
  have hown : s.vm.findClass "LightDoses" = some m.cls := findClass_of_methodNamed B.named
  have hlocks := B.notSynchronized
  have hno := nv_noTable B hts0
  have hP : va_P D vwCl [(h0, .inr (7, [.ref x1, .ref y1, .ref al, .ref dy, .ref fl, .ref br, .ref bk, .int (iI fr), .int (iI po)])), (x1, .inr (9, [.ref x2, .int (iI (no : Int)), .int (iI xm)]))] s.heap := hP
  have hl := lv_entry ([Value.ref h0, Value.int (iI ob), Value.int (iI yr)]) (n := 4) (Nat.le_of_ble_eq_true rfl)
  rw [lg_entry_eq]
  generalize (lg_sl ([Value.ref h0, Value.int (iI ob), Value.int (iI yr)]) ++ List.replicate (4 - (lg_sl ([Value.ref h0, Value.int (iI ob), Value.int (iI yr)])).length) Slot.unset).toArray = ls at hl ⊢
  have hl : lv_has ls 4 [(0, .ref h0), (1, .int (iI ob)), (2, .int (iI yr))] := hl
  unfold vt_LD_left at v
  refine lv_aload_n hx hb d_LD_left_0 rfl (lv_at hl 0 rfl) ?_
  refine lv_iload_n hx hb d_LD_left_1 rfl (lv_at hl 1 rfl) ?_
  obtain ⟨k2, v⟩ := v
  obtain ⟨k3, v⟩ := v
  by_cases c1 : 0 ≤ ob ∧ ob < (no : Int)
  · exact (v.1 c1).elim
  · have v := v.2 c1
    subst v
    exact nv_thV (wc := [(h0, .inr (7, [.ref x1, .ref y1, .ref al, .ref dy, .ref fl, .ref br, .ref bk, .int (iI fr), .int (iI po)])), (x1, .inr (9, [.ref x2, .int (iI (no : Int)), .int (iI xm)]))]) (As := [.int (iI ob)]) (rest := []) ⟨hx, hb, hml, hown, hts⟩ (t_LD_exhibitOf l D cI cJ cO cZ qd mi Z hZ hfl h0 x1 y1 al dy fl br bk x2 fr po no xm ob "java/lang/IndexOutOfBoundsException" (f_LD_exhibitOf k2 k3 c1)) (nv_cwV (rm := { frames := 7, cells := 1, slots := 6, locals := 111 }) (n := 1) hts wd_191 wd_193 sl_3 wd_1 wd_194 (by decide +kernel) ⟨Nat.le_of_ble_eq_true rfl, Nat.le_of_ble_eq_true rfl⟩) hK (hP.sub [0, 1] rfl) hE (va_recv hK hP (ci := 7) (q0 := 0) rfl rfl) rfl hl.1 rfl (Nat.le_of_ble_eq_true rfl) d_LD_left_2 (Nat.le_of_ble_eq_true rfl) (Nat.le_of_ble_eq_true rfl) hno hlocks

def vt_LD_left2 (fr : Int) (po : Int) (no : Nat) (xm : Int) (xc : Nat) (xf : Nat → Option Nat) (kd : Int) (es : Nat → Int) (ef : Nat → Int) (et : Nat → Int) (en : Int) (ob : Nat) (yr : Int) (X : String) : Prop := (vc_LD_exhibitOf fr po no xm xc xf kd es ef et en ob) ∧ ((r32 yr) ∧ (((0 ≤ yr ∧ yr < 3) → False) ∧ (¬ (0 ≤ yr ∧ yr < 3) → X = "java/lang/IndexOutOfBoundsException")))
set_option maxHeartbeats 4000000 in
set_option maxRecDepth 100000 in
theorem t_LD_left2 (l : Launch) (D : va_G) (cI cJ cO cZ : ClassId) (qd mi : Nat) (Z : State) (hZ : EvZ qd mi Z) (hfl : ∀ e : Env, l.admits e → e.platform.stackTraces = false) (h0 x1 y1 al dy fl br bk x2 e0 e1 e2 e3 : Nat) (fr : Int) (po : Int) (no : Nat) (xm : Int) (xc : Nat) (xf : Nat → Option Nat) (kd : Int) (es : Nat → Int) (ef : Nat → Int) (et : Nat → Int) (en : Int) (ob : Nat) (yr : Int) (hxf : xf ob = some e0) (hob : ob < no) (hxn : no ≤ xc) (hxc : xc < 1000000) (X : String) (v : vt_LD_left2 fr po no xm xc xf kd es ef et en ob yr X) : MetT l ⟨"LightDoses", "left", "(II)I"⟩ (.code ⟨"LightDoses", "left", "(II)I"⟩ prog_1_method_13_code 4 (some .int) :: TG) { frames := 8, cells := 1, slots := 6, locals := 167 } (va_Pc [.ref h0, .int (iI (ob : Int)), .int (iI yr)] (fun U => va_K D vwCl (tyx cI cJ cO cZ) U ∧ va_P D vwCl [(h0, .inr (7, [.ref x1, .ref y1, .ref al, .ref dy, .ref fl, .ref br, .ref bk, .int (iI fr), .int (iI po)])), (x1, .inr (9, [.ref x2, .int (iI (no : Int)), .int (iI xm)])), (x2, .inl (cO, xc, .inr (.inr (.inr (.inr xf))))), (e0, .inr (4, [.int (iI kd), .ref e1, .ref e2, .ref e3, .int (iI en)])), (e1, .inl (cI, 8, .inl (fun k => iI (es k)))), (e2, .inl (cI, 16, .inl (fun k => iI (ef k)))), (e3, .inl (cI, 16, .inl (fun k => iI (et k))))] U.heap ∧ Ev Z U)) (th_X X) 1 6 (fun _ => False) := by
  refine MetT.ofW (cc := prog_1_method_13_code) (maxL := 4) (ret := (some .int)) (by decide) rfl ?_
  intro p e s m args below meth c s₁ B hml hv
  obtain ⟨rfl, hK, hP, hE⟩ := hv
  have hx := B.exec
  have hb := B.bytes
  have hr := B.returns
  have hts0 := atoms_spec (ws := (.code ⟨"LightDoses", "left", "(II)I"⟩ prog_1_method_13_code 4 (some .int) :: TG)) B.pre
  have hts : ∀ w ∈ TG, w.before _ s = true := fun w h => hts0 w (List.mem_cons_of_mem _ h)
  have hown : s.vm.findClass "LightDoses" = some m.cls := findClass_of_methodNamed B.named
  have hlocks := B.notSynchronized
  have hno := nv_noTable B hts0
  have hP : va_P D vwCl [(h0, .inr (7, [.ref x1, .ref y1, .ref al, .ref dy, .ref fl, .ref br, .ref bk, .int (iI fr), .int (iI po)])), (x1, .inr (9, [.ref x2, .int (iI (no : Int)), .int (iI xm)])), (x2, .inl (cO, xc, .inr (.inr (.inr (.inr xf))))), (e0, .inr (4, [.int (iI kd), .ref e1, .ref e2, .ref e3, .int (iI en)])), (e1, .inl (cI, 8, .inl (fun k => iI (es k)))), (e2, .inl (cI, 16, .inl (fun k => iI (ef k)))), (e3, .inl (cI, 16, .inl (fun k => iI (et k))))] s.heap := hP
  have hl := lv_entry ([Value.ref h0, Value.int (iI (ob : Int)), Value.int (iI yr)]) (n := 4) (Nat.le_of_ble_eq_true rfl)
  rw [lg_entry_eq]
  generalize (lg_sl ([Value.ref h0, Value.int (iI (ob : Int)), Value.int (iI yr)]) ++ List.replicate (4 - (lg_sl ([Value.ref h0, Value.int (iI (ob : Int)), Value.int (iI yr)])).length) Slot.unset).toArray = ls at hl ⊢
  have hl : lv_has ls 4 [(0, .ref h0), (1, .int (iI (ob : Int))), (2, .int (iI yr))] := hl
  unfold vt_LD_left2 at v
  refine lv_aload_n hx hb d_LD_left_0 rfl (lv_at hl 0 rfl) ?_
  refine lv_iload_n hx hb d_LD_left_1 rfl (lv_at hl 1 rfl) ?_
  obtain ⟨q1, v⟩ := v
  refine va_csr (nv_runV (wc := [(h0, .inr (7, [.ref x1, .ref y1, .ref al, .ref dy, .ref fl, .ref br, .ref bk, .int (iI fr), .int (iI po)])), (x1, .inr (9, [.ref x2, .int (iI (no : Int)), .int (iI xm)])), (x2, .inl (cO, xc, .inr (.inr (.inr (.inr xf))))), (e0, .inr (4, [.int (iI kd), .ref e1, .ref e2, .ref e3, .int (iI en)])), (e1, .inl (cI, 8, .inl (fun k => iI (es k)))), (e2, .inl (cI, 16, .inl (fun k => iI (ef k)))), (e3, .inl (cI, 16, .inl (fun k => iI (et k))))]) (As := [.int (iI (ob : Int))]) (rest := []) ⟨hx, hb, hml, hown, hts⟩ (m_LD_exhibitOf l D cI cJ cO cZ h0 x1 y1 al dy fl br bk x2 e0 e1 e2 e3 fr po no xm xc xf kd es ef et en ob hxf hob hxn hxc q1) (nv_cwV (n := 1) hts wd_191 wd_193 sl_3 wd_1 wd_194 (by decide +kernel) ⟨Nat.le_of_ble_eq_true rfl, Nat.le_of_ble_eq_true rfl⟩) hK (hP.sub [0, 1, 2, 3, 4, 5, 6] rfl) (va_recv hK hP (ci := 7) (q0 := 0) rfl rfl) rfl hl.1 rfl (Nat.le_of_ble_eq_true rfl) d_LD_left_2 (Nat.le_of_ble_eq_true rfl) (Nat.le_of_ble_eq_true rfl)) (fun r9 hr9 => ?_)
  have hr9 : r9 = e0 := hr9
  rw [hr9]
  refine lv_astore_n (lv' := [(3, .ref e0), (0, .ref h0), (1, .int (iI (ob : Int))), (2, .int (iI yr))]) hx hb d_LD_left_5 rfl hl (by decide) rfl (fun ls hl => ?_)
  refine lv_iload_n hx hb d_LD_left_6 rfl (lv_at hl 3 rfl) ?_
  refine nv_iconst (n := 3) hx hb d_LD_left_7 ?_
  obtain ⟨k2, v⟩ := v
  by_cases c3 : 0 ≤ yr ∧ yr < 3
  · replace v := v.1 c3
    refine nv_callSv (nv_runS (wc := []) (As := [.int (iI yr), .int (iI 3)]) (rest := []) ⟨hx, hb, hml, hown, hts⟩ (m_LD_checkIndex l D cI cJ cO cZ yr 3 (s_LD_checkIndex k2 (by decide) c3)) (nv_cwS (n := 2) hts wd_195 wd_196 wd_1 wd_197 (by decide +kernel) ⟨Nat.le_of_ble_eq_true rfl, Nat.le_of_ble_eq_true rfl⟩) hK (hP.sub [] rfl) rfl hl.1 rfl (Nat.le_of_ble_eq_true rfl) d_LD_left_8 (Nat.le_of_ble_eq_true rfl) (Nat.le_of_ble_eq_true rfl)) ?_
    exact v.elim
  · have v := v.2 c3
    subst v
    exact nv_thS (wc := []) (As := [.int (iI yr), .int (iI 3)]) (rest := []) ⟨hx, hb, hml, hown, hts⟩ (t_LD_checkIndex l D cI cJ cO cZ qd mi Z hZ hfl yr 3 "java/lang/IndexOutOfBoundsException" (f_LD_checkIndex k2 (by decide) c3)) (nv_cwS (rm := { frames := 6, cells := 1, slots := 6, locals := 90 }) (n := 2) hts wd_195 wd_196 wd_1 wd_197 (by decide +kernel) ⟨Nat.le_of_ble_eq_true rfl, Nat.le_of_ble_eq_true rfl⟩) hK (hP.sub [] rfl) hE rfl hl.1 rfl (Nat.le_of_ble_eq_true rfl) d_LD_left_8 (Nat.le_of_ble_eq_true rfl) (Nat.le_of_ble_eq_true rfl) hno hlocks

def vt_LD_plan (fr : Int) (po : Int) (no : Nat) (xm : Int) (ob : Int) (from_ : Int) (to_ : Int) (X : String) : Prop := (r32 ob) ∧ ((r32 (no : Int)) ∧ (((0 ≤ ob ∧ ob < (no : Int)) → (r32 from_) ∧ (((0 ≤ from_ ∧ from_ < 26280) → (r32 to_) ∧ (((from_ < to_ ∧ to_ ≤ 26280) → False) ∧ (¬ (from_ < to_ ∧ to_ ≤ 26280) → X = "java/lang/IllegalArgumentException"))) ∧ (¬ (0 ≤ from_ ∧ from_ < 26280) → X = "java/lang/IndexOutOfBoundsException"))) ∧ (¬ (0 ≤ ob ∧ ob < (no : Int)) → X = "java/lang/IndexOutOfBoundsException")))
set_option maxHeartbeats 4000000 in
set_option maxRecDepth 100000 in
theorem t_LD_plan (l : Launch) (D : va_G) (cI cJ cO cZ : ClassId) (qd mi : Nat) (Z : State) (hZ : EvZ qd mi Z) (hfl : ∀ e : Env, l.admits e → e.platform.stackTraces = false) (h0 x1 y1 al dy fl br bk x2 : Nat) (fr : Int) (po : Int) (no : Nat) (xm : Int) (ob : Int) (from_ : Int) (to_ : Int) (X : String) (v : vt_LD_plan fr po no xm ob from_ to_ X) : MetT l ⟨"LightDoses", "plan", "(III)I"⟩ (.code ⟨"LightDoses", "plan", "(III)I"⟩ prog_1_method_14_code 7 (some .int) :: TG) { frames := 8, cells := 1, slots := 6, locals := 196 } (va_Pc [.ref h0, .int (iI ob), .int (iI from_), .int (iI to_)] (fun U => va_K D vwCl (tyx cI cJ cO cZ) U ∧ va_P D vwCl [(h0, .inr (7, [.ref x1, .ref y1, .ref al, .ref dy, .ref fl, .ref br, .ref bk, .int (iI fr), .int (iI po)])), (x1, .inr (9, [.ref x2, .int (iI (no : Int)), .int (iI xm)]))] U.heap ∧ Ev Z U)) (th_X X) 1 6 (fun _ => False) := by
  refine MetT.ofW (cc := prog_1_method_14_code) (maxL := 7) (ret := (some .int)) (by decide) rfl ?_
  intro p e s m args below meth c s₁ B hml hv
  obtain ⟨rfl, hK, hP, hE⟩ := hv
  have hx := B.exec
  have hb := B.bytes
  have hr := B.returns
  have hts0 := atoms_spec (ws := (.code ⟨"LightDoses", "plan", "(III)I"⟩ prog_1_method_14_code 7 (some .int) :: TG)) B.pre
  have hts : ∀ w ∈ TG, w.before _ s = true := fun w h => hts0 w (List.mem_cons_of_mem _ h)
  have hown : s.vm.findClass "LightDoses" = some m.cls := findClass_of_methodNamed B.named
  have hlocks := B.notSynchronized
  have hno := nv_noTable B hts0
  have hP : va_P D vwCl [(h0, .inr (7, [.ref x1, .ref y1, .ref al, .ref dy, .ref fl, .ref br, .ref bk, .int (iI fr), .int (iI po)])), (x1, .inr (9, [.ref x2, .int (iI (no : Int)), .int (iI xm)]))] s.heap := hP
  have hl := lv_entry ([Value.ref h0, Value.int (iI ob), Value.int (iI from_), Value.int (iI to_)]) (n := 7) (Nat.le_of_ble_eq_true rfl)
  rw [lg_entry_eq]
  generalize (lg_sl ([Value.ref h0, Value.int (iI ob), Value.int (iI from_), Value.int (iI to_)]) ++ List.replicate (7 - (lg_sl ([Value.ref h0, Value.int (iI ob), Value.int (iI from_), Value.int (iI to_)])).length) Slot.unset).toArray = ls at hl ⊢
  have hl : lv_has ls 7 [(0, .ref h0), (1, .int (iI ob)), (2, .int (iI from_)), (3, .int (iI to_))] := hl
  unfold vt_LD_plan at v
  refine lv_iload_n hx hb d_LD_plan_0 rfl (lv_at hl 1 rfl) ?_
  refine lv_aload_n hx hb d_LD_plan_1 rfl (lv_at hl 0 rfl) ?_
  refine va_get (D := D) (ci := 7) (v := .ref x1) (C := "LightDoses") (T := T_LD) (N := 9) hx hb hts in_LD hown hK hP 0 rfl rfl 0 (by decide) (hts _ wd_139) (fun _ h9 => h9) rfl d_LD_plan_2 ?_
  refine vp_callSi (nv_runV (wc := [(x1, .inr (9, [.ref x2, .int (iI (no : Int)), .int (iI xm)]))]) (As := []) (rest := [.int (iI ob)]) ⟨hx, hb, hml, hown, hts⟩ (m_AL_size l D cI cJ cO cZ x1 x2 (no : Int) xm (fun z => z = (no : Int)) (by unfold vc_AL_size; rfl)) (nv_cwV (n := 0) hts wd_179 wd_180 wd_181 wd_4 wd_182 (by decide +kernel) ⟨Nat.le_of_ble_eq_true rfl, Nat.le_of_ble_eq_true rfl⟩) hK (hP.sub [1] rfl) (va_recv hK hP (ci := 9) (q0 := 1) rfl rfl) rfl hl.1 rfl (Nat.le_of_ble_eq_true rfl) d_LD_plan_5 (Nat.le_of_ble_eq_true rfl) (Nat.le_of_ble_eq_true rfl)) (fun r9 hr9 => ?_)
  obtain ⟨_, rfl, rfl⟩ := hr9
  obtain ⟨k1, v⟩ := v
  obtain ⟨k2, v⟩ := v
  by_cases c3 : 0 ≤ ob ∧ ob < (no : Int)
  · replace v := v.1 c3
    refine nv_callSv (nv_runS (wc := []) (As := [.int (iI ob), .int (iI (no : Int))]) (rest := []) ⟨hx, hb, hml, hown, hts⟩ (m_LD_checkIndex l D cI cJ cO cZ ob (no : Int) (s_LD_checkIndex k1 k2 c3)) (nv_cwS (n := 2) hts wd_195 wd_196 wd_1 wd_197 (by decide +kernel) ⟨Nat.le_of_ble_eq_true rfl, Nat.le_of_ble_eq_true rfl⟩) hK (hP.sub [] rfl) rfl hl.1 rfl (Nat.le_of_ble_eq_true rfl) d_LD_plan_8 (Nat.le_of_ble_eq_true rfl) (Nat.le_of_ble_eq_true rfl)) ?_
    refine lv_iload_n hx hb d_LD_plan_11 rfl (lv_at hl 2 rfl) ?_
    refine nv_sipush (z := 26280) hx hb d_LD_plan_12 (by decide) ?_
    obtain ⟨k4, v⟩ := v
    by_cases c5 : 0 ≤ from_ ∧ from_ < 26280
    · replace v := v.1 c5
      refine nv_callSv (nv_runS (wc := []) (As := [.int (iI from_), .int (iI 26280)]) (rest := []) ⟨hx, hb, hml, hown, hts⟩ (m_LD_checkIndex l D cI cJ cO cZ from_ 26280 (s_LD_checkIndex k4 (by decide) c5)) (nv_cwS (n := 2) hts wd_195 wd_196 wd_1 wd_197 (by decide +kernel) ⟨Nat.le_of_ble_eq_true rfl, Nat.le_of_ble_eq_true rfl⟩) hK (hP.sub [] rfl) rfl hl.1 rfl (Nat.le_of_ble_eq_true rfl) d_LD_plan_15 (Nat.le_of_ble_eq_true rfl) (Nat.le_of_ble_eq_true rfl)) ?_
      refine lv_iload_n hx hb d_LD_plan_18 rfl (lv_at hl 2 rfl) ?_
      refine lv_iload_n hx hb d_LD_plan_19 rfl (lv_at hl 3 rfl) ?_
      obtain ⟨k6, v⟩ := v
      by_cases c7 : from_ < to_ ∧ to_ ≤ 26280
      · replace v := v.1 c7
        refine nv_callSv (nv_runS (wc := []) (As := [.int (iI from_), .int (iI to_)]) (rest := []) ⟨hx, hb, hml, hown, hts⟩ (m_LD_checkEnd l D cI cJ cO cZ from_ to_ (s_LD_checkEnd k4 k6 c7)) (nv_cwS (n := 2) hts wd_556 wd_557 wd_1 wd_558 (by decide +kernel) ⟨Nat.le_of_ble_eq_true rfl, Nat.le_of_ble_eq_true rfl⟩) hK (hP.sub [] rfl) rfl hl.1 rfl (Nat.le_of_ble_eq_true rfl) d_LD_plan_20 (Nat.le_of_ble_eq_true rfl) (Nat.le_of_ble_eq_true rfl)) ?_
        exact v.elim
      · have v := v.2 c7
        subst v
        exact nv_thS (wc := []) (As := [.int (iI from_), .int (iI to_)]) (rest := []) ⟨hx, hb, hml, hown, hts⟩ (t_LD_checkEnd l D cI cJ cO cZ qd mi Z hZ hfl from_ to_ "java/lang/IllegalArgumentException" (f_LD_checkEnd k4 k6 c7)) (nv_cwS (rm := { frames := 6, cells := 1, slots := 6, locals := 90 }) (n := 2) hts wd_556 wd_557 wd_1 wd_558 (by decide +kernel) ⟨Nat.le_of_ble_eq_true rfl, Nat.le_of_ble_eq_true rfl⟩) hK (hP.sub [] rfl) hE rfl hl.1 rfl (Nat.le_of_ble_eq_true rfl) d_LD_plan_20 (Nat.le_of_ble_eq_true rfl) (Nat.le_of_ble_eq_true rfl) hno hlocks
    · have v := v.2 c5
      subst v
      exact nv_thS (wc := []) (As := [.int (iI from_), .int (iI 26280)]) (rest := []) ⟨hx, hb, hml, hown, hts⟩ (t_LD_checkIndex l D cI cJ cO cZ qd mi Z hZ hfl from_ 26280 "java/lang/IndexOutOfBoundsException" (f_LD_checkIndex k4 (by decide) c5)) (nv_cwS (rm := { frames := 6, cells := 1, slots := 6, locals := 90 }) (n := 2) hts wd_195 wd_196 wd_1 wd_197 (by decide +kernel) ⟨Nat.le_of_ble_eq_true rfl, Nat.le_of_ble_eq_true rfl⟩) hK (hP.sub [] rfl) hE rfl hl.1 rfl (Nat.le_of_ble_eq_true rfl) d_LD_plan_15 (Nat.le_of_ble_eq_true rfl) (Nat.le_of_ble_eq_true rfl) hno hlocks
  · have v := v.2 c3
    subst v
    exact nv_thS (wc := []) (As := [.int (iI ob), .int (iI (no : Int))]) (rest := []) ⟨hx, hb, hml, hown, hts⟩ (t_LD_checkIndex l D cI cJ cO cZ qd mi Z hZ hfl ob (no : Int) "java/lang/IndexOutOfBoundsException" (f_LD_checkIndex k1 k2 c3)) (nv_cwS (rm := { frames := 6, cells := 1, slots := 6, locals := 90 }) (n := 2) hts wd_195 wd_196 wd_1 wd_197 (by decide +kernel) ⟨Nat.le_of_ble_eq_true rfl, Nat.le_of_ble_eq_true rfl⟩) hK (hP.sub [] rfl) hE rfl hl.1 rfl (Nat.le_of_ble_eq_true rfl) d_LD_plan_8 (Nat.le_of_ble_eq_true rfl) (Nat.le_of_ble_eq_true rfl) hno hlocks

theorem d_LD_page_0 : decode prog_1_method_17_code 0 = .ok (.aload_n 0, 1) := by decide +kernel
theorem d_LD_page_1 : decode prog_1_method_17_code 1 = .ok (.getfield 53, 3) := by decide +kernel
theorem d_LD_page_4 : decode prog_1_method_17_code 4 = .ok (.getfield 192, 3) := by decide +kernel
theorem d_LD_page_7 : decode prog_1_method_17_code 7 = .ok (.bipush 12, 2) := by decide +kernel
theorem d_LD_page_9 : decode prog_1_method_17_code 9 = .ok (.if_icmp .lt 13, 3) := by decide +kernel
theorem d_LD_page_12 : decode prog_1_method_17_code 12 = .ok (.new 73, 3) := by decide +kernel
theorem d_LD_page_15 : decode prog_1_method_17_code 15 = .ok (.dup, 1) := by decide +kernel
theorem d_LD_page_16 : decode prog_1_method_17_code 16 = .ok (.ldc 195, 2) := by decide +kernel
theorem d_LD_page_18 : decode prog_1_method_17_code 18 = .ok (.invokespecial 77, 3) := by decide +kernel
theorem d_LD_page_21 : decode prog_1_method_17_code 21 = .ok (.athrow, 1) := by decide +kernel
theorem d_LD_page_22 : decode prog_1_method_17_code 22 = .ok (.iload_n 1, 1) := by decide +kernel
theorem d_LD_page_23 : decode prog_1_method_17_code 23 = .ok (.iconst 0, 1) := by decide +kernel
theorem d_LD_page_24 : decode prog_1_method_17_code 24 = .ok (.sipush 30000, 3) := by decide +kernel
theorem d_LD_page_27 : decode prog_1_method_17_code 27 = .ok (.invokestatic 90, 3) := by decide +kernel
theorem d_LD_page_30 : decode prog_1_method_17_code 30 = .ok (.aload_n 0, 1) := by decide +kernel
theorem d_LD_page_31 : decode prog_1_method_17_code 31 = .ok (.getfield 53, 3) := by decide +kernel
theorem d_LD_page_34 : decode prog_1_method_17_code 34 = .ok (.iload_n 1, 1) := by decide +kernel
theorem d_LD_page_35 : decode prog_1_method_17_code 35 = .ok (.invokevirtual 197, 3) := by decide +kernel
theorem d_LD_page_38 : decode prog_1_method_17_code 38 = .ok (.aload_n 0, 1) := by decide +kernel
theorem d_LD_page_39 : decode prog_1_method_17_code 39 = .ok (.getfield 53, 3) := by decide +kernel
theorem d_LD_page_42 : decode prog_1_method_17_code 42 = .ok (.getfield 192, 3) := by decide +kernel
theorem d_LD_page_45 : decode prog_1_method_17_code 45 = .ok (.ireturn, 1) := by decide +kernel
def vt_LD_page (fr : Int) (po : Int) (kh : Nat → Int) (kc : Nat → Int) (kp : Int) (kn : Int) (hrs : Int) (X : String) : Prop := (r32 kp) ∧ ((kp < 12 → (r32 hrs) ∧ (((0 ≤ hrs ∧ hrs ≤ 30000) → False) ∧ (¬ (0 ≤ hrs ∧ hrs ≤ 30000) → X = "java/lang/IllegalArgumentException"))) ∧ (12 ≤ kp → X = "java/lang/IllegalStateException"))
set_option maxHeartbeats 4000000 in
set_option maxRecDepth 100000 in
theorem t_LD_page (l : Launch) (D : va_G) (cI cJ cO cZ : ClassId) (qd mi : Nat) (Z : State) (hZ : EvZ qd mi Z) (hfl : ∀ e : Env, l.admits e → e.platform.stackTraces = false) (h0 x1 y1 al dy fl br bk bk1 bk2 : Nat) (fr : Int) (po : Int) (kh : Nat → Int) (kc : Nat → Int) (kp : Int) (kn : Int) (hrs : Int) (X : String) (v : vt_LD_page fr po kh kc kp kn hrs X) : MetT l ⟨"LightDoses", "page", "(I)I"⟩ (.code ⟨"LightDoses", "page", "(I)I"⟩ prog_1_method_17_code 2 (some .int) :: TG) { frames := 7, cells := 1, slots := 6, locals := 112 } (va_Pc [.ref h0, .int (iI hrs)] (fun U => va_K D vwCl (tyx cI cJ cO cZ) U ∧ va_P D vwCl [(h0, .inr (7, [.ref x1, .ref y1, .ref al, .ref dy, .ref fl, .ref br, .ref bk, .int (iI fr), .int (iI po)])), (bk, .inr (0, [.ref bk1, .ref bk2, .int (iI kp), .int (iI kn)])), (bk1, .inl (cI, 12, .inl (fun k => iI (kh k)))), (bk2, .inl (cI, 12, .inl (fun k => iI (kc k))))] U.heap ∧ Ev Z U)) (th_X X) 1 6 (fun _ => False) := by
  refine MetT.ofW (cc := prog_1_method_17_code) (maxL := 2) (ret := (some .int)) (by decide) rfl ?_
  intro p e s m args below meth c s₁ B hml hv
  obtain ⟨rfl, hK, hP, hE⟩ := hv
  have hx := B.exec
  have hb := B.bytes
  have hr := B.returns
  have hts0 := atoms_spec (ws := (.code ⟨"LightDoses", "page", "(I)I"⟩ prog_1_method_17_code 2 (some .int) :: TG)) B.pre
  have hts : ∀ w ∈ TG, w.before _ s = true := fun w h => hts0 w (List.mem_cons_of_mem _ h)
  have hown : s.vm.findClass "LightDoses" = some m.cls := findClass_of_methodNamed B.named
  have hlocks := B.notSynchronized
  have hno := nv_noTable B hts0
  have hP : va_P D vwCl [(h0, .inr (7, [.ref x1, .ref y1, .ref al, .ref dy, .ref fl, .ref br, .ref bk, .int (iI fr), .int (iI po)])), (bk, .inr (0, [.ref bk1, .ref bk2, .int (iI kp), .int (iI kn)])), (bk1, .inl (cI, 12, .inl (fun k => iI (kh k)))), (bk2, .inl (cI, 12, .inl (fun k => iI (kc k))))] s.heap := hP
  have hl := lv_entry ([Value.ref h0, Value.int (iI hrs)]) (n := 2) (Nat.le_of_ble_eq_true rfl)
  rw [lg_entry_eq]
  generalize (lg_sl ([Value.ref h0, Value.int (iI hrs)]) ++ List.replicate (2 - (lg_sl ([Value.ref h0, Value.int (iI hrs)])).length) Slot.unset).toArray = ls at hl ⊢
  have hl : lv_has ls 2 [(0, .ref h0), (1, .int (iI hrs))] := hl
  unfold vt_LD_page at v
  refine lv_aload_n hx hb d_LD_page_0 rfl (lv_at hl 0 rfl) ?_
  refine va_get (D := D) (ci := 7) (v := .ref bk) (C := "LightDoses") (T := T_LD) (N := 9) hx hb hts in_LD hown hK hP 0 rfl rfl 6 (by decide) (hts _ wd_145) (fun _ h9 => h9) rfl d_LD_page_1 ?_
  refine va_get (D := D) (ci := 0) (v := .int (iI kp)) (C := "LightDoses$Book") (T := T_Bk) (N := 4) hx hb hts in_Bk hown hK hP 1 rfl rfl 2 (by decide) (hts _ wd_127) (fun _ h9 => h9) rfl d_LD_page_4 ?_
  refine nv_bipush (z := 12) hx hb d_LD_page_7 (by decide) ?_
  obtain ⟨k1, v⟩ := v
  refine nv_icmp_lt (tgt := 22) hx hb d_LD_page_9 (by decide) k1 (by decide) (fun c2 => ?_) (fun c2 => ?_)
  · replace v := v.1 c2
    refine lv_iload_n hx hb d_LD_page_22 rfl (lv_at hl 1 rfl) ?_
    refine nv_iconst (n := 0) hx hb d_LD_page_23 ?_
    refine nv_sipush (z := 30000) hx hb d_LD_page_24 (by decide) ?_
    obtain ⟨k3, v⟩ := v
    by_cases c4 : 0 ≤ hrs ∧ hrs ≤ 30000
    · replace v := v.1 c4
      refine nv_callSv (nv_runS (wc := []) (As := [.int (iI hrs), .int (iI 0), .int (iI 30000)]) (rest := []) ⟨hx, hb, hml, hown, hts⟩ (m_LD_checkArgument l D cI cJ cO cZ hrs 0 30000 (s_LD_checkArgument k3 (by decide) (by decide) c4)) (nv_cwS (n := 3) hts wd_440 wd_441 wd_1 wd_442 (by decide +kernel) ⟨Nat.le_of_ble_eq_true rfl, Nat.le_of_ble_eq_true rfl⟩) hK (hP.sub [] rfl) rfl hl.1 rfl (Nat.le_of_ble_eq_true rfl) d_LD_page_27 (Nat.le_of_ble_eq_true rfl) (Nat.le_of_ble_eq_true rfl)) ?_
      exact v.elim
    · have v := v.2 c4
      subst v
      exact nv_thS (wc := []) (As := [.int (iI hrs), .int (iI 0), .int (iI 30000)]) (rest := []) ⟨hx, hb, hml, hown, hts⟩ (t_LD_checkArgument l D cI cJ cO cZ qd mi Z hZ hfl hrs 0 30000 "java/lang/IllegalArgumentException" (f_LD_checkArgument k3 (by decide) (by decide) c4)) (nv_cwS (rm := { frames := 6, cells := 1, slots := 6, locals := 90 }) (n := 3) hts wd_440 wd_441 wd_1 wd_442 (by decide +kernel) ⟨Nat.le_of_ble_eq_true rfl, Nat.le_of_ble_eq_true rfl⟩) hK (hP.sub [] rfl) hE rfl hl.1 rfl (Nat.le_of_ble_eq_true rfl) d_LD_page_27 (Nat.le_of_ble_eq_true rfl) (Nat.le_of_ble_eq_true rfl) hno hlocks
  · replace v := v.2 c2
    subst v
    exact nv_throw (tx := "there are twelve pages") hx hb (hfl _ B.admits) (hml.trans hl.1.symm) hZ hE hts hown (by decide +kernel) th_atS wd_333 wd_15 (by decide +kernel) hno hlocks (Nat.le_of_ble_eq_true rfl) (Nat.le_of_ble_eq_true rfl) (Nat.le_of_ble_eq_true rfl) (Nat.le_of_ble_eq_true rfl) d_LD_page_12 d_LD_page_15 d_LD_page_16 d_LD_page_18 d_LD_page_21

theorem d_LD_rotate_0 : decode prog_1_method_18_code 0 = .ok (.iload_n 1, 1) := by decide +kernel
theorem d_LD_rotate_1 : decode prog_1_method_18_code 1 = .ok (.iconst 1, 1) := by decide +kernel
theorem d_LD_rotate_2 : decode prog_1_method_18_code 2 = .ok (.sipush 30000, 3) := by decide +kernel
theorem d_LD_rotate_5 : decode prog_1_method_18_code 5 = .ok (.invokestatic 90, 3) := by decide +kernel
theorem d_LD_rotate_8 : decode prog_1_method_18_code 8 = .ok (.aload_n 0, 1) := by decide +kernel
theorem d_LD_rotate_9 : decode prog_1_method_18_code 9 = .ok (.getfield 53, 3) := by decide +kernel
theorem d_LD_rotate_12 : decode prog_1_method_18_code 12 = .ok (.iload_n 1, 1) := by decide +kernel
theorem d_LD_rotate_13 : decode prog_1_method_18_code 13 = .ok (.invokevirtual 199, 3) := by decide +kernel
theorem d_LD_rotate_16 : decode prog_1_method_18_code 16 = .ok (.istore_n 2, 1) := by decide +kernel
theorem d_LD_rotate_17 : decode prog_1_method_18_code 17 = .ok (.iload_n 2, 1) := by decide +kernel
theorem d_LD_rotate_18 : decode prog_1_method_18_code 18 = .ok (.iconst (-1), 1) := by decide +kernel
theorem d_LD_rotate_19 : decode prog_1_method_18_code 19 = .ok (.if_icmp .ne 5, 3) := by decide +kernel
theorem d_LD_rotate_22 : decode prog_1_method_18_code 22 = .ok (.iconst (-1), 1) := by decide +kernel
theorem d_LD_rotate_23 : decode prog_1_method_18_code 23 = .ok (.ireturn, 1) := by decide +kernel
theorem d_LD_rotate_24 : decode prog_1_method_18_code 24 = .ok (.aload_n 0, 1) := by decide +kernel
theorem d_LD_rotate_25 : decode prog_1_method_18_code 25 = .ok (.getfield 53, 3) := by decide +kernel
theorem d_LD_rotate_28 : decode prog_1_method_18_code 28 = .ok (.iload_n 2, 1) := by decide +kernel
theorem d_LD_rotate_29 : decode prog_1_method_18_code 29 = .ok (.iload_n 1, 1) := by decide +kernel
theorem d_LD_rotate_30 : decode prog_1_method_18_code 30 = .ok (.invokevirtual 203, 3) := by decide +kernel
theorem d_LD_rotate_33 : decode prog_1_method_18_code 33 = .ok (.iload_n 2, 1) := by decide +kernel
theorem d_LD_rotate_34 : decode prog_1_method_18_code 34 = .ok (.iconst 1, 1) := by decide +kernel
theorem d_LD_rotate_35 : decode prog_1_method_18_code 35 = .ok (.isub, 1) := by decide +kernel
theorem d_LD_rotate_36 : decode prog_1_method_18_code 36 = .ok (.ireturn, 1) := by decide +kernel
def vt_LD_rotate (fr : Int) (po : Int) (hrs : Int) (X : String) : Prop := (r32 hrs) ∧ (((1 ≤ hrs ∧ hrs ≤ 30000) → False) ∧ (¬ (1 ≤ hrs ∧ hrs ≤ 30000) → X = "java/lang/IllegalArgumentException"))
set_option maxHeartbeats 4000000 in
set_option maxRecDepth 100000 in
theorem t_LD_rotate (l : Launch) (D : va_G) (cI cJ cO cZ : ClassId) (qd mi : Nat) (Z : State) (hZ : EvZ qd mi Z) (hfl : ∀ e : Env, l.admits e → e.platform.stackTraces = false) (h0 x1 y1 al dy fl br bk : Nat) (fr : Int) (po : Int) (hrs : Int) (X : String) (v : vt_LD_rotate fr po hrs X) : MetT l ⟨"LightDoses", "rotate", "(I)I"⟩ (.code ⟨"LightDoses", "rotate", "(I)I"⟩ prog_1_method_18_code 3 (some .int) :: TG) { frames := 7, cells := 1, slots := 6, locals := 112 } (va_Pc [.ref h0, .int (iI hrs)] (fun U => va_K D vwCl (tyx cI cJ cO cZ) U ∧ va_P D vwCl [(h0, .inr (7, [.ref x1, .ref y1, .ref al, .ref dy, .ref fl, .ref br, .ref bk, .int (iI fr), .int (iI po)]))] U.heap ∧ Ev Z U)) (th_X X) 1 6 (fun _ => False) := by
  refine MetT.ofW (cc := prog_1_method_18_code) (maxL := 3) (ret := (some .int)) (by decide) rfl ?_
  intro p e s m args below meth c s₁ B hml hv
  obtain ⟨rfl, hK, hP, hE⟩ := hv
  have hx := B.exec
  have hb := B.bytes
  have hr := B.returns
  have hts0 := atoms_spec (ws := (.code ⟨"LightDoses", "rotate", "(I)I"⟩ prog_1_method_18_code 3 (some .int) :: TG)) B.pre
  have hts : ∀ w ∈ TG, w.before _ s = true := fun w h => hts0 w (List.mem_cons_of_mem _ h)
  have hown : s.vm.findClass "LightDoses" = some m.cls := findClass_of_methodNamed B.named
  have hlocks := B.notSynchronized
  have hno := nv_noTable B hts0
  have hP : va_P D vwCl [(h0, .inr (7, [.ref x1, .ref y1, .ref al, .ref dy, .ref fl, .ref br, .ref bk, .int (iI fr), .int (iI po)]))] s.heap := hP
  have hl := lv_entry ([Value.ref h0, Value.int (iI hrs)]) (n := 3) (Nat.le_of_ble_eq_true rfl)
  rw [lg_entry_eq]
  generalize (lg_sl ([Value.ref h0, Value.int (iI hrs)]) ++ List.replicate (3 - (lg_sl ([Value.ref h0, Value.int (iI hrs)])).length) Slot.unset).toArray = ls at hl ⊢
  have hl : lv_has ls 3 [(0, .ref h0), (1, .int (iI hrs))] := hl
  unfold vt_LD_rotate at v
  refine lv_iload_n hx hb d_LD_rotate_0 rfl (lv_at hl 1 rfl) ?_
  refine nv_iconst (n := 1) hx hb d_LD_rotate_1 ?_
  refine nv_sipush (z := 30000) hx hb d_LD_rotate_2 (by decide) ?_
  obtain ⟨k1, v⟩ := v
  by_cases c2 : 1 ≤ hrs ∧ hrs ≤ 30000
  · replace v := v.1 c2
    refine nv_callSv (nv_runS (wc := []) (As := [.int (iI hrs), .int (iI 1), .int (iI 30000)]) (rest := []) ⟨hx, hb, hml, hown, hts⟩ (m_LD_checkArgument l D cI cJ cO cZ hrs 1 30000 (s_LD_checkArgument k1 (by decide) (by decide) c2)) (nv_cwS (n := 3) hts wd_440 wd_441 wd_1 wd_442 (by decide +kernel) ⟨Nat.le_of_ble_eq_true rfl, Nat.le_of_ble_eq_true rfl⟩) hK (hP.sub [] rfl) rfl hl.1 rfl (Nat.le_of_ble_eq_true rfl) d_LD_rotate_5 (Nat.le_of_ble_eq_true rfl) (Nat.le_of_ble_eq_true rfl)) ?_
    exact v.elim
  · have v := v.2 c2
    subst v
    exact nv_thS (wc := []) (As := [.int (iI hrs), .int (iI 1), .int (iI 30000)]) (rest := []) ⟨hx, hb, hml, hown, hts⟩ (t_LD_checkArgument l D cI cJ cO cZ qd mi Z hZ hfl hrs 1 30000 "java/lang/IllegalArgumentException" (f_LD_checkArgument k1 (by decide) (by decide) c2)) (nv_cwS (rm := { frames := 6, cells := 1, slots := 6, locals := 90 }) (n := 3) hts wd_440 wd_441 wd_1 wd_442 (by decide +kernel) ⟨Nat.le_of_ble_eq_true rfl, Nat.le_of_ble_eq_true rfl⟩) hK (hP.sub [] rfl) hE rfl hl.1 rfl (Nat.le_of_ble_eq_true rfl) d_LD_rotate_5 (Nat.le_of_ble_eq_true rfl) (Nat.le_of_ble_eq_true rfl) hno hlocks

def vt_LD_turned (fr : Int) (po : Int) (kh : Nat → Int) (kc : Nat → Int) (kp : Int) (kn : Int) (k_ : Int) (X : String) : Prop := (r32 k_) ∧ ((r32 kn) ∧ (((0 ≤ k_ ∧ k_ < kn) → False) ∧ (¬ (0 ≤ k_ ∧ k_ < kn) → X = "java/lang/IndexOutOfBoundsException")))
set_option maxHeartbeats 4000000 in
set_option maxRecDepth 100000 in
theorem t_LD_turned (l : Launch) (D : va_G) (cI cJ cO cZ : ClassId) (qd mi : Nat) (Z : State) (hZ : EvZ qd mi Z) (hfl : ∀ e : Env, l.admits e → e.platform.stackTraces = false) (h0 x1 y1 al dy fl br bk bk1 bk2 : Nat) (fr : Int) (po : Int) (kh : Nat → Int) (kc : Nat → Int) (kp : Int) (kn : Int) (k_ : Int) (X : String) (v : vt_LD_turned fr po kh kc kp kn k_ X) : MetT l ⟨"LightDoses", "turned", "(I)I"⟩ (.code ⟨"LightDoses", "turned", "(I)I"⟩ prog_1_method_19_code 2 (some .int) :: TG) { frames := 7, cells := 1, slots := 6, locals := 111 } (va_Pc [.ref h0, .int (iI k_)] (fun U => va_K D vwCl (tyx cI cJ cO cZ) U ∧ va_P D vwCl [(h0, .inr (7, [.ref x1, .ref y1, .ref al, .ref dy, .ref fl, .ref br, .ref bk, .int (iI fr), .int (iI po)])), (bk, .inr (0, [.ref bk1, .ref bk2, .int (iI kp), .int (iI kn)])), (bk1, .inl (cI, 12, .inl (fun k => iI (kh k)))), (bk2, .inl (cI, 12, .inl (fun k => iI (kc k))))] U.heap ∧ Ev Z U)) (th_X X) 1 6 (fun _ => False) := by
  refine MetT.ofW (cc := prog_1_method_19_code) (maxL := 2) (ret := (some .int)) (by decide) rfl ?_
  intro p e s m args below meth c s₁ B hml hv
  obtain ⟨rfl, hK, hP, hE⟩ := hv
  have hx := B.exec
  have hb := B.bytes
  have hr := B.returns
  have hts0 := atoms_spec (ws := (.code ⟨"LightDoses", "turned", "(I)I"⟩ prog_1_method_19_code 2 (some .int) :: TG)) B.pre
  have hts : ∀ w ∈ TG, w.before _ s = true := fun w h => hts0 w (List.mem_cons_of_mem _ h)
  have hown : s.vm.findClass "LightDoses" = some m.cls := findClass_of_methodNamed B.named
  have hlocks := B.notSynchronized
  have hno := nv_noTable B hts0
  have hP : va_P D vwCl [(h0, .inr (7, [.ref x1, .ref y1, .ref al, .ref dy, .ref fl, .ref br, .ref bk, .int (iI fr), .int (iI po)])), (bk, .inr (0, [.ref bk1, .ref bk2, .int (iI kp), .int (iI kn)])), (bk1, .inl (cI, 12, .inl (fun k => iI (kh k)))), (bk2, .inl (cI, 12, .inl (fun k => iI (kc k))))] s.heap := hP
  have hl := lv_entry ([Value.ref h0, Value.int (iI k_)]) (n := 2) (Nat.le_of_ble_eq_true rfl)
  rw [lg_entry_eq]
  generalize (lg_sl ([Value.ref h0, Value.int (iI k_)]) ++ List.replicate (2 - (lg_sl ([Value.ref h0, Value.int (iI k_)])).length) Slot.unset).toArray = ls at hl ⊢
  have hl : lv_has ls 2 [(0, .ref h0), (1, .int (iI k_))] := hl
  unfold vt_LD_turned at v
  refine lv_iload_n hx hb d_LD_turned_0 rfl (lv_at hl 1 rfl) ?_
  refine lv_aload_n hx hb d_LD_turned_1 rfl (lv_at hl 0 rfl) ?_
  refine va_get (D := D) (ci := 7) (v := .ref bk) (C := "LightDoses") (T := T_LD) (N := 9) hx hb hts in_LD hown hK hP 0 rfl rfl 6 (by decide) (hts _ wd_145) (fun _ h9 => h9) rfl d_LD_turned_2 ?_
  refine va_get (D := D) (ci := 0) (v := .int (iI kn)) (C := "LightDoses$Book") (T := T_Bk) (N := 4) hx hb hts in_Bk hown hK hP 1 rfl rfl 3 (by decide) (hts _ wd_129) (fun _ h9 => h9) rfl d_LD_turned_5 ?_
  obtain ⟨k1, v⟩ := v
  obtain ⟨k2, v⟩ := v
  by_cases c3 : 0 ≤ k_ ∧ k_ < kn
  · replace v := v.1 c3
    refine nv_callSv (nv_runS (wc := []) (As := [.int (iI k_), .int (iI kn)]) (rest := []) ⟨hx, hb, hml, hown, hts⟩ (m_LD_checkIndex l D cI cJ cO cZ k_ kn (s_LD_checkIndex k1 k2 c3)) (nv_cwS (n := 2) hts wd_195 wd_196 wd_1 wd_197 (by decide +kernel) ⟨Nat.le_of_ble_eq_true rfl, Nat.le_of_ble_eq_true rfl⟩) hK (hP.sub [] rfl) rfl hl.1 rfl (Nat.le_of_ble_eq_true rfl) d_LD_turned_8 (Nat.le_of_ble_eq_true rfl) (Nat.le_of_ble_eq_true rfl)) ?_
    exact v.elim
  · have v := v.2 c3
    subst v
    exact nv_thS (wc := []) (As := [.int (iI k_), .int (iI kn)]) (rest := []) ⟨hx, hb, hml, hown, hts⟩ (t_LD_checkIndex l D cI cJ cO cZ qd mi Z hZ hfl k_ kn "java/lang/IndexOutOfBoundsException" (f_LD_checkIndex k1 k2 c3)) (nv_cwS (rm := { frames := 6, cells := 1, slots := 6, locals := 90 }) (n := 2) hts wd_195 wd_196 wd_1 wd_197 (by decide +kernel) ⟨Nat.le_of_ble_eq_true rfl, Nat.le_of_ble_eq_true rfl⟩) hK (hP.sub [] rfl) hE rfl hl.1 rfl (Nat.le_of_ble_eq_true rfl) d_LD_turned_8 (Nat.le_of_ble_eq_true rfl) (Nat.le_of_ble_eq_true rfl) hno hlocks

def vt_LD_count (fr : Int) (po : Int) (w_ : Int) (X : String) : Prop := (r32 w_) ∧ ((w_ = 0 → False) ∧ (w_ = 1 → False) ∧ (w_ = 2 → False) ∧ (w_ = 3 → False) ∧ (w_ = 4 → False) ∧ (w_ < 0 ∨ 4 < w_ → X = "java/lang/IndexOutOfBoundsException"))
set_option maxHeartbeats 4000000 in
set_option maxRecDepth 100000 in
theorem t_LD_count (l : Launch) (D : va_G) (cI cJ cO cZ : ClassId) (qd mi : Nat) (Z : State) (hZ : EvZ qd mi Z) (hfl : ∀ e : Env, l.admits e → e.platform.stackTraces = false) (h0 x1 y1 al dy fl br bk : Nat) (fr : Int) (po : Int) (w_ : Int) (X : String) (v : vt_LD_count fr po w_ X) : MetT l ⟨"LightDoses", "count", "(I)I"⟩ (.code ⟨"LightDoses", "count", "(I)I"⟩ prog_1_method_20_code 2 (some .int) :: TG) { frames := 6, cells := 1, slots := 6, locals := 90 } (va_Pc [.ref h0, .int (iI w_)] (fun U => va_K D vwCl (tyx cI cJ cO cZ) U ∧ va_P D vwCl [(h0, .inr (7, [.ref x1, .ref y1, .ref al, .ref dy, .ref fl, .ref br, .ref bk, .int (iI fr), .int (iI po)]))] U.heap ∧ Ev Z U)) (th_X X) 1 6 (fun _ => False) := by
  refine MetT.ofW (cc := prog_1_method_20_code) (maxL := 2) (ret := (some .int)) (by decide) rfl ?_
  intro p e s m args below meth c s₁ B hml hv
  obtain ⟨rfl, hK, hP, hE⟩ := hv
  have hx := B.exec
  have hb := B.bytes
  have hr := B.returns
  have hts0 := atoms_spec (ws := (.code ⟨"LightDoses", "count", "(I)I"⟩ prog_1_method_20_code 2 (some .int) :: TG)) B.pre
  have hts : ∀ w ∈ TG, w.before _ s = true := fun w h => hts0 w (List.mem_cons_of_mem _ h)
  have hown : s.vm.findClass "LightDoses" = some m.cls := findClass_of_methodNamed B.named
  have hlocks := B.notSynchronized
  have hno := nv_noTable B hts0
  have hP : va_P D vwCl [(h0, .inr (7, [.ref x1, .ref y1, .ref al, .ref dy, .ref fl, .ref br, .ref bk, .int (iI fr), .int (iI po)]))] s.heap := hP
  have hl := lv_entry ([Value.ref h0, Value.int (iI w_)]) (n := 2) (Nat.le_of_ble_eq_true rfl)
  rw [lg_entry_eq]
  generalize (lg_sl ([Value.ref h0, Value.int (iI w_)]) ++ List.replicate (2 - (lg_sl ([Value.ref h0, Value.int (iI w_)])).length) Slot.unset).toArray = ls at hl ⊢
  have hl : lv_has ls 2 [(0, .ref h0), (1, .int (iI w_))] := hl
  unfold vt_LD_count at v
  refine lv_iload_n hx hb d_LD_count_0 rfl (lv_at hl 1 rfl) ?_
  obtain ⟨k1, v⟩ := v
  by_cases c2 : w_ = 0
  · have v := v.1 c2
    have e9 : (iI (w_)).toInt = 0 := by rw [iI_toInt k1]; exact c2
    refine lv_tableIn (off := 35) (tgt := 36) hx hb d_LD_count_1 (by rw [e9]; decide) (by rw [e9]; decide) (by rw [e9]; rfl) (by decide) ?_
    exact v.elim
  by_cases c3 : w_ = 1
  · have v := v.2.1 c3
    have e9 : (iI (w_)).toInt = 1 := by rw [iI_toInt k1]; exact c3
    refine lv_tableIn (off := 43) (tgt := 44) hx hb d_LD_count_1 (by rw [e9]; decide) (by rw [e9]; decide) (by rw [e9]; rfl) (by decide) ?_
    exact v.elim
  by_cases c4 : w_ = 2
  · have v := v.2.2.1 c4
    have e9 : (iI (w_)).toInt = 2 := by rw [iI_toInt k1]; exact c4
    refine lv_tableIn (off := 51) (tgt := 52) hx hb d_LD_count_1 (by rw [e9]; decide) (by rw [e9]; decide) (by rw [e9]; rfl) (by decide) ?_
    exact v.elim
  by_cases c5 : w_ = 3
  · have v := v.2.2.2.1 c5
    have e9 : (iI (w_)).toInt = 3 := by rw [iI_toInt k1]; exact c5
    refine lv_tableIn (off := 59) (tgt := 60) hx hb d_LD_count_1 (by rw [e9]; decide) (by rw [e9]; decide) (by rw [e9]; rfl) (by decide) ?_
    exact v.elim
  by_cases c6 : w_ = 4
  · have v := v.2.2.2.2.1 c6
    have e9 : (iI (w_)).toInt = 4 := by rw [iI_toInt k1]; exact c6
    refine lv_tableIn (off := 67) (tgt := 68) hx hb d_LD_count_1 (by rw [e9]; decide) (by rw [e9]; decide) (by rw [e9]; rfl) (by decide) ?_
    exact v.elim
  have c7 : w_ < 0 ∨ 4 < w_ := by omega
  have v := v.2.2.2.2.2 c7
  refine lv_tableOut (tgt := 76) hx hb d_LD_count_1 (by rw [iI_toInt k1]; exact c7) (by decide) ?_
  subst v
  exact nv_throw (tx := "there is no such count") hx hb (hfl _ B.admits) (hml.trans hl.1.symm) hZ hE hts hown (by decide +kernel) th_atI wd_198 wd_14 (by decide +kernel) hno hlocks (Nat.le_of_ble_eq_true rfl) (Nat.le_of_ble_eq_true rfl) (Nat.le_of_ble_eq_true rfl) (Nat.le_of_ble_eq_true rfl) d_LD_count_76 d_LD_count_79 d_LD_count_80 d_LD_count_82 d_LD_count_85

