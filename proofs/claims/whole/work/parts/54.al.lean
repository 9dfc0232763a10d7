/-! MODULE ArrayList: size; the checks of an index -/
theorem gdS2 {own : String} {idx : Nat} {y : MethodName} {cw : Cond} (h1 : Cond.methodLink own idx y ∈ TG) (h2 : Cond.static y ∈ TG) (h4 : Cond.initialized y.cls ∈ TG) (h5 : cw ∈ TG) : GoodIn TG (va_wsS own idx y (cw :: TG)) := by
  intro w hw
  simp only [va_wsS, List.cons_append, List.nil_append, List.mem_cons] at hw
  rcases hw with rfl | rfl | rfl | rfl | hw
  · exact ⟨h1, tg_ok h1⟩
  · exact ⟨h2, tg_ok h2⟩
  · exact ⟨h4, tg_ok h4⟩
  · exact ⟨h5, tg_ok h5⟩
  · exact ⟨hw, tg_ok hw⟩
theorem nv_cwS2 {R : Room} {s : State} {args : Array Value} {bytes : ByteArray} {maxL n idx : Nat} {own : String} {y : MethodName} {ret : Option FieldType} {rm : Room} (hts : ∀ w ∈ TG, w.before args s = true) (h1 : Cond.methodLink own idx y ∈ TG) (h2 : Cond.static y ∈ TG) (h4 : Cond.initialized y.cls ∈ TG) (h5 : Cond.code y bytes maxL ret ∈ TG)
    (hd : y.cls ≠ "java/lang/invoke/MethodHandle" ∧ y.cls ≠ "java/lang/invoke/VarHandle" ∧ (parseMethodDescriptor y.desc).map (fun d => d.parameters.length) = some n) (hR : rm.frames + 1 ≤ R.frames ∧ 8 + (maxL + 11) + rm.locals ≤ R.locals) :
    CallB R s args own idx y bytes maxL ret (Cond.code y bytes maxL ret :: TG) rm rm.cells rm.slots n ∧ (Cond.static y).before args s = true := va_cwS n hts (gdS2 h1 h2 h4 h5) rfl rfl rfl hd hR
theorem d_AL_size_0 : decode prog_25_method_8_code 0 = .ok (.aload_n 0, 1) := by decide +kernel
theorem d_AL_size_1 : decode prog_25_method_8_code 1 = .ok (.getfield 48, 3) := by decide +kernel
theorem d_AL_size_4 : decode prog_25_method_8_code 4 = .ok (.ireturn, 1) := by decide +kernel
def vc_AL_size (n : Int) (md : Int) (post : Int → Prop) : Prop := post n
set_option maxHeartbeats 4000000 in
set_option maxRecDepth 100000 in
theorem m_AL_size (l : Launch) (D : va_G) (cI cJ cO cZ : ClassId) (h0 h1 : Nat) (n : Int) (md : Int) (post : Int → Prop) (v : vc_AL_size n md post) : Met l ⟨"java/util/ArrayList", "size", "()I"⟩ (.code ⟨"java/util/ArrayList", "size", "()I"⟩ prog_25_method_8_code 1 (some .int) :: TG) { frames := 0, cells := 0, slots := 0, locals := 0 } (va_Pc [.ref h0] (fun U => va_K D vwCl (tyx cI cJ cO cZ) U ∧ va_P D vwCl [(h0, .inr (9, [.ref h1, .int (iI n), .int (iI md)]))] U.heap)) (vp_Si (fun r => ∃ z : Int, r = iI z ∧ post z)) 0 0 (fun _ => False) := by
  refine Met.ofW (cc := prog_25_method_8_code) (maxL := 1) (ret := (some .int)) (by decide) rfl ?_
  intro p e s m args below meth c s₁ B hml hv
  obtain ⟨rfl, hK, hP⟩ := hv
  have hx := B.exec
  have hb := B.bytes
  have hr := B.returns
  have hts0 := atoms_spec (ws := (.code ⟨"java/util/ArrayList", "size", "()I"⟩ prog_25_method_8_code 1 (some .int) :: TG)) B.pre
  have hts : ∀ w ∈ TG, w.before _ s = true := fun w h => hts0 w (List.mem_cons_of_mem _ h)
  have hown : s.vm.findClass "java/util/ArrayList" = some m.cls := findClass_of_methodNamed B.named
  have hlocks := B.notSynchronized
  have hP : va_P D vwCl [(h0, .inr (9, [.ref h1, .int (iI n), .int (iI md)]))] s.heap := hP
  have hl := lv_entry ([Value.ref h0]) (n := 1) (Nat.le_of_ble_eq_true rfl)
  rw [lg_entry_eq]
  generalize (lg_sl ([Value.ref h0]) ++ List.replicate (1 - (lg_sl ([Value.ref h0])).length) Slot.unset).toArray = ls at hl ⊢
  have hl : lv_has ls 1 [(0, .ref h0)] := hl
  unfold vc_AL_size at v
  refine lv_aload_n hx hb d_AL_size_0 rfl (lv_at hl 0 rfl) ?_
  refine va_get (D := D) (ci := 9) (v := .int (iI n)) (C := "java/util/ArrayList") (T := T_AL) (N := 3) hx hb hts in_AL hown hK hP 0 rfl rfl 1 (by decide) (hts _ wd_48) (fun _ h9 => h9) rfl d_AL_size_1 ?_
  exact W.iret hx hb hr (fun t ht hW => ⟨_, rfl, ⟨_, rfl, v⟩, ht⟩) (fun q h => by cases h) d_AL_size_4

theorem d_Pre_checkIndex_0 : decode prog_33_method_11_code 0 = .ok (.iload_n 0, 1) := by decide +kernel
theorem d_Pre_checkIndex_1 : decode prog_33_method_11_code 1 = .ok (.ifCond .lt 8, 3) := by decide +kernel
theorem d_Pre_checkIndex_4 : decode prog_33_method_11_code 4 = .ok (.iload_n 0, 1) := by decide +kernel
theorem d_Pre_checkIndex_5 : decode prog_33_method_11_code 5 = .ok (.iload_n 1, 1) := by decide +kernel
theorem d_Pre_checkIndex_6 : decode prog_33_method_11_code 6 = .ok (.if_icmp .lt 10, 3) := by decide +kernel
theorem d_Pre_checkIndex_9 : decode prog_33_method_11_code 9 = .ok (.aload_n 2, 1) := by decide +kernel
theorem d_Pre_checkIndex_10 : decode prog_33_method_11_code 10 = .ok (.iload_n 0, 1) := by decide +kernel
theorem d_Pre_checkIndex_11 : decode prog_33_method_11_code 11 = .ok (.iload_n 1, 1) := by decide +kernel
theorem d_Pre_checkIndex_12 : decode prog_33_method_11_code 12 = .ok (.invokestatic 95, 3) := by decide +kernel
theorem d_Pre_checkIndex_15 : decode prog_33_method_11_code 15 = .ok (.athrow, 1) := by decide +kernel
theorem d_Pre_checkIndex_16 : decode prog_33_method_11_code 16 = .ok (.iload_n 0, 1) := by decide +kernel
theorem d_Pre_checkIndex_17 : decode prog_33_method_11_code 17 = .ok (.ireturn, 1) := by decide +kernel
def vc_Pre_checkIndex (ix : Int) (ln : Int) (post : Int → Prop) : Prop := (r32 ix) ∧ ((ix < 0 → False) ∧ (0 ≤ ix → (r32 ln) ∧ ((ix < ln → post ix) ∧ (ln ≤ ix → False))))
set_option maxHeartbeats 4000000 in
set_option maxRecDepth 100000 in
theorem m_Pre_checkIndex (l : Launch) (D : va_G) (cI cJ cO cZ : ClassId)  (ix : Int) (ln : Int) (post : Int → Prop) (v : vc_Pre_checkIndex ix ln post) : Met l ⟨"jdk/internal/util/Preconditions", "checkIndex", "(IILjava/util/function/BiFunction;)I"⟩ (.code ⟨"jdk/internal/util/Preconditions", "checkIndex", "(IILjava/util/function/BiFunction;)I"⟩ prog_33_method_11_code 3 (some .int) :: TG) { frames := 0, cells := 0, slots := 0, locals := 0 } (va_Pc [.int (iI ix), .int (iI ln), .null] (fun U => va_K D vwCl (tyx cI cJ cO cZ) U ∧ va_P D vwCl [] U.heap)) (vp_Si (fun r => ∃ z : Int, r = iI z ∧ post z)) 0 0 (fun _ => False) := by
  refine Met.ofW (cc := prog_33_method_11_code) (maxL := 3) (ret := (some .int)) (by decide) rfl ?_
  intro p e s m args below meth c s₁ B hml hv
  obtain ⟨rfl, hK, hP⟩ := hv
  have hx := B.exec
  have hb := B.bytes
  have hr := B.returns
  have hts0 := atoms_spec (ws := (.code ⟨"jdk/internal/util/Preconditions", "checkIndex", "(IILjava/util/function/BiFunction;)I"⟩ prog_33_method_11_code 3 (some .int) :: TG)) B.pre
  have hts : ∀ w ∈ TG, w.before _ s = true := fun w h => hts0 w (List.mem_cons_of_mem _ h)
  have hown : s.vm.findClass "jdk/internal/util/Preconditions" = some m.cls := findClass_of_methodNamed B.named
  have hlocks := B.notSynchronized
  have hP : va_P D vwCl [] s.heap := hP
  have hl := lv_entry ([Value.int (iI ix), Value.int (iI ln), Value.null]) (n := 3) (Nat.le_of_ble_eq_true rfl)
  rw [lg_entry_eq]
  generalize (lg_sl ([Value.int (iI ix), Value.int (iI ln), Value.null]) ++ List.replicate (3 - (lg_sl ([Value.int (iI ix), Value.int (iI ln), Value.null])).length) Slot.unset).toArray = ls at hl ⊢
  have hl : lv_has ls 3 [(0, .int (iI ix)), (1, .int (iI ln)), (2, .null)] := hl
  unfold vc_Pre_checkIndex at v
  refine lv_iload_n hx hb d_Pre_checkIndex_0 rfl (lv_at hl 0 rfl) ?_
  obtain ⟨k1, v⟩ := v
  refine nv_if_lt (tgt := 9) hx hb d_Pre_checkIndex_1 (by decide) k1 (fun c2 => ?_) (fun c2 => ?_)
  · replace v := v.1 c2
    exact v.elim
  · replace v := v.2 c2
    refine lv_iload_n hx hb d_Pre_checkIndex_4 rfl (lv_at hl 0 rfl) ?_
    refine lv_iload_n hx hb d_Pre_checkIndex_5 rfl (lv_at hl 1 rfl) ?_
    obtain ⟨k3, v⟩ := v
    refine nv_icmp_lt (tgt := 16) hx hb d_Pre_checkIndex_6 (by decide) k1 k3 (fun c4 => ?_) (fun c4 => ?_)
    · replace v := v.1 c4
      refine lv_iload_n hx hb d_Pre_checkIndex_16 rfl (lv_at hl 0 rfl) ?_
      exact W.iret hx hb hr (fun t ht hW => ⟨_, rfl, ⟨_, rfl, v⟩, ht⟩) (fun q h => by cases h) d_Pre_checkIndex_17
    · replace v := v.2 c4
      exact v.elim

theorem d_Obj_checkIndex_0 : decode prog_29_method_17_code 0 = .ok (.iload_n 0, 1) := by decide +kernel
theorem d_Obj_checkIndex_1 : decode prog_29_method_17_code 1 = .ok (.iload_n 1, 1) := by decide +kernel
theorem d_Obj_checkIndex_2 : decode prog_29_method_17_code 2 = .ok (.aconst_null, 1) := by decide +kernel
theorem d_Obj_checkIndex_3 : decode prog_29_method_17_code 3 = .ok (.invokestatic 105, 3) := by decide +kernel
theorem d_Obj_checkIndex_6 : decode prog_29_method_17_code 6 = .ok (.ireturn, 1) := by decide +kernel
def vc_Obj_checkIndex (ix : Int) (ln : Int) (post : Int → Prop) : Prop := ∃ P1 : Int → Prop, vc_Pre_checkIndex ix ln P1 ∧ ∀ z2 : Int, P1 z2 → post z2
set_option maxHeartbeats 4000000 in
set_option maxRecDepth 100000 in
theorem m_Obj_checkIndex (l : Launch) (D : va_G) (cI cJ cO cZ : ClassId)  (ix : Int) (ln : Int) (post : Int → Prop) (v : vc_Obj_checkIndex ix ln post) : Met l ⟨"java/util/Objects", "checkIndex", "(II)I"⟩ (.code ⟨"java/util/Objects", "checkIndex", "(II)I"⟩ prog_29_method_17_code 2 (some .int) :: TG) { frames := 1, cells := 0, slots := 0, locals := 22 } (va_Pc [.int (iI ix), .int (iI ln)] (fun U => va_K D vwCl (tyx cI cJ cO cZ) U ∧ va_P D vwCl [] U.heap)) (vp_Si (fun r => ∃ z : Int, r = iI z ∧ post z)) 0 0 (fun _ => False) := by
  refine Met.ofW (cc := prog_29_method_17_code) (maxL := 2) (ret := (some .int)) (by decide) rfl ?_
  intro p e s m args below meth c s₁ B hml hv
  obtain ⟨rfl, hK, hP⟩ := hv
  have hx := B.exec
  have hb := B.bytes
  have hr := B.returns
  have hts0 := atoms_spec (ws := (.code ⟨"java/util/Objects", "checkIndex", "(II)I"⟩ prog_29_method_17_code 2 (some .int) :: TG)) B.pre
  have hts : ∀ w ∈ TG, w.before _ s = true := fun w h => hts0 w (List.mem_cons_of_mem _ h)
  have hown : s.vm.findClass "java/util/Objects" = some m.cls := findClass_of_methodNamed B.named
  have hlocks := B.notSynchronized
  have hP : va_P D vwCl [] s.heap := hP
  have hl := lv_entry ([Value.int (iI ix), Value.int (iI ln)]) (n := 2) (Nat.le_of_ble_eq_true rfl)
  rw [lg_entry_eq]
  generalize (lg_sl ([Value.int (iI ix), Value.int (iI ln)]) ++ List.replicate (2 - (lg_sl ([Value.int (iI ix), Value.int (iI ln)])).length) Slot.unset).toArray = ls at hl ⊢
  have hl : lv_has ls 2 [(0, .int (iI ix)), (1, .int (iI ln))] := hl
  unfold vc_Obj_checkIndex at v
  refine lv_iload_n hx hb d_Obj_checkIndex_0 rfl (lv_at hl 0 rfl) ?_
  refine lv_iload_n hx hb d_Obj_checkIndex_1 rfl (lv_at hl 1 rfl) ?_
  refine lv_null hx hb d_Obj_checkIndex_2 ?_
  obtain ⟨P1, q3, v⟩ := v
  refine vp_callSi (nv_runS (wc := []) (As := [.int (iI ix), .int (iI ln), .null]) (rest := []) ⟨hx, hb, hml, hown, hts⟩ (m_Pre_checkIndex l D cI cJ cO cZ ix ln P1 q3) (nv_cwS2 (n := 3) hts wd_273 wd_274 wd_24 wd_275 (by decide +kernel) ⟨Nat.le_of_ble_eq_true rfl, Nat.le_of_ble_eq_true rfl⟩) hK (hP.sub [] rfl) rfl hl.1 rfl (Nat.le_of_ble_eq_true rfl) d_Obj_checkIndex_3 (Nat.le_of_ble_eq_true rfl) (Nat.le_of_ble_eq_true rfl)) (fun r hr => ?_)
  obtain ⟨z2, rfl, hz⟩ := hr
  replace v := v z2 hz
  exact W.iret hx hb hr (fun t ht hW => ⟨_, rfl, ⟨_, rfl, v⟩, ht⟩) (fun q h => by cases h) d_Obj_checkIndex_6

