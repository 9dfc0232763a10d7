/-! MODULE ArrayList: get -/
theorem d_AL_elementData_0 : decode prog_25_method_18_code 0 = .ok (.aload_n 0, 1) := by decide +kernel
theorem d_AL_elementData_1 : decode prog_25_method_18_code 1 = .ok (.getfield 9, 3) := by decide +kernel
theorem d_AL_elementData_4 : decode prog_25_method_18_code 4 = .ok (.iload_n 1, 1) := by decide +kernel
theorem d_AL_elementData_5 : decode prog_25_method_18_code 5 = .ok (.aaload, 1) := by decide +kernel
theorem d_AL_elementData_6 : decode prog_25_method_18_code 6 = .ok (.areturn, 1) := by decide +kernel
set_option maxHeartbeats 4000000 in
set_option maxRecDepth 100000 in
theorem m_AL_elementData (l : Launch) (D : va_G) (cI cJ cO cZ : ClassId) (h0 h1 : Nat) (n md : Int) (cap : Nat) (f : Nat → Option Nat) (k r : Nat) (hf : f k = some r) (hn : n ≤ cap) (hk : (k : Int) < n) (hc : cap < 1000000) : Met l ⟨"java/util/ArrayList", "elementData", "(I)Ljava/lang/Object;"⟩ (.code ⟨"java/util/ArrayList", "elementData", "(I)Ljava/lang/Object;"⟩ prog_25_method_18_code 2 (some (.object "java/lang/Object")) :: TG) { frames := 0, cells := 0, slots := 0, locals := 0 } (va_Pc [.ref h0, .int (iI (k : Int))] (fun U => va_K D vwCl (tyx cI cJ cO cZ) U ∧ va_P D vwCl [(h0, .inr (9, [.ref h1, .int (iI n), .int (iI md)])), (h1, .inl (cO, cap, .inr (.inr (.inr (.inr f)))))] U.heap)) (va_Sr (fun x => x = r) Value.ref) 0 0 (fun _ => False) := by
  refine Met.ofW (cc := prog_25_method_18_code) (maxL := 2) (ret := (some (.object "java/lang/Object"))) (by decide) rfl ?_
  intro p e s m args below meth c s₁ B hml hv
  obtain ⟨rfl, hK, hP⟩ := hv
  have hx := B.exec
  have hb := B.bytes
  have hr := B.returns
  have hts0 := atoms_spec (ws := (.code ⟨"java/util/ArrayList", "elementData", "(I)Ljava/lang/Object;"⟩ prog_25_method_18_code 2 (some (.object "java/lang/Object")) :: TG)) B.pre
  have hts : ∀ w ∈ TG, w.before _ s = true := fun w h => hts0 w (List.mem_cons_of_mem _ h)
  have hown : s.vm.findClass "java/util/ArrayList" = some m.cls := findClass_of_methodNamed B.named
  have hlocks := B.notSynchronized
  have hP : va_P D vwCl [(h0, .inr (9, [.ref h1, .int (iI n), .int (iI md)])), (h1, .inl (cO, cap, .inr (.inr (.inr (.inr f)))))] s.heap := hP
  have hl := lv_entry ([Value.ref h0, Value.int (iI (k : Int))]) (n := 2) (Nat.le_of_ble_eq_true rfl)
  rw [lg_entry_eq]
  generalize (lg_sl ([Value.ref h0, Value.int (iI (k : Int))]) ++ List.replicate (2 - (lg_sl ([Value.ref h0, Value.int (iI (k : Int))])).length) Slot.unset).toArray = ls at hl ⊢
  have hl : lv_has ls 2 [(0, .ref h0), (1, .int (iI (k : Int)))] := hl
  refine lv_aload_n hx hb d_AL_elementData_0 rfl (lv_at hl 0 rfl) ?_
  refine va_get (D := D) (ci := 9) (v := .ref h1) (C := "java/util/ArrayList") (T := T_AL) (N := 3) hx hb hts in_AL hown hK hP 0 rfl rfl 0 (by decide) (hts _ wd_47) (fun _ h9 => h9) rfl d_AL_elementData_1 ?_
  refine lv_iload_n hx hb d_AL_elementData_4 rfl (lv_at hl 1 rfl) ?_
  refine va_aldq hx hb hK hP 1 2 rfl rfl (iI_in (k := k) (n := cap) rfl (by omega) (by omega)) d_AL_elementData_5 ?_
  rw [iI_clamp (k := k) rfl (by omega), hf]
  show W p l e _ s m _ below meth c _ _ _ _ _ (F0 m _ ls (.ref r :: []))
  exact W.aret hx hb hr (Or.inl ⟨_, rfl⟩) (Or.inr ⟨_, rfl⟩) (fun t ht hW => ⟨_, rfl, rfl, ht⟩) (fun q h => by cases h) d_AL_elementData_6

theorem s_Obj_checkIndex {k n : Int} (h0 : 0 ≤ k) (h1 : k < n) (h2 : n ≤ 2147483647) : vc_Obj_checkIndex k n (fun z => z = k) := by
  unfold vc_Obj_checkIndex
  refine ⟨fun z => z = k, ?_, fun z hz => hz⟩
  unfold vc_Pre_checkIndex
  repeat' (first | (intro _) | apply And.intro | omega)
theorem d_AL_get_0 : decode prog_25_method_20_code 0 = .ok (.iload_n 1, 1) := by decide +kernel
theorem d_AL_get_1 : decode prog_25_method_20_code 1 = .ok (.aload_n 0, 1) := by decide +kernel
theorem d_AL_get_2 : decode prog_25_method_20_code 2 = .ok (.getfield 48, 3) := by decide +kernel
theorem d_AL_get_5 : decode prog_25_method_20_code 5 = .ok (.invokestatic 118, 3) := by decide +kernel
theorem d_AL_get_8 : decode prog_25_method_20_code 8 = .ok (.pop, 1) := by decide +kernel
theorem d_AL_get_9 : decode prog_25_method_20_code 9 = .ok (.aload_n 0, 1) := by decide +kernel
theorem d_AL_get_10 : decode prog_25_method_20_code 10 = .ok (.iload_n 1, 1) := by decide +kernel
theorem d_AL_get_11 : decode prog_25_method_20_code 11 = .ok (.invokevirtual 123, 3) := by decide +kernel
theorem d_AL_get_14 : decode prog_25_method_20_code 14 = .ok (.areturn, 1) := by decide +kernel
set_option maxHeartbeats 4000000 in
set_option maxRecDepth 100000 in
theorem m_AL_get (l : Launch) (D : va_G) (cI cJ cO cZ : ClassId) (h0 h1 : Nat) (n md : Int) (cap : Nat) (f : Nat → Option Nat) (k r : Nat) (hf : f k = some r) (hn : n ≤ cap) (hk : (k : Int) < n) (hc : cap < 1000000) : Met l ⟨"java/util/ArrayList", "get", "(I)Ljava/lang/Object;"⟩ (.code ⟨"java/util/ArrayList", "get", "(I)Ljava/lang/Object;"⟩ prog_25_method_20_code 2 (some (.object "java/lang/Object")) :: TG) { frames := 2, cells := 0, slots := 0, locals := 43 } (va_Pc [.ref h0, .int (iI (k : Int))] (fun U => va_K D vwCl (tyx cI cJ cO cZ) U ∧ va_P D vwCl [(h0, .inr (9, [.ref h1, .int (iI n), .int (iI md)])), (h1, .inl (cO, cap, .inr (.inr (.inr (.inr f)))))] U.heap)) (va_Sr (fun x => x = r) Value.ref) 0 0 (fun _ => False) := by
  refine Met.ofW (cc := prog_25_method_20_code) (maxL := 2) (ret := (some (.object "java/lang/Object"))) (by decide) rfl ?_
  intro p e s m args below meth c s₁ B hml hv
  obtain ⟨rfl, hK, hP⟩ := hv
  have hx := B.exec
  have hb := B.bytes
  have hr := B.returns
  have hts0 := atoms_spec (ws := (.code ⟨"java/util/ArrayList", "get", "(I)Ljava/lang/Object;"⟩ prog_25_method_20_code 2 (some (.object "java/lang/Object")) :: TG)) B.pre
  have hts : ∀ w ∈ TG, w.before _ s = true := fun w h => hts0 w (List.mem_cons_of_mem _ h)
  have hown : s.vm.findClass "java/util/ArrayList" = some m.cls := findClass_of_methodNamed B.named
  have hlocks := B.notSynchronized
  have hP : va_P D vwCl [(h0, .inr (9, [.ref h1, .int (iI n), .int (iI md)])), (h1, .inl (cO, cap, .inr (.inr (.inr (.inr f)))))] s.heap := hP
  have hl := lv_entry ([Value.ref h0, Value.int (iI (k : Int))]) (n := 2) (Nat.le_of_ble_eq_true rfl)
  rw [lg_entry_eq]
  generalize (lg_sl ([Value.ref h0, Value.int (iI (k : Int))]) ++ List.replicate (2 - (lg_sl ([Value.ref h0, Value.int (iI (k : Int))])).length) Slot.unset).toArray = ls at hl ⊢
  have hl : lv_has ls 2 [(0, .ref h0), (1, .int (iI (k : Int)))] := hl
  refine lv_iload_n hx hb d_AL_get_0 rfl (lv_at hl 1 rfl) ?_
  refine lv_aload_n hx hb d_AL_get_1 rfl (lv_at hl 0 rfl) ?_
  refine va_get (D := D) (ci := 9) (v := .int (iI n)) (C := "java/util/ArrayList") (T := T_AL) (N := 3) hx hb hts in_AL hown hK hP 0 rfl rfl 1 (by decide) (hts _ wd_48) (fun _ h9 => h9) rfl d_AL_get_2 ?_
  refine vp_callSi (nv_runS (wc := []) (As := [.int (iI (k : Int)), .int (iI n)]) (rest := []) ⟨hx, hb, hml, hown, hts⟩ (m_Obj_checkIndex l D cI cJ cO cZ (k : Int) n (fun z => z = (k : Int)) (s_Obj_checkIndex (by omega) hk (by omega))) (nv_cwS2 (n := 2) hts wd_270 wd_271 wd_23 wd_272 (by decide +kernel) ⟨Nat.le_of_ble_eq_true rfl, Nat.le_of_ble_eq_true rfl⟩) hK (hP.sub [] rfl) rfl hl.1 rfl (Nat.le_of_ble_eq_true rfl) d_AL_get_5 (Nat.le_of_ble_eq_true rfl) (Nat.le_of_ble_eq_true rfl)) (fun r0 hr0 => ?_)
  obtain ⟨z0, rfl, rfl⟩ := hr0
  refine lv_pop hx hb d_AL_get_8 rfl ?_
  refine lv_aload_n hx hb d_AL_get_9 rfl (lv_at hl 0 rfl) ?_
  refine lv_iload_n hx hb d_AL_get_10 rfl (lv_at hl 1 rfl) ?_
  refine va_csr (nv_runV (wc := [(h0, .inr (9, [.ref h1, .int (iI n), .int (iI md)])), (h1, .inl (cO, cap, .inr (.inr (.inr (.inr f)))))]) (As := [.int (iI (k : Int))]) (rest := []) ⟨hx, hb, hml, hown, hts⟩ (m_AL_elementData l D cI cJ cO cZ h0 h1 n md cap f k r hf hn hk hc) (nv_cwV (n := 1) hts wd_276 wd_277 wd_278 wd_4 wd_279 (by decide +kernel) ⟨Nat.le_of_ble_eq_true rfl, Nat.le_of_ble_eq_true rfl⟩) hK (hP.sub [0, 1] rfl) (va_recv hK hP (ci := 9) (q0 := 0) rfl rfl) rfl hl.1 rfl (Nat.le_of_ble_eq_true rfl) d_AL_get_11 (Nat.le_of_ble_eq_true rfl) (Nat.le_of_ble_eq_true rfl)) (fun r1 hr1 => ?_)
  subst hr1
  exact W.aret (v := .ref r1) hx hb hr (Or.inl ⟨_, rfl⟩) (Or.inr ⟨_, rfl⟩) (fun t ht hW => ⟨_, rfl, rfl, ht⟩) (fun q h => by cases h) d_AL_get_14

