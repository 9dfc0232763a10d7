/-! MODULE ArrayList: the first add -/
theorem d_AL_grow1_0 : decode prog_25_method_6_code 0 = .ok (.aload_n 0, 1) := by decide +kernel
theorem d_AL_grow1_1 : decode prog_25_method_6_code 1 = .ok (.getfield 9, 3) := by decide +kernel
theorem d_AL_grow1_4 : decode prog_25_method_6_code 4 = .ok (.arraylength, 1) := by decide +kernel
theorem d_AL_grow1_5 : decode prog_25_method_6_code 5 = .ok (.istore_n 2, 1) := by decide +kernel
theorem d_AL_grow1_6 : decode prog_25_method_6_code 6 = .ok (.iload_n 2, 1) := by decide +kernel
theorem d_AL_grow1_7 : decode prog_25_method_6_code 7 = .ok (.ifCond .gt 13, 3) := by decide +kernel
theorem d_AL_grow1_10 : decode prog_25_method_6_code 10 = .ok (.aload_n 0, 1) := by decide +kernel
theorem d_AL_grow1_11 : decode prog_25_method_6_code 11 = .ok (.getfield 9, 3) := by decide +kernel
theorem d_AL_grow1_14 : decode prog_25_method_6_code 14 = .ok (.getstatic 39, 3) := by decide +kernel
theorem d_AL_grow1_17 : decode prog_25_method_6_code 17 = .ok (.if_acmp .eq 28, 3) := by decide +kernel
theorem d_AL_grow1_20 : decode prog_25_method_6_code 20 = .ok (.iload_n 2, 1) := by decide +kernel
theorem d_AL_grow1_21 : decode prog_25_method_6_code 21 = .ok (.iload_n 1, 1) := by decide +kernel
theorem d_AL_grow1_22 : decode prog_25_method_6_code 22 = .ok (.iload_n 2, 1) := by decide +kernel
theorem d_AL_grow1_23 : decode prog_25_method_6_code 23 = .ok (.isub, 1) := by decide +kernel
theorem d_AL_grow1_24 : decode prog_25_method_6_code 24 = .ok (.iload_n 2, 1) := by decide +kernel
theorem d_AL_grow1_25 : decode prog_25_method_6_code 25 = .ok (.iconst 1, 1) := by decide +kernel
theorem d_AL_grow1_26 : decode prog_25_method_6_code 26 = .ok (.ishr, 1) := by decide +kernel
theorem d_AL_grow1_27 : decode prog_25_method_6_code 27 = .ok (.invokestatic 73, 3) := by decide +kernel
theorem d_AL_grow1_30 : decode prog_25_method_6_code 30 = .ok (.istore_n 3, 1) := by decide +kernel
theorem d_AL_grow1_31 : decode prog_25_method_6_code 31 = .ok (.aload_n 0, 1) := by decide +kernel
theorem d_AL_grow1_32 : decode prog_25_method_6_code 32 = .ok (.aload_n 0, 1) := by decide +kernel
theorem d_AL_grow1_33 : decode prog_25_method_6_code 33 = .ok (.getfield 9, 3) := by decide +kernel
theorem d_AL_grow1_36 : decode prog_25_method_6_code 36 = .ok (.iload_n 3, 1) := by decide +kernel
theorem d_AL_grow1_37 : decode prog_25_method_6_code 37 = .ok (.invokestatic 66, 3) := by decide +kernel
theorem d_AL_grow1_40 : decode prog_25_method_6_code 40 = .ok (.dup_x1, 1) := by decide +kernel
theorem d_AL_grow1_41 : decode prog_25_method_6_code 41 = .ok (.putfield 9, 3) := by decide +kernel
theorem d_AL_grow1_44 : decode prog_25_method_6_code 44 = .ok (.areturn, 1) := by decide +kernel
theorem d_AL_grow1_45 : decode prog_25_method_6_code 45 = .ok (.aload_n 0, 1) := by decide +kernel
theorem d_AL_grow1_46 : decode prog_25_method_6_code 46 = .ok (.bipush 10, 2) := by decide +kernel
theorem d_AL_grow1_48 : decode prog_25_method_6_code 48 = .ok (.iload_n 1, 1) := by decide +kernel
theorem d_AL_grow1_49 : decode prog_25_method_6_code 49 = .ok (.invokestatic 79, 3) := by decide +kernel
theorem d_AL_grow1_52 : decode prog_25_method_6_code 52 = .ok (.anewarray 7, 3) := by decide +kernel
theorem d_AL_grow1_55 : decode prog_25_method_6_code 55 = .ok (.dup_x1, 1) := by decide +kernel
theorem d_AL_grow1_56 : decode prog_25_method_6_code 56 = .ok (.putfield 9, 3) := by decide +kernel
theorem d_AL_grow1_59 : decode prog_25_method_6_code 59 = .ok (.areturn, 1) := by decide +kernel
def vc_AL_grow1F (md : Int) (post : Prop) : Prop := post
set_option maxHeartbeats 4000000 in
set_option maxRecDepth 100000 in
theorem m_AL_grow1F (l : Launch) (D : va_G) (cI cJ cO cZ : ClassId) (qd mi : Nat) (Z : State) (hZ : EvZ qd mi Z) (h0 : Nat) (sz : Nat) (md : Int) (post : Prop) (v : vc_AL_grow1F md post) : Met l ⟨"java/util/ArrayList", "grow", "(I)[Ljava/lang/Object;"⟩ (.code ⟨"java/util/ArrayList", "grow", "(I)[Ljava/lang/Object;"⟩ prog_25_method_6_code 4 (some (.array (.object "java/lang/Object"))) :: TG) { frames := 1, cells := 1, slots := 10, locals := 24 } (va_Pc [.ref h0, .int (iI 1)] (fun U => U.heap.size = sz ∧ va_P D vwCl [(h0, .inr (9, [.ref qd, .int (iI 0), .int (iI md)]))] U.heap ∧ va_K D vwCl (tyx cI cJ cO cZ) U ∧ va_D (fun q => Z.heap.size ≤ q) [(h0, .inr (9, [.ref qd, .int (iI 0), .int (iI md)]))] ∧ Ev Z U)) (va_Qr (fun u : Unit => post ) (fun u h2 t => va_P D vwCl [(h0, .inr (9, [.ref h2, .int (iI 0), .int (iI md)])), (h2, .inl (cO, 10, .inr (.inr (.inr (.inr (fun _ => none))))))] t.heap ∧ va_K D vwCl (tyx cI cJ cO cZ) t ∧ va_D (va_A [(h0, .inr (9, [.ref qd, .int (iI 0), .int (iI md)]))] sz) [(h0, .inr (9, [.ref h2, .int (iI 0), .int (iI md)])), (h2, .inl (cO, 10, .inr (.inr (.inr (.inr (fun _ => none))))))]) (va_A [(h0, .inr (9, [.ref qd, .int (iI 0), .int (iI md)]))] sz)) 1 10 (va_A [(h0, .inr (9, [.ref qd, .int (iI 0), .int (iI md)]))] sz) := by
  refine Met.ofW (cc := prog_25_method_6_code) (maxL := 4) (ret := (some (.array (.object "java/lang/Object")))) (by decide) rfl ?_
  intro p e s m args below meth c s₁ B hml hv
  obtain ⟨rfl, hsz, hP, hK, hD0, hE⟩ := hv
  have hx := B.exec
  have hb := B.bytes
  have hr := B.returns
  have hts0 := atoms_spec (ws := (.code ⟨"java/util/ArrayList", "grow", "(I)[Ljava/lang/Object;"⟩ prog_25_method_6_code 4 (some (.array (.object "java/lang/Object"))) :: TG)) B.pre
  have hts : ∀ w ∈ TG, w.before _ s = true := fun w h => hts0 w (List.mem_cons_of_mem _ h)
  have hown : s.vm.findClass "java/util/ArrayList" = some m.cls := findClass_of_methodNamed B.named
  have hlocks := B.notSynchronized
  subst hsz
  have hD := hD0.self (sz := s.heap.size)
  have hAZ : ∀ q, va_A [(h0, .inr (9, [.ref qd, .int (iI 0), .int (iI md)]))] s.heap.size q → Z.heap.size ≤ q := fun q h => hE.inA hD0 h
  generalize hAe : va_A [(h0, .inr (9, [.ref qd, .int (iI 0), .int (iI md)]))] s.heap.size = A at hD hAZ ⊢
  have hA : ∀ q : Nat, s.heap.size ≤ q → A q := fun q h => by rw [← hAe]; exact Or.inr h
  have hS : va_S A s.heap s.heap [] := va_S.rf
  have hP : va_P D vwCl [(h0, .inr (9, [.ref qd, .int (iI 0), .int (iI md)]))] s.heap := hP
  have hl := lv_entry ([Value.ref h0, Value.int (iI 1)]) (n := 4) (Nat.le_of_ble_eq_true rfl)
  rw [lg_entry_eq]
  generalize (lg_sl ([Value.ref h0, Value.int (iI 1)]) ++ List.replicate (4 - (lg_sl ([Value.ref h0, Value.int (iI 1)])).length) Slot.unset).toArray = ls at hl ⊢
  have hl : lv_has ls 4 [(0, .ref h0), (1, .int (iI 1))] := hl
  unfold vc_AL_grow1F at v
  obtain ⟨H, hH⟩ : ∃ H, H = s.heap := ⟨_, rfl⟩
  obtain ⟨locs, hlc⟩ : ∃ L : List Loc, L = [] := ⟨_, rfl⟩
  rw [← hlc] at hS ⊢
  have hP : va_P D vwCl [(h0, .inr (9, [.ref qd, .int (iI 0), .int (iI md)]))] H := by rw [hH]; exact hP
  have hS : va_S A s.heap H locs := by rw [hH]; exact hS
  have hW0 : ∀ {X : Heap → Prop}, X H → X s.heap := fun h => by rw [← hH]; exact h
  refine hW0 (X := fun Z => W p l e _ s m _ below meth c Z locs 0 0 _ _) ?_
  refine lv_aload_n hx hb d_AL_grow1_0 rfl (lv_at hl 0 rfl) ?_
  refine va_get (D := D) (ci := 9) (v := .ref qd) (C := "java/util/ArrayList") (T := T_AL) (N := 3) hx hb hts in_AL hown hK hP 0 rfl rfl 0 (by decide) (hts _ wd_47) (fun _ h9 => h9) rfl d_AL_grow1_1 ?_
  refine va_tlen hx hb (hE.dt hZ hAZ) hS (v := iI 0) rfl d_AL_grow1_4 ?_
  refine lv_istore_n (lv' := [(2, .int (iI 0)), (0, .ref h0), (1, .int (iI 1))]) hx hb d_AL_grow1_5 rfl hl (by decide) rfl (fun ls hl => ?_)
  refine lv_iload_n hx hb d_AL_grow1_6 rfl (lv_at hl 0 rfl) ?_
  refine nv_if_gt (tgt := 20) hx hb d_AL_grow1_7 (by decide) (by decide) (fun c1 => absurd c1 (by decide)) (fun _ => ?_)
  refine lv_aload_n hx hb d_AL_grow1_10 rfl (lv_at hl 1 rfl) ?_
  refine va_get (D := D) (ci := 9) (v := .ref qd) (C := "java/util/ArrayList") (T := T_AL) (N := 3) hx hb hts in_AL hown hK hP 0 rfl rfl 0 (by decide) (hts _ wd_47) (fun _ h9 => h9) rfl d_AL_grow1_11 ?_
  refine va_gets hx hb (hE.dc hZ hAZ) hS hown (hts _ wd_45) (fun _ h9 => h9) d_AL_grow1_14 ?_
  refine lv_acmp_eq (rx := some qd) (ry := some qd) (tgt := 45) hx hb d_AL_grow1_17 (by decide) (fun _ => ?_) (fun h9 => absurd rfl h9)
  refine lv_aload_n hx hb d_AL_grow1_45 rfl (lv_at hl 1 rfl) ?_
  refine nv_bipush (z := 10) hx hb d_AL_grow1_46 (by decide) ?_
  refine lv_iload_n hx hb d_AL_grow1_48 rfl (lv_at hl 2 rfl) ?_
  refine nv_mmax (a := 10) (b := 1) hx hb (hml.trans hl.1.symm) hown (hts _ wd_429) (hts _ wd_292) (hts _ wd_18) (hts _ wd_293) (Nat.le_of_ble_eq_true rfl) (Nat.le_of_ble_eq_true rfl) (Nat.le_of_ble_eq_true rfl) (Nat.le_of_ble_eq_true rfl) (by decide) (by decide) d_AL_grow1_49 ?_
  refine nv_newo hx hb hown (hts _ wd_430) (va_AO.of (hE.tbl hZ (List.mem_append_right _ (List.mem_of_getElem? (i := 423) (by decide +kernel))) (by decide +kernel) (a := #[]))) hK hP hD hS hA 2 rfl 10 (by first | rfl | omega) (by first | decide | omega) (Nat.le_of_ble_eq_true rfl) (Nat.le_of_ble_eq_true rfl) d_AL_grow1_52 (fun q2 H hP hD hS => ?_)
  have hP : va_P D vwCl [(h0, .inr (9, [.ref qd, .int (iI 0), .int (iI md)])), (q2, .inl (cO, 10, .inr (.inr (.inr (.inr (fun _ => none))))))] H := hP
  have hD : va_D A [(h0, .inr (9, [.ref qd, .int (iI 0), .int (iI md)])), (q2, .inl (cO, 10, .inr (.inr (.inr (.inr (fun _ => none))))))] := hD
  refine W.widen (k := 1) (n := 10) (Nat.le_of_ble_eq_true rfl) (Nat.le_of_ble_eq_true rfl) ?_
  refine lv_dup_x1 hx hb d_AL_grow1_55 rfl rfl ?_
  refine va_put (D := D) (ci := 9) (v := .ref q2) (ty := .array (.object "java/lang/Object")) (C := "java/util/ArrayList") (T := T_AL) (N := 3) hx hb hts in_AL t_AL tok_AL n_AL hown hK hP hD hS 0 rfl rfl 0 (by decide) (hts _ wd_47) (fun _ h9 => h9) rfl (by decide +kernel) rfl rfl (Nat.le_of_ble_eq_true rfl) d_AL_grow1_56 (fun H locs hP hD hS => ?_)
  have hP : va_P D vwCl [(h0, .inr (9, [.ref q2, .int (iI 0), .int (iI md)])), (q2, .inl (cO, 10, .inr (.inr (.inr (.inr (fun _ => none))))))] H := hP
  have hD : va_D A [(h0, .inr (9, [.ref q2, .int (iI 0), .int (iI md)])), (q2, .inl (cO, 10, .inr (.inr (.inr (.inr (fun _ => none))))))] := hD
  have hP9 := hP.sub (ws' := [(h0, .inr (9, [.ref q2, .int (iI 0), .int (iI md)])), (q2, .inl (cO, 10, .inr (.inr (.inr (.inr (fun _ => none))))))]) [0, 1] rfl
  have hD9 := hD.sub (ws' := [(h0, .inr (9, [.ref q2, .int (iI 0), .int (iI md)])), (q2, .inl (cO, 10, .inr (.inr (.inr (.inr (fun _ => none))))))]) [0, 1] (by decide) rfl
  exact W.aret hx hb hr (by first | exact Or.inl ⟨_, rfl⟩ | exact Or.inr ⟨_, rfl⟩) (Or.inr ⟨_, rfl⟩) (fun t ht hW => ⟨⟨(), _, rfl, v, by rw [ht]; exact hP9, va_K.moved hW.alike hK, hD9⟩, hS.F ht⟩) hS.2.2 d_AL_grow1_59

theorem d_AL_grow0_0 : decode prog_25_method_7_code 0 = .ok (.aload_n 0, 1) := by decide +kernel
theorem d_AL_grow0_1 : decode prog_25_method_7_code 1 = .ok (.aload_n 0, 1) := by decide +kernel
theorem d_AL_grow0_2 : decode prog_25_method_7_code 2 = .ok (.getfield 48, 3) := by decide +kernel
theorem d_AL_grow0_5 : decode prog_25_method_7_code 5 = .ok (.iconst 1, 1) := by decide +kernel
theorem d_AL_grow0_6 : decode prog_25_method_7_code 6 = .ok (.iadd, 1) := by decide +kernel
theorem d_AL_grow0_7 : decode prog_25_method_7_code 7 = .ok (.invokevirtual 69, 3) := by decide +kernel
theorem d_AL_grow0_10 : decode prog_25_method_7_code 10 = .ok (.areturn, 1) := by decide +kernel
def vc_AL_grow0F (md : Int) (post : Prop) : Prop := ∃ P1 : Prop, vc_AL_grow1F md P1 ∧ (P1  → post)
set_option maxHeartbeats 4000000 in
set_option maxRecDepth 100000 in
theorem m_AL_grow0F (l : Launch) (D : va_G) (cI cJ cO cZ : ClassId) (qd mi : Nat) (Z : State) (hZ : EvZ qd mi Z) (h0 : Nat) (sz : Nat) (md : Int) (post : Prop) (v : vc_AL_grow0F md post) : Met l ⟨"java/util/ArrayList", "grow", "()[Ljava/lang/Object;"⟩ (.code ⟨"java/util/ArrayList", "grow", "()[Ljava/lang/Object;"⟩ prog_25_method_7_code 1 (some (.array (.object "java/lang/Object"))) :: TG) { frames := 2, cells := 1, slots := 10, locals := 47 } (va_Pc [.ref h0] (fun U => U.heap.size = sz ∧ va_P D vwCl [(h0, .inr (9, [.ref qd, .int (iI 0), .int (iI md)]))] U.heap ∧ va_K D vwCl (tyx cI cJ cO cZ) U ∧ va_D (fun q => Z.heap.size ≤ q) [(h0, .inr (9, [.ref qd, .int (iI 0), .int (iI md)]))] ∧ Ev Z U)) (va_Qr (fun u : Unit => post ) (fun u h2 t => va_P D vwCl [(h0, .inr (9, [.ref h2, .int (iI 0), .int (iI md)])), (h2, .inl (cO, 10, .inr (.inr (.inr (.inr (fun _ => none))))))] t.heap ∧ va_K D vwCl (tyx cI cJ cO cZ) t ∧ va_D (va_A [(h0, .inr (9, [.ref qd, .int (iI 0), .int (iI md)]))] sz) [(h0, .inr (9, [.ref h2, .int (iI 0), .int (iI md)])), (h2, .inl (cO, 10, .inr (.inr (.inr (.inr (fun _ => none))))))]) (va_A [(h0, .inr (9, [.ref qd, .int (iI 0), .int (iI md)]))] sz)) 1 10 (va_A [(h0, .inr (9, [.ref qd, .int (iI 0), .int (iI md)]))] sz) := by
  refine Met.ofW (cc := prog_25_method_7_code) (maxL := 1) (ret := (some (.array (.object "java/lang/Object")))) (by decide) rfl ?_
  intro p e s m args below meth c s₁ B hml hv
  obtain ⟨rfl, hsz, hP, hK, hD0, hE⟩ := hv
  have hx := B.exec
  have hb := B.bytes
  have hr := B.returns
  have hts0 := atoms_spec (ws := (.code ⟨"java/util/ArrayList", "grow", "()[Ljava/lang/Object;"⟩ prog_25_method_7_code 1 (some (.array (.object "java/lang/Object"))) :: TG)) B.pre
  have hts : ∀ w ∈ TG, w.before _ s = true := fun w h => hts0 w (List.mem_cons_of_mem _ h)
  have hown : s.vm.findClass "java/util/ArrayList" = some m.cls := findClass_of_methodNamed B.named
  have hlocks := B.notSynchronized
  subst hsz
  have hD := hD0.self (sz := s.heap.size)
  have hAZ : ∀ q, va_A [(h0, .inr (9, [.ref qd, .int (iI 0), .int (iI md)]))] s.heap.size q → Z.heap.size ≤ q := fun q h => hE.inA hD0 h
  generalize hAe : va_A [(h0, .inr (9, [.ref qd, .int (iI 0), .int (iI md)]))] s.heap.size = A at hD hAZ ⊢
  have hA : ∀ q : Nat, s.heap.size ≤ q → A q := fun q h => by rw [← hAe]; exact Or.inr h
  have hS : va_S A s.heap s.heap [] := va_S.rf
  have hP : va_P D vwCl [(h0, .inr (9, [.ref qd, .int (iI 0), .int (iI md)]))] s.heap := hP
  have hl := lv_entry ([Value.ref h0]) (n := 1) (Nat.le_of_ble_eq_true rfl)
  rw [lg_entry_eq]
  generalize (lg_sl ([Value.ref h0]) ++ List.replicate (1 - (lg_sl ([Value.ref h0])).length) Slot.unset).toArray = ls at hl ⊢
  have hl : lv_has ls 1 [(0, .ref h0)] := hl
  unfold vc_AL_grow0F at v
  obtain ⟨H, hH⟩ : ∃ H, H = s.heap := ⟨_, rfl⟩
  obtain ⟨locs, hlc⟩ : ∃ L : List Loc, L = [] := ⟨_, rfl⟩
  rw [← hlc] at hS ⊢
  have hP : va_P D vwCl [(h0, .inr (9, [.ref qd, .int (iI 0), .int (iI md)]))] H := by rw [hH]; exact hP
  have hS : va_S A s.heap H locs := by rw [hH]; exact hS
  have hW0 : ∀ {X : Heap → Prop}, X H → X s.heap := fun h => by rw [← hH]; exact h
  refine hW0 (X := fun Z => W p l e _ s m _ below meth c Z locs 0 0 _ _) ?_
  refine lv_aload_n hx hb d_AL_grow0_0 rfl (lv_at hl 0 rfl) ?_
  refine lv_aload_n hx hb d_AL_grow0_1 rfl (lv_at hl 0 rfl) ?_
  refine va_get (D := D) (ci := 9) (v := .int (iI 0)) (C := "java/util/ArrayList") (T := T_AL) (N := 3) hx hb hts in_AL hown hK hP 0 rfl rfl 1 (by decide) (hts _ wd_48) (fun _ h9 => h9) rfl d_AL_grow0_2 ?_
  refine nv_iconst (n := 1) hx hb d_AL_grow0_5 ?_
  refine nv_iadd (z := 1) hx hb d_AL_grow0_6 (by first | rfl | omega) ?_
  obtain ⟨P1, q2, v⟩ := v
  have hPc := hP.sub (ws' := [(h0, .inr (9, [.ref qd, .int (iI 0), .int (iI md)]))]) [0] rfl
  have hDc := hD.sub (ws' := [(h0, .inr (9, [.ref qd, .int (iI 0), .int (iI md)]))]) [0] (by decide) rfl
  have hFc := va_free (wc := [(h0, .inr (9, [.ref qd, .int (iI 0), .int (iI md)]))]) hD hS hA [0] rfl
  refine va_callr (va_runV (As := [.int (iI 1)]) (rest := []) ⟨hx, hb, hml, hown, hts⟩ (m_AL_grow1F l D cI cJ cO cZ qd mi Z hZ h0 H.size md   P1 q2) (nv_cwV (n := 1) hts wd_387 wd_389 sl_11 wd_4 wd_390 (by decide +kernel) ⟨Nat.le_of_ble_eq_true rfl, Nat.le_of_ble_eq_true rfl⟩) ⟨blWE, va_recv hK hPc (ci := 9) (q0 := 0) rfl rfl, fun U hU hW => ⟨rfl, by rw [hU], by rw [hU]; exact hPc, va_K.moved hW.alike hK, hDc.weaken (fun _ _ _ h => hAZ _ h), hE.step hAZ hS hU hW⟩⟩ rfl rfl hl.1 rfl (lv_room (Nat.le_of_ble_eq_true rfl)) d_AL_grow0_7 ⟨Nat.le_of_ble_eq_true rfl, Nat.le_of_ble_eq_true rfl⟩) hS (fun q _ h => hFc q h) hFc (fun u ra t H1 locs ht hvm hw hB hz1 hk1 hS => ?_)
  obtain ⟨a3, rfl⟩ : ∃ z, z = ra := ⟨_, rfl⟩
  obtain ⟨hP1, hK1, hD1⟩ := hB
  rw [ht] at hP1
  obtain ⟨hP, hD⟩ := va_join (wr := []) (w1 := [(h0, .inr (9, [.ref a3, .int (iI 0), .int (iI md)])), (a3, .inl (cO, 10, .inr (.inr (.inr (.inr (fun _ => none))))))]) hP hD [0] [] rfl rfl (by decide) (by decide) hk1 hFc hP1 hD1
  generalize H1 = H at hP hS ⊢
  have hP : va_P D vwCl [(h0, .inr (9, [.ref a3, .int (iI 0), .int (iI md)])), (a3, .inl (cO, 10, .inr (.inr (.inr (.inr (fun _ => none))))))] H := hP
  have hD : va_D A [(h0, .inr (9, [.ref a3, .int (iI 0), .int (iI md)])), (a3, .inl (cO, 10, .inr (.inr (.inr (.inr (fun _ => none))))))] := hD
  refine W.widen (k := 1) (n := 10) (Nat.le_of_ble_eq_true rfl) (Nat.le_of_ble_eq_true rfl) ?_
  replace v := v hw
  have hP9 := hP.sub (ws' := [(h0, .inr (9, [.ref a3, .int (iI 0), .int (iI md)])), (a3, .inl (cO, 10, .inr (.inr (.inr (.inr (fun _ => none))))))]) [0, 1] rfl
  have hD9 := hD.sub (ws' := [(h0, .inr (9, [.ref a3, .int (iI 0), .int (iI md)])), (a3, .inl (cO, 10, .inr (.inr (.inr (.inr (fun _ => none))))))]) [0, 1] (by decide) rfl
  exact W.aret hx hb hr (by first | exact Or.inl ⟨_, rfl⟩ | exact Or.inr ⟨_, rfl⟩) (Or.inr ⟨_, rfl⟩) (fun t ht hW => ⟨⟨(), _, rfl, v, by rw [ht]; exact hP9, va_K.moved hW.alike hK, hD9⟩, hS.F ht⟩) hS.2.2 d_AL_grow0_10

theorem d_AL_add1_0 : decode prog_25_method_24_code 0 = .ok (.iload_n 3, 1) := by decide +kernel
theorem d_AL_add1_1 : decode prog_25_method_24_code 1 = .ok (.aload_n 2, 1) := by decide +kernel
theorem d_AL_add1_2 : decode prog_25_method_24_code 2 = .ok (.arraylength, 1) := by decide +kernel
theorem d_AL_add1_3 : decode prog_25_method_24_code 3 = .ok (.if_icmp .ne 8, 3) := by decide +kernel
theorem d_AL_add1_6 : decode prog_25_method_24_code 6 = .ok (.aload_n 0, 1) := by decide +kernel
theorem d_AL_add1_7 : decode prog_25_method_24_code 7 = .ok (.invokevirtual 129, 3) := by decide +kernel
theorem d_AL_add1_10 : decode prog_25_method_24_code 10 = .ok (.astore_n 2, 1) := by decide +kernel
theorem d_AL_add1_11 : decode prog_25_method_24_code 11 = .ok (.aload_n 2, 1) := by decide +kernel
theorem d_AL_add1_12 : decode prog_25_method_24_code 12 = .ok (.iload_n 3, 1) := by decide +kernel
theorem d_AL_add1_13 : decode prog_25_method_24_code 13 = .ok (.aload_n 1, 1) := by decide +kernel
theorem d_AL_add1_14 : decode prog_25_method_24_code 14 = .ok (.aastore, 1) := by decide +kernel
theorem d_AL_add1_15 : decode prog_25_method_24_code 15 = .ok (.aload_n 0, 1) := by decide +kernel
theorem d_AL_add1_16 : decode prog_25_method_24_code 16 = .ok (.iload_n 3, 1) := by decide +kernel
theorem d_AL_add1_17 : decode prog_25_method_24_code 17 = .ok (.iconst 1, 1) := by decide +kernel
theorem d_AL_add1_18 : decode prog_25_method_24_code 18 = .ok (.iadd, 1) := by decide +kernel
theorem d_AL_add1_19 : decode prog_25_method_24_code 19 = .ok (.putfield 48, 3) := by decide +kernel
theorem d_AL_add1_22 : decode prog_25_method_24_code 22 = .ok (.return_, 1) := by decide +kernel
def vc_AL_add1FE (md : Int) (post : Prop) : Prop := ∃ P2 : Prop, vc_AL_grow0F md P2 ∧ (P2  → post )
set_option maxHeartbeats 4000000 in
set_option maxRecDepth 100000 in
theorem m_AL_add1FE (l : Launch) (D : va_G) (cI cJ cO cZ : ClassId) (qd mi : Nat) (Z : State) (hZ : EvZ qd mi Z) (h0 v0 : Nat) (sz : Nat) (md : Int) (vs : List Value) (post : Prop) (v : vc_AL_add1FE md post) : Met l ⟨"java/util/ArrayList", "add", "(Ljava/lang/Object;[Ljava/lang/Object;I)V"⟩ (.code ⟨"java/util/ArrayList", "add", "(Ljava/lang/Object;[Ljava/lang/Object;I)V"⟩ prog_25_method_24_code 4 none :: TG) { frames := 3, cells := 1, slots := 10, locals := 67 } (va_Pc [.ref h0, .ref v0, .ref qd, .int (iI 0)] (fun U => U.heap.size = sz ∧ va_P D vwCl [(h0, .inr (9, [.ref qd, .int (iI 0), .int (iI md)])), (v0, .inr (4, vs))] U.heap ∧ va_K D vwCl (tyx cI cJ cO cZ) U ∧ va_D (fun q => Z.heap.size ≤ q) [(h0, .inr (9, [.ref qd, .int (iI 0), .int (iI md)])), (v0, .inr (4, vs))] ∧ Ev Z U)) (va_Qv (fun u : Unit => post ) (fun u t => ∃ (h2 : Nat), va_P D vwCl [(h0, .inr (9, [.ref h2, .int (iI 1), .int (iI md)])), (v0, .inr (4, vs)), (h2, .inl (cO, 10, .inr (.inr (.inr (.inr (va_up (fun _ => none) 0 (some v0)))))))] t.heap ∧ va_K D vwCl (tyx cI cJ cO cZ) t ∧ va_D (va_A [(h0, .inr (9, [.ref qd, .int (iI 0), .int (iI md)])), (v0, .inr (4, vs))] sz) [(h0, .inr (9, [.ref h2, .int (iI 1), .int (iI md)])), (v0, .inr (4, vs)), (h2, .inl (cO, 10, .inr (.inr (.inr (.inr (va_up (fun _ => none) 0 (some v0)))))))]) (va_A [(h0, .inr (9, [.ref qd, .int (iI 0), .int (iI md)])), (v0, .inr (4, vs))] sz)) 1 10 (va_A [(h0, .inr (9, [.ref qd, .int (iI 0), .int (iI md)])), (v0, .inr (4, vs))] sz) := by
  refine Met.ofW (cc := prog_25_method_24_code) (maxL := 4) (ret := none) (by decide) rfl ?_
  intro p e s m args below meth c s₁ B hml hv
  obtain ⟨rfl, hsz, hP, hK, hD0, hE⟩ := hv
  have hx := B.exec
  have hb := B.bytes
  have hr := B.returns
  have hts0 := atoms_spec (ws := (.code ⟨"java/util/ArrayList", "add", "(Ljava/lang/Object;[Ljava/lang/Object;I)V"⟩ prog_25_method_24_code 4 none :: TG)) B.pre
  have hts : ∀ w ∈ TG, w.before _ s = true := fun w h => hts0 w (List.mem_cons_of_mem _ h)
  have hown : s.vm.findClass "java/util/ArrayList" = some m.cls := findClass_of_methodNamed B.named
  have hlocks := B.notSynchronized
  subst hsz
  have hD := hD0.self (sz := s.heap.size)
  have hAZ : ∀ q, va_A [(h0, .inr (9, [.ref qd, .int (iI 0), .int (iI md)])), (v0, .inr (4, vs))] s.heap.size q → Z.heap.size ≤ q := fun q h => hE.inA hD0 h
  generalize hAe : va_A [(h0, .inr (9, [.ref qd, .int (iI 0), .int (iI md)])), (v0, .inr (4, vs))] s.heap.size = A at hD hAZ ⊢
  have hA : ∀ q : Nat, s.heap.size ≤ q → A q := fun q h => by rw [← hAe]; exact Or.inr h
  have hS : va_S A s.heap s.heap [] := va_S.rf
  have hP : va_P D vwCl [(h0, .inr (9, [.ref qd, .int (iI 0), .int (iI md)])), (v0, .inr (4, vs))] s.heap := hP
  have hl := lv_entry ([Value.ref h0, Value.ref v0, Value.ref qd, Value.int (iI 0)]) (n := 4) (Nat.le_of_ble_eq_true rfl)
  rw [lg_entry_eq]
  generalize (lg_sl ([Value.ref h0, Value.ref v0, Value.ref qd, Value.int (iI 0)]) ++ List.replicate (4 - (lg_sl ([Value.ref h0, Value.ref v0, Value.ref qd, Value.int (iI 0)])).length) Slot.unset).toArray = ls at hl ⊢
  have hl : lv_has ls 4 [(0, .ref h0), (1, .ref v0), (2, .ref qd), (3, .int (iI 0))] := hl
  unfold vc_AL_add1FE at v
  obtain ⟨H, hH⟩ : ∃ H, H = s.heap := ⟨_, rfl⟩
  obtain ⟨locs, hlc⟩ : ∃ L : List Loc, L = [] := ⟨_, rfl⟩
  rw [← hlc] at hS ⊢
  have hP : va_P D vwCl [(h0, .inr (9, [.ref qd, .int (iI 0), .int (iI md)])), (v0, .inr (4, vs))] H := by rw [hH]; exact hP
  have hS : va_S A s.heap H locs := by rw [hH]; exact hS
  have hW0 : ∀ {X : Heap → Prop}, X H → X s.heap := fun h => by rw [← hH]; exact h
  refine hW0 (X := fun Z => W p l e _ s m _ below meth c Z locs 0 0 _ _) ?_
  refine lv_iload_n hx hb d_AL_add1_0 rfl (lv_at hl 3 rfl) ?_
  refine lv_aload_n hx hb d_AL_add1_1 rfl (lv_at hl 2 rfl) ?_
  refine va_tlen hx hb (hE.dt hZ hAZ) hS (v := iI 0) rfl d_AL_add1_2 ?_
  refine nv_icmp_ne (tgt := 11) hx hb d_AL_add1_3 (by decide) (by decide) (by decide) (fun c1 => absurd c1 (by decide)) (fun _ => ?_)
  refine lv_aload_n hx hb d_AL_add1_6 rfl (lv_at hl 0 rfl) ?_
  obtain ⟨P2, q3, v⟩ := v
  have hPc := hP.sub (ws' := [(h0, .inr (9, [.ref qd, .int (iI 0), .int (iI md)]))]) [0] rfl
  have hDc := hD.sub (ws' := [(h0, .inr (9, [.ref qd, .int (iI 0), .int (iI md)]))]) [0] (by decide) rfl
  have hFc := va_free (wc := [(h0, .inr (9, [.ref qd, .int (iI 0), .int (iI md)]))]) hD hS hA [0] rfl
  refine va_callr (va_runV (As := []) (rest := []) ⟨hx, hb, hml, hown, hts⟩ (m_AL_grow0F l D cI cJ cO cZ qd mi Z hZ h0 H.size md   P2 q3) (nv_cwV (n := 0) hts wd_383 wd_385 sl_10 wd_4 wd_386 (by decide +kernel) ⟨Nat.le_of_ble_eq_true rfl, Nat.le_of_ble_eq_true rfl⟩) ⟨blWE, va_recv hK hPc (ci := 9) (q0 := 0) rfl rfl, fun U hU hW => ⟨rfl, by rw [hU], by rw [hU]; exact hPc, va_K.moved hW.alike hK, hDc.weaken (fun _ _ _ h => hAZ _ h), hE.step hAZ hS hU hW⟩⟩ rfl rfl hl.1 rfl (lv_room (Nat.le_of_ble_eq_true rfl)) d_AL_add1_7 ⟨Nat.le_of_ble_eq_true rfl, Nat.le_of_ble_eq_true rfl⟩) hS (fun q _ h => hFc q h) hFc (fun u ra t H1 locs ht hvm hw hB hz1 hk1 hS => ?_)
  obtain ⟨a4, rfl⟩ : ∃ z, z = ra := ⟨_, rfl⟩
  obtain ⟨hP1, hK1, hD1⟩ := hB
  rw [ht] at hP1
  obtain ⟨hP, hD⟩ := va_join (wr := [(v0, .inr (4, vs))]) (w1 := [(h0, .inr (9, [.ref a4, .int (iI 0), .int (iI md)])), (a4, .inl (cO, 10, .inr (.inr (.inr (.inr (fun _ => none))))))]) hP hD [0] [1] rfl rfl (by decide) (by decide) hk1 hFc hP1 hD1
  generalize H1 = H at hP hS ⊢
  have hP : va_P D vwCl [(v0, .inr (4, vs)), (h0, .inr (9, [.ref a4, .int (iI 0), .int (iI md)])), (a4, .inl (cO, 10, .inr (.inr (.inr (.inr (fun _ => none))))))] H := hP
  have hD : va_D A [(v0, .inr (4, vs)), (h0, .inr (9, [.ref a4, .int (iI 0), .int (iI md)])), (a4, .inl (cO, 10, .inr (.inr (.inr (.inr (fun _ => none))))))] := hD
  refine W.widen (k := 1) (n := 10) (Nat.le_of_ble_eq_true rfl) (Nat.le_of_ble_eq_true rfl) ?_
  replace v := v hw
  refine lv_astore_n (lv' := [(2, .ref a4), (0, .ref h0), (1, .ref v0), (3, .int (iI 0))]) hx hb d_AL_add1_10 rfl hl (by decide) rfl (fun ls hl => ?_)
  refine lv_aload_n hx hb d_AL_add1_11 rfl (lv_at hl 0 rfl) ?_
  refine lv_iload_n hx hb d_AL_add1_12 rfl (lv_at hl 3 rfl) ?_
  refine lv_aload_n hx hb d_AL_add1_13 rfl (lv_at hl 2 rfl) ?_
  refine nv_asto hx hb hK hP hD hS 2 2 0 4 rfl rfl (va_Nw.of rfl (hE.tbl hZ (List.mem_append_right _ (List.mem_of_getElem? (i := 958) (by decide +kernel))) (by decide +kernel) (a := #[]))) rfl rfl 0 rfl (by decide) (by first | decide | omega) d_AL_add1_14 (fun H locs hP hD hS => ?_)
  have hP : va_P D vwCl [(v0, .inr (4, vs)), (h0, .inr (9, [.ref a4, .int (iI 0), .int (iI md)])), (a4, .inl (cO, 10, .inr (.inr (.inr (.inr (va_up (fun _ => none) 0 (some v0)))))))] H := hP
  have hD : va_D A [(v0, .inr (4, vs)), (h0, .inr (9, [.ref a4, .int (iI 0), .int (iI md)])), (a4, .inl (cO, 10, .inr (.inr (.inr (.inr (va_up (fun _ => none) 0 (some v0)))))))] := hD
  refine lv_aload_n hx hb d_AL_add1_15 rfl (lv_at hl 1 rfl) ?_
  refine lv_iload_n hx hb d_AL_add1_16 rfl (lv_at hl 3 rfl) ?_
  refine nv_iconst (n := 1) hx hb d_AL_add1_17 ?_
  refine nv_iadd (z := 1) hx hb d_AL_add1_18 (by first | rfl | omega) ?_
  refine va_put (D := D) (ci := 9) (v := .int (iI 1)) (ty := .int) (C := "java/util/ArrayList") (T := T_AL) (N := 3) hx hb hts in_AL t_AL tok_AL n_AL hown hK hP hD hS 1 rfl rfl 1 (by decide) (hts _ wd_48) (fun _ h9 => h9) rfl (by decide +kernel) rfl rfl (Nat.le_of_ble_eq_true rfl) d_AL_add1_19 (fun H locs hP hD hS => ?_)
  have hP : va_P D vwCl [(v0, .inr (4, vs)), (h0, .inr (9, [.ref a4, .int (iI 1), .int (iI md)])), (a4, .inl (cO, 10, .inr (.inr (.inr (.inr (va_up (fun _ => none) 0 (some v0)))))))] H := hP
  have hD : va_D A [(v0, .inr (4, vs)), (h0, .inr (9, [.ref a4, .int (iI 1), .int (iI md)])), (a4, .inl (cO, 10, .inr (.inr (.inr (.inr (va_up (fun _ => none) 0 (some v0)))))))] := hD
  have hP9 := hP.sub (ws' := [(h0, .inr (9, [.ref a4, .int (iI 1), .int (iI md)])), (v0, .inr (4, vs)), (a4, .inl (cO, 10, .inr (.inr (.inr (.inr (va_up (fun _ => none) 0 (some v0)))))))]) [1, 0, 2] rfl
  have hD9 := hD.sub (ws' := [(h0, .inr (9, [.ref a4, .int (iI 1), .int (iI md)])), (v0, .inr (4, vs)), (a4, .inl (cO, 10, .inr (.inr (.inr (.inr (va_up (fun _ => none) 0 (some v0)))))))]) [1, 0, 2] (by decide) rfl
  exact W.vret hx hb hr (fun t ht hW => ⟨⟨(), rfl, v, a4, by rw [ht]; exact hP9, va_K.moved hW.alike hK, hD9⟩, hS.F ht⟩) hS.2.2 d_AL_add1_22

theorem d_AL_add0_0 : decode prog_25_method_25_code 0 = .ok (.aload_n 0, 1) := by decide +kernel
theorem d_AL_add0_1 : decode prog_25_method_25_code 1 = .ok (.dup, 1) := by decide +kernel
theorem d_AL_add0_2 : decode prog_25_method_25_code 2 = .ok (.getfield 63, 3) := by decide +kernel
theorem d_AL_add0_5 : decode prog_25_method_25_code 5 = .ok (.iconst 1, 1) := by decide +kernel
theorem d_AL_add0_6 : decode prog_25_method_25_code 6 = .ok (.iadd, 1) := by decide +kernel
theorem d_AL_add0_7 : decode prog_25_method_25_code 7 = .ok (.putfield 63, 3) := by decide +kernel
theorem d_AL_add0_10 : decode prog_25_method_25_code 10 = .ok (.aload_n 0, 1) := by decide +kernel
theorem d_AL_add0_11 : decode prog_25_method_25_code 11 = .ok (.aload_n 1, 1) := by decide +kernel
theorem d_AL_add0_12 : decode prog_25_method_25_code 12 = .ok (.aload_n 0, 1) := by decide +kernel
theorem d_AL_add0_13 : decode prog_25_method_25_code 13 = .ok (.getfield 9, 3) := by decide +kernel
theorem d_AL_add0_16 : decode prog_25_method_25_code 16 = .ok (.aload_n 0, 1) := by decide +kernel
theorem d_AL_add0_17 : decode prog_25_method_25_code 17 = .ok (.getfield 48, 3) := by decide +kernel
theorem d_AL_add0_20 : decode prog_25_method_25_code 20 = .ok (.invokevirtual 131, 3) := by decide +kernel
theorem d_AL_add0_23 : decode prog_25_method_25_code 23 = .ok (.iconst 1, 1) := by decide +kernel
theorem d_AL_add0_24 : decode prog_25_method_25_code 24 = .ok (.ireturn, 1) := by decide +kernel
def vc_AL_add0FE (md : Int) (post : Int → Prop) : Prop := ∃ P1 : Prop, vc_AL_add1FE (md + 1) P1 ∧ (P1  → post 1)
set_option maxHeartbeats 4000000 in
set_option maxRecDepth 100000 in
theorem m_AL_add0FE (l : Launch) (D : va_G) (cI cJ cO cZ : ClassId) (qd mi : Nat) (Z : State) (hZ : EvZ qd mi Z) (h0 v0 : Nat) (sz : Nat) (md : Int) (vs : List Value) (post : Int → Prop) (v : vc_AL_add0FE md post) : Met l ⟨"java/util/ArrayList", "add", "(Ljava/lang/Object;)Z"⟩ (.code ⟨"java/util/ArrayList", "add", "(Ljava/lang/Object;)Z"⟩ prog_25_method_25_code 2 (some .boolean) :: TG) { frames := 4, cells := 1, slots := 10, locals := 90 } (va_Pc [.ref h0, .ref v0] (fun U => U.heap.size = sz ∧ va_P D vwCl [(h0, .inr (9, [.ref qd, .int (iI 0), .int (iI md)])), (v0, .inr (4, vs))] U.heap ∧ va_K D vwCl (tyx cI cJ cO cZ) U ∧ va_D (fun q => Z.heap.size ≤ q) [(h0, .inr (9, [.ref qd, .int (iI 0), .int (iI md)])), (v0, .inr (4, vs))] ∧ Ev Z U)) (va_Qi (fun (r : Int32) (u : Unit) => ∃ z : Int, r = iI z ∧ post z ) (fun u t => ∃ (h2 : Nat), va_P D vwCl [(h0, .inr (9, [.ref h2, .int (iI 1), .int (iI (md + 1))])), (v0, .inr (4, vs)), (h2, .inl (cO, 10, .inr (.inr (.inr (.inr (va_up (fun _ => none) 0 (some v0)))))))] t.heap ∧ va_K D vwCl (tyx cI cJ cO cZ) t ∧ va_D (va_A [(h0, .inr (9, [.ref qd, .int (iI 0), .int (iI md)])), (v0, .inr (4, vs))] sz) [(h0, .inr (9, [.ref h2, .int (iI 1), .int (iI (md + 1))])), (v0, .inr (4, vs)), (h2, .inl (cO, 10, .inr (.inr (.inr (.inr (va_up (fun _ => none) 0 (some v0)))))))]) (va_A [(h0, .inr (9, [.ref qd, .int (iI 0), .int (iI md)])), (v0, .inr (4, vs))] sz)) 1 10 (va_A [(h0, .inr (9, [.ref qd, .int (iI 0), .int (iI md)])), (v0, .inr (4, vs))] sz) := by
  refine Met.ofW (cc := prog_25_method_25_code) (maxL := 2) (ret := (some .boolean)) (by decide) rfl ?_
  intro p e s m args below meth c s₁ B hml hv
  obtain ⟨rfl, hsz, hP, hK, hD0, hE⟩ := hv
  have hx := B.exec
  have hb := B.bytes
  have hr := B.returns
  have hts0 := atoms_spec (ws := (.code ⟨"java/util/ArrayList", "add", "(Ljava/lang/Object;)Z"⟩ prog_25_method_25_code 2 (some .boolean) :: TG)) B.pre
  have hts : ∀ w ∈ TG, w.before _ s = true := fun w h => hts0 w (List.mem_cons_of_mem _ h)
  have hown : s.vm.findClass "java/util/ArrayList" = some m.cls := findClass_of_methodNamed B.named
  have hlocks := B.notSynchronized
  subst hsz
  have hD := hD0.self (sz := s.heap.size)
  have hAZ : ∀ q, va_A [(h0, .inr (9, [.ref qd, .int (iI 0), .int (iI md)])), (v0, .inr (4, vs))] s.heap.size q → Z.heap.size ≤ q := fun q h => hE.inA hD0 h
  generalize hAe : va_A [(h0, .inr (9, [.ref qd, .int (iI 0), .int (iI md)])), (v0, .inr (4, vs))] s.heap.size = A at hD hAZ ⊢
  have hA : ∀ q : Nat, s.heap.size ≤ q → A q := fun q h => by rw [← hAe]; exact Or.inr h
  have hS : va_S A s.heap s.heap [] := va_S.rf
  have hP : va_P D vwCl [(h0, .inr (9, [.ref qd, .int (iI 0), .int (iI md)])), (v0, .inr (4, vs))] s.heap := hP
  have hl := lv_entry ([Value.ref h0, Value.ref v0]) (n := 2) (Nat.le_of_ble_eq_true rfl)
  rw [lg_entry_eq]
  generalize (lg_sl ([Value.ref h0, Value.ref v0]) ++ List.replicate (2 - (lg_sl ([Value.ref h0, Value.ref v0])).length) Slot.unset).toArray = ls at hl ⊢
  have hl : lv_has ls 2 [(0, .ref h0), (1, .ref v0)] := hl
  unfold vc_AL_add0FE at v
  obtain ⟨H, hH⟩ : ∃ H, H = s.heap := ⟨_, rfl⟩
  obtain ⟨locs, hlc⟩ : ∃ L : List Loc, L = [] := ⟨_, rfl⟩
  rw [← hlc] at hS ⊢
  have hP : va_P D vwCl [(h0, .inr (9, [.ref qd, .int (iI 0), .int (iI md)])), (v0, .inr (4, vs))] H := by rw [hH]; exact hP
  have hS : va_S A s.heap H locs := by rw [hH]; exact hS
  have hW0 : ∀ {X : Heap → Prop}, X H → X s.heap := fun h => by rw [← hH]; exact h
  refine hW0 (X := fun Z => W p l e _ s m _ below meth c Z locs 0 0 _ _) ?_
  refine lv_aload_n hx hb d_AL_add0_0 rfl (lv_at hl 0 rfl) ?_
  refine lv_dup hx hb d_AL_add0_1 rfl ?_
  refine va_get (D := D) (ci := 9) (v := .int (iI md)) (C := "java/util/ArrayList") (T := T_AL) (N := 3) hx hb hts in_AL hown hK hP 0 rfl rfl 2 (by decide) (hts _ wd_50) (u_same (hts _ wd_51)) rfl d_AL_add0_2 ?_
  refine nv_iconst (n := 1) hx hb d_AL_add0_5 ?_
  refine nv_iadd (z := md + 1) hx hb d_AL_add0_6 (by first | rfl | omega) ?_
  refine va_put (D := D) (ci := 9) (v := .int (iI (md + 1))) (ty := .int) (C := "java/util/ArrayList") (T := T_AL) (N := 3) hx hb hts in_AL t_AL tok_AL n_AL hown hK hP hD hS 0 rfl rfl 2 (by decide) (hts _ wd_50) (u_same (hts _ wd_51)) rfl (by decide +kernel) rfl rfl (Nat.le_of_ble_eq_true rfl) d_AL_add0_7 (fun H locs hP hD hS => ?_)
  have hP : va_P D vwCl [(h0, .inr (9, [.ref qd, .int (iI 0), .int (iI (md + 1))])), (v0, .inr (4, vs))] H := hP
  have hD : va_D A [(h0, .inr (9, [.ref qd, .int (iI 0), .int (iI (md + 1))])), (v0, .inr (4, vs))] := hD
  refine lv_aload_n hx hb d_AL_add0_10 rfl (lv_at hl 0 rfl) ?_
  refine lv_aload_n hx hb d_AL_add0_11 rfl (lv_at hl 1 rfl) ?_
  refine lv_aload_n hx hb d_AL_add0_12 rfl (lv_at hl 0 rfl) ?_
  refine va_get (D := D) (ci := 9) (v := .ref qd) (C := "java/util/ArrayList") (T := T_AL) (N := 3) hx hb hts in_AL hown hK hP 0 rfl rfl 0 (by decide) (hts _ wd_47) (fun _ h9 => h9) rfl d_AL_add0_13 ?_
  refine lv_aload_n hx hb d_AL_add0_16 rfl (lv_at hl 0 rfl) ?_
  refine va_get (D := D) (ci := 9) (v := .int (iI 0)) (C := "java/util/ArrayList") (T := T_AL) (N := 3) hx hb hts in_AL hown hK hP 0 rfl rfl 1 (by decide) (hts _ wd_48) (fun _ h9 => h9) rfl d_AL_add0_17 ?_
  obtain ⟨P1, q2, v⟩ := v
  have hPc := hP.sub (ws' := [(h0, .inr (9, [.ref qd, .int (iI 0), .int (iI (md + 1))])), (v0, .inr (4, vs))]) [0, 1] rfl
  have hDc := hD.sub (ws' := [(h0, .inr (9, [.ref qd, .int (iI 0), .int (iI (md + 1))])), (v0, .inr (4, vs))]) [0, 1] (by decide) rfl
  have hFc := va_free (wc := [(h0, .inr (9, [.ref qd, .int (iI 0), .int (iI (md + 1))])), (v0, .inr (4, vs))]) hD hS hA [0, 1] rfl
  refine va_callv (va_runV (As := [.ref v0, .ref qd, .int (iI 0)]) (rest := []) ⟨hx, hb, hml, hown, hts⟩ (m_AL_add1FE l D cI cJ cO cZ qd mi Z hZ h0 v0 H.size (md + 1) vs   P1 q2) (nv_cwV (n := 3) hts wd_379 wd_381 sl_9 wd_4 wd_382 (by decide +kernel) ⟨Nat.le_of_ble_eq_true rfl, Nat.le_of_ble_eq_true rfl⟩) ⟨blWE, va_recv hK hPc (ci := 9) (q0 := 0) rfl rfl, fun U hU hW => ⟨rfl, by rw [hU], by rw [hU]; exact hPc, va_K.moved hW.alike hK, hDc.weaken (fun _ _ _ h => hAZ _ h), hE.step hAZ hS hU hW⟩⟩ rfl rfl hl.1 rfl (lv_room (Nat.le_of_ble_eq_true rfl)) d_AL_add0_20 ⟨Nat.le_of_ble_eq_true rfl, Nat.le_of_ble_eq_true rfl⟩) hS (fun q _ h => hFc q h) hFc (fun u t H1 locs ht hvm hw hB hz1 hk1 hS => ?_)
  obtain ⟨a3, hP1, hK1, hD1⟩ := hB
  rw [ht] at hP1
  obtain ⟨hP, hD⟩ := va_join (wr := []) (w1 := [(h0, .inr (9, [.ref a3, .int (iI 1), .int (iI (md + 1))])), (v0, .inr (4, vs)), (a3, .inl (cO, 10, .inr (.inr (.inr (.inr (va_up (fun _ => none) 0 (some v0)))))))]) hP hD [0, 1] [] rfl rfl (by decide) (by decide) hk1 hFc hP1 hD1
  generalize H1 = H at hP hS ⊢
  have hP : va_P D vwCl [(h0, .inr (9, [.ref a3, .int (iI 1), .int (iI (md + 1))])), (v0, .inr (4, vs)), (a3, .inl (cO, 10, .inr (.inr (.inr (.inr (va_up (fun _ => none) 0 (some v0)))))))] H := hP
  have hD : va_D A [(h0, .inr (9, [.ref a3, .int (iI 1), .int (iI (md + 1))])), (v0, .inr (4, vs)), (a3, .inl (cO, 10, .inr (.inr (.inr (.inr (va_up (fun _ => none) 0 (some v0)))))))] := hD
  refine W.widen (k := 1) (n := 10) (Nat.le_of_ble_eq_true rfl) (Nat.le_of_ble_eq_true rfl) ?_
  replace v := v hw
  refine nv_iconst (n := 1) hx hb d_AL_add0_23 ?_
  have hP9 := hP.sub (ws' := [(h0, .inr (9, [.ref a3, .int (iI 1), .int (iI (md + 1))])), (v0, .inr (4, vs)), (a3, .inl (cO, 10, .inr (.inr (.inr (.inr (va_up (fun _ => none) 0 (some v0)))))))]) [0, 1, 2] rfl
  have hD9 := hD.sub (ws' := [(h0, .inr (9, [.ref a3, .int (iI 1), .int (iI (md + 1))])), (v0, .inr (4, vs)), (a3, .inl (cO, 10, .inr (.inr (.inr (.inr (va_up (fun _ => none) 0 (some v0)))))))]) [0, 1, 2] (by decide) rfl
  exact W.zret hx hb hr (by decide) (fun t ht hW => ⟨⟨_, (), rfl, ⟨_, rfl, v⟩, a3, by rw [ht]; exact hP9, va_K.moved hW.alike hK, hD9⟩, hS.F ht⟩) hS.2.2 d_AL_add0_24

def vc_AL_add1FL (md : Int) (post : Prop) : Prop := ∃ P2 : Prop, vc_AL_grow0F md P2 ∧ (P2  → post )
set_option maxHeartbeats 4000000 in
set_option maxRecDepth 100000 in
theorem m_AL_add1FL (l : Launch) (D : va_G) (cI cJ cO cZ : ClassId) (qd mi : Nat) (Z : State) (hZ : EvZ qd mi Z) (h0 v0 : Nat) (sz : Nat) (md : Int) (vs : List Value) (post : Prop) (v : vc_AL_add1FL md post) : Met l ⟨"java/util/ArrayList", "add", "(Ljava/lang/Object;[Ljava/lang/Object;I)V"⟩ (.code ⟨"java/util/ArrayList", "add", "(Ljava/lang/Object;[Ljava/lang/Object;I)V"⟩ prog_25_method_24_code 4 none :: TG) { frames := 3, cells := 1, slots := 10, locals := 67 } (va_Pc [.ref h0, .ref v0, .ref qd, .int (iI 0)] (fun U => U.heap.size = sz ∧ va_P D vwCl [(h0, .inr (9, [.ref qd, .int (iI 0), .int (iI md)])), (v0, .inr (6, vs))] U.heap ∧ va_K D vwCl (tyx cI cJ cO cZ) U ∧ va_D (fun q => Z.heap.size ≤ q) [(h0, .inr (9, [.ref qd, .int (iI 0), .int (iI md)])), (v0, .inr (6, vs))] ∧ Ev Z U)) (va_Qv (fun u : Unit => post ) (fun u t => ∃ (h2 : Nat), va_P D vwCl [(h0, .inr (9, [.ref h2, .int (iI 1), .int (iI md)])), (v0, .inr (6, vs)), (h2, .inl (cO, 10, .inr (.inr (.inr (.inr (va_up (fun _ => none) 0 (some v0)))))))] t.heap ∧ va_K D vwCl (tyx cI cJ cO cZ) t ∧ va_D (va_A [(h0, .inr (9, [.ref qd, .int (iI 0), .int (iI md)])), (v0, .inr (6, vs))] sz) [(h0, .inr (9, [.ref h2, .int (iI 1), .int (iI md)])), (v0, .inr (6, vs)), (h2, .inl (cO, 10, .inr (.inr (.inr (.inr (va_up (fun _ => none) 0 (some v0)))))))]) (va_A [(h0, .inr (9, [.ref qd, .int (iI 0), .int (iI md)])), (v0, .inr (6, vs))] sz)) 1 10 (va_A [(h0, .inr (9, [.ref qd, .int (iI 0), .int (iI md)])), (v0, .inr (6, vs))] sz) := by
  refine Met.ofW (cc := prog_25_method_24_code) (maxL := 4) (ret := none) (by decide) rfl ?_
  intro p e s m args below meth c s₁ B hml hv
  obtain ⟨rfl, hsz, hP, hK, hD0, hE⟩ := hv
  have hx := B.exec
  have hb := B.bytes
  have hr := B.returns
  have hts0 := atoms_spec (ws := (.code ⟨"java/util/ArrayList", "add", "(Ljava/lang/Object;[Ljava/lang/Object;I)V"⟩ prog_25_method_24_code 4 none :: TG)) B.pre
  have hts : ∀ w ∈ TG, w.before _ s = true := fun w h => hts0 w (List.mem_cons_of_mem _ h)
  have hown : s.vm.findClass "java/util/ArrayList" = some m.cls := findClass_of_methodNamed B.named
  have hlocks := B.notSynchronized
  subst hsz
  have hD := hD0.self (sz := s.heap.size)
  have hAZ : ∀ q, va_A [(h0, .inr (9, [.ref qd, .int (iI 0), .int (iI md)])), (v0, .inr (6, vs))] s.heap.size q → Z.heap.size ≤ q := fun q h => hE.inA hD0 h
  generalize hAe : va_A [(h0, .inr (9, [.ref qd, .int (iI 0), .int (iI md)])), (v0, .inr (6, vs))] s.heap.size = A at hD hAZ ⊢
  have hA : ∀ q : Nat, s.heap.size ≤ q → A q := fun q h => by rw [← hAe]; exact Or.inr h
  have hS : va_S A s.heap s.heap [] := va_S.rf
  have hP : va_P D vwCl [(h0, .inr (9, [.ref qd, .int (iI 0), .int (iI md)])), (v0, .inr (6, vs))] s.heap := hP
  have hl := lv_entry ([Value.ref h0, Value.ref v0, Value.ref qd, Value.int (iI 0)]) (n := 4) (Nat.le_of_ble_eq_true rfl)
  rw [lg_entry_eq]
  generalize (lg_sl ([Value.ref h0, Value.ref v0, Value.ref qd, Value.int (iI 0)]) ++ List.replicate (4 - (lg_sl ([Value.ref h0, Value.ref v0, Value.ref qd, Value.int (iI 0)])).length) Slot.unset).toArray = ls at hl ⊢
  have hl : lv_has ls 4 [(0, .ref h0), (1, .ref v0), (2, .ref qd), (3, .int (iI 0))] := hl
  unfold vc_AL_add1FL at v
  obtain ⟨H, hH⟩ : ∃ H, H = s.heap := ⟨_, rfl⟩
  obtain ⟨locs, hlc⟩ : ∃ L : List Loc, L = [] := ⟨_, rfl⟩
  rw [← hlc] at hS ⊢
  have hP : va_P D vwCl [(h0, .inr (9, [.ref qd, .int (iI 0), .int (iI md)])), (v0, .inr (6, vs))] H := by rw [hH]; exact hP
  have hS : va_S A s.heap H locs := by rw [hH]; exact hS
  have hW0 : ∀ {X : Heap → Prop}, X H → X s.heap := fun h => by rw [← hH]; exact h
  refine hW0 (X := fun Z => W p l e _ s m _ below meth c Z locs 0 0 _ _) ?_
  refine lv_iload_n hx hb d_AL_add1_0 rfl (lv_at hl 3 rfl) ?_
  refine lv_aload_n hx hb d_AL_add1_1 rfl (lv_at hl 2 rfl) ?_
  refine va_tlen hx hb (hE.dt hZ hAZ) hS (v := iI 0) rfl d_AL_add1_2 ?_
  refine nv_icmp_ne (tgt := 11) hx hb d_AL_add1_3 (by decide) (by decide) (by decide) (fun c1 => absurd c1 (by decide)) (fun _ => ?_)
  refine lv_aload_n hx hb d_AL_add1_6 rfl (lv_at hl 0 rfl) ?_
  obtain ⟨P2, q3, v⟩ := v
  have hPc := hP.sub (ws' := [(h0, .inr (9, [.ref qd, .int (iI 0), .int (iI md)]))]) [0] rfl
  have hDc := hD.sub (ws' := [(h0, .inr (9, [.ref qd, .int (iI 0), .int (iI md)]))]) [0] (by decide) rfl
  have hFc := va_free (wc := [(h0, .inr (9, [.ref qd, .int (iI 0), .int (iI md)]))]) hD hS hA [0] rfl
  refine va_callr (va_runV (As := []) (rest := []) ⟨hx, hb, hml, hown, hts⟩ (m_AL_grow0F l D cI cJ cO cZ qd mi Z hZ h0 H.size md   P2 q3) (nv_cwV (n := 0) hts wd_383 wd_385 sl_10 wd_4 wd_386 (by decide +kernel) ⟨Nat.le_of_ble_eq_true rfl, Nat.le_of_ble_eq_true rfl⟩) ⟨blWE, va_recv hK hPc (ci := 9) (q0 := 0) rfl rfl, fun U hU hW => ⟨rfl, by rw [hU], by rw [hU]; exact hPc, va_K.moved hW.alike hK, hDc.weaken (fun _ _ _ h => hAZ _ h), hE.step hAZ hS hU hW⟩⟩ rfl rfl hl.1 rfl (lv_room (Nat.le_of_ble_eq_true rfl)) d_AL_add1_7 ⟨Nat.le_of_ble_eq_true rfl, Nat.le_of_ble_eq_true rfl⟩) hS (fun q _ h => hFc q h) hFc (fun u ra t H1 locs ht hvm hw hB hz1 hk1 hS => ?_)
  obtain ⟨a4, rfl⟩ : ∃ z, z = ra := ⟨_, rfl⟩
  obtain ⟨hP1, hK1, hD1⟩ := hB
  rw [ht] at hP1
  obtain ⟨hP, hD⟩ := va_join (wr := [(v0, .inr (6, vs))]) (w1 := [(h0, .inr (9, [.ref a4, .int (iI 0), .int (iI md)])), (a4, .inl (cO, 10, .inr (.inr (.inr (.inr (fun _ => none))))))]) hP hD [0] [1] rfl rfl (by decide) (by decide) hk1 hFc hP1 hD1
  generalize H1 = H at hP hS ⊢
  have hP : va_P D vwCl [(v0, .inr (6, vs)), (h0, .inr (9, [.ref a4, .int (iI 0), .int (iI md)])), (a4, .inl (cO, 10, .inr (.inr (.inr (.inr (fun _ => none))))))] H := hP
  have hD : va_D A [(v0, .inr (6, vs)), (h0, .inr (9, [.ref a4, .int (iI 0), .int (iI md)])), (a4, .inl (cO, 10, .inr (.inr (.inr (.inr (fun _ => none))))))] := hD
  refine W.widen (k := 1) (n := 10) (Nat.le_of_ble_eq_true rfl) (Nat.le_of_ble_eq_true rfl) ?_
  replace v := v hw
  refine lv_astore_n (lv' := [(2, .ref a4), (0, .ref h0), (1, .ref v0), (3, .int (iI 0))]) hx hb d_AL_add1_10 rfl hl (by decide) rfl (fun ls hl => ?_)
  refine lv_aload_n hx hb d_AL_add1_11 rfl (lv_at hl 0 rfl) ?_
  refine lv_iload_n hx hb d_AL_add1_12 rfl (lv_at hl 3 rfl) ?_
  refine lv_aload_n hx hb d_AL_add1_13 rfl (lv_at hl 2 rfl) ?_
  refine nv_asto hx hb hK hP hD hS 2 2 0 6 rfl rfl (va_Nw.of rfl (hE.tbl hZ (List.mem_append_right _ (List.mem_of_getElem? (i := 959) (by decide +kernel))) (by decide +kernel) (a := #[]))) rfl rfl 0 rfl (by decide) (by first | decide | omega) d_AL_add1_14 (fun H locs hP hD hS => ?_)
  have hP : va_P D vwCl [(v0, .inr (6, vs)), (h0, .inr (9, [.ref a4, .int (iI 0), .int (iI md)])), (a4, .inl (cO, 10, .inr (.inr (.inr (.inr (va_up (fun _ => none) 0 (some v0)))))))] H := hP
  have hD : va_D A [(v0, .inr (6, vs)), (h0, .inr (9, [.ref a4, .int (iI 0), .int (iI md)])), (a4, .inl (cO, 10, .inr (.inr (.inr (.inr (va_up (fun _ => none) 0 (some v0)))))))] := hD
  refine lv_aload_n hx hb d_AL_add1_15 rfl (lv_at hl 1 rfl) ?_
  refine lv_iload_n hx hb d_AL_add1_16 rfl (lv_at hl 3 rfl) ?_
  refine nv_iconst (n := 1) hx hb d_AL_add1_17 ?_
  refine nv_iadd (z := 1) hx hb d_AL_add1_18 (by first | rfl | omega) ?_
  refine va_put (D := D) (ci := 9) (v := .int (iI 1)) (ty := .int) (C := "java/util/ArrayList") (T := T_AL) (N := 3) hx hb hts in_AL t_AL tok_AL n_AL hown hK hP hD hS 1 rfl rfl 1 (by decide) (hts _ wd_48) (fun _ h9 => h9) rfl (by decide +kernel) rfl rfl (Nat.le_of_ble_eq_true rfl) d_AL_add1_19 (fun H locs hP hD hS => ?_)
  have hP : va_P D vwCl [(v0, .inr (6, vs)), (h0, .inr (9, [.ref a4, .int (iI 1), .int (iI md)])), (a4, .inl (cO, 10, .inr (.inr (.inr (.inr (va_up (fun _ => none) 0 (some v0)))))))] H := hP
  have hD : va_D A [(v0, .inr (6, vs)), (h0, .inr (9, [.ref a4, .int (iI 1), .int (iI md)])), (a4, .inl (cO, 10, .inr (.inr (.inr (.inr (va_up (fun _ => none) 0 (some v0)))))))] := hD
  have hP9 := hP.sub (ws' := [(h0, .inr (9, [.ref a4, .int (iI 1), .int (iI md)])), (v0, .inr (6, vs)), (a4, .inl (cO, 10, .inr (.inr (.inr (.inr (va_up (fun _ => none) 0 (some v0)))))))]) [1, 0, 2] rfl
  have hD9 := hD.sub (ws' := [(h0, .inr (9, [.ref a4, .int (iI 1), .int (iI md)])), (v0, .inr (6, vs)), (a4, .inl (cO, 10, .inr (.inr (.inr (.inr (va_up (fun _ => none) 0 (some v0)))))))]) [1, 0, 2] (by decide) rfl
  exact W.vret hx hb hr (fun t ht hW => ⟨⟨(), rfl, v, a4, by rw [ht]; exact hP9, va_K.moved hW.alike hK, hD9⟩, hS.F ht⟩) hS.2.2 d_AL_add1_22

def vc_AL_add0FL (md : Int) (post : Int → Prop) : Prop := ∃ P1 : Prop, vc_AL_add1FL (md + 1) P1 ∧ (P1  → post 1)
set_option maxHeartbeats 4000000 in
set_option maxRecDepth 100000 in
theorem m_AL_add0FL (l : Launch) (D : va_G) (cI cJ cO cZ : ClassId) (qd mi : Nat) (Z : State) (hZ : EvZ qd mi Z) (h0 v0 : Nat) (sz : Nat) (md : Int) (vs : List Value) (post : Int → Prop) (v : vc_AL_add0FL md post) : Met l ⟨"java/util/ArrayList", "add", "(Ljava/lang/Object;)Z"⟩ (.code ⟨"java/util/ArrayList", "add", "(Ljava/lang/Object;)Z"⟩ prog_25_method_25_code 2 (some .boolean) :: TG) { frames := 4, cells := 1, slots := 10, locals := 90 } (va_Pc [.ref h0, .ref v0] (fun U => U.heap.size = sz ∧ va_P D vwCl [(h0, .inr (9, [.ref qd, .int (iI 0), .int (iI md)])), (v0, .inr (6, vs))] U.heap ∧ va_K D vwCl (tyx cI cJ cO cZ) U ∧ va_D (fun q => Z.heap.size ≤ q) [(h0, .inr (9, [.ref qd, .int (iI 0), .int (iI md)])), (v0, .inr (6, vs))] ∧ Ev Z U)) (va_Qi (fun (r : Int32) (u : Unit) => ∃ z : Int, r = iI z ∧ post z ) (fun u t => ∃ (h2 : Nat), va_P D vwCl [(h0, .inr (9, [.ref h2, .int (iI 1), .int (iI (md + 1))])), (v0, .inr (6, vs)), (h2, .inl (cO, 10, .inr (.inr (.inr (.inr (va_up (fun _ => none) 0 (some v0)))))))] t.heap ∧ va_K D vwCl (tyx cI cJ cO cZ) t ∧ va_D (va_A [(h0, .inr (9, [.ref qd, .int (iI 0), .int (iI md)])), (v0, .inr (6, vs))] sz) [(h0, .inr (9, [.ref h2, .int (iI 1), .int (iI (md + 1))])), (v0, .inr (6, vs)), (h2, .inl (cO, 10, .inr (.inr (.inr (.inr (va_up (fun _ => none) 0 (some v0)))))))]) (va_A [(h0, .inr (9, [.ref qd, .int (iI 0), .int (iI md)])), (v0, .inr (6, vs))] sz)) 1 10 (va_A [(h0, .inr (9, [.ref qd, .int (iI 0), .int (iI md)])), (v0, .inr (6, vs))] sz) := by
  refine Met.ofW (cc := prog_25_method_25_code) (maxL := 2) (ret := (some .boolean)) (by decide) rfl ?_
  intro p e s m args below meth c s₁ B hml hv
  obtain ⟨rfl, hsz, hP, hK, hD0, hE⟩ := hv
  have hx := B.exec
  have hb := B.bytes
  have hr := B.returns
  have hts0 := atoms_spec (ws := (.code ⟨"java/util/ArrayList", "add", "(Ljava/lang/Object;)Z"⟩ prog_25_method_25_code 2 (some .boolean) :: TG)) B.pre
  have hts : ∀ w ∈ TG, w.before _ s = true := fun w h => hts0 w (List.mem_cons_of_mem _ h)
  have hown : s.vm.findClass "java/util/ArrayList" = some m.cls := findClass_of_methodNamed B.named
  have hlocks := B.notSynchronized
  subst hsz
  have hD := hD0.self (sz := s.heap.size)
  have hAZ : ∀ q, va_A [(h0, .inr (9, [.ref qd, .int (iI 0), .int (iI md)])), (v0, .inr (6, vs))] s.heap.size q → Z.heap.size ≤ q := fun q h => hE.inA hD0 h
  generalize hAe : va_A [(h0, .inr (9, [.ref qd, .int (iI 0), .int (iI md)])), (v0, .inr (6, vs))] s.heap.size = A at hD hAZ ⊢
  have hA : ∀ q : Nat, s.heap.size ≤ q → A q := fun q h => by rw [← hAe]; exact Or.inr h
  have hS : va_S A s.heap s.heap [] := va_S.rf
  have hP : va_P D vwCl [(h0, .inr (9, [.ref qd, .int (iI 0), .int (iI md)])), (v0, .inr (6, vs))] s.heap := hP
  have hl := lv_entry ([Value.ref h0, Value.ref v0]) (n := 2) (Nat.le_of_ble_eq_true rfl)
  rw [lg_entry_eq]
  generalize (lg_sl ([Value.ref h0, Value.ref v0]) ++ List.replicate (2 - (lg_sl ([Value.ref h0, Value.ref v0])).length) Slot.unset).toArray = ls at hl ⊢
  have hl : lv_has ls 2 [(0, .ref h0), (1, .ref v0)] := hl
  unfold vc_AL_add0FL at v
  obtain ⟨H, hH⟩ : ∃ H, H = s.heap := ⟨_, rfl⟩
  obtain ⟨locs, hlc⟩ : ∃ L : List Loc, L = [] := ⟨_, rfl⟩
  rw [← hlc] at hS ⊢
  have hP : va_P D vwCl [(h0, .inr (9, [.ref qd, .int (iI 0), .int (iI md)])), (v0, .inr (6, vs))] H := by rw [hH]; exact hP
  have hS : va_S A s.heap H locs := by rw [hH]; exact hS
  have hW0 : ∀ {X : Heap → Prop}, X H → X s.heap := fun h => by rw [← hH]; exact h
  refine hW0 (X := fun Z => W p l e _ s m _ below meth c Z locs 0 0 _ _) ?_
  refine lv_aload_n hx hb d_AL_add0_0 rfl (lv_at hl 0 rfl) ?_
  refine lv_dup hx hb d_AL_add0_1 rfl ?_
  refine va_get (D := D) (ci := 9) (v := .int (iI md)) (C := "java/util/ArrayList") (T := T_AL) (N := 3) hx hb hts in_AL hown hK hP 0 rfl rfl 2 (by decide) (hts _ wd_50) (u_same (hts _ wd_51)) rfl d_AL_add0_2 ?_
  refine nv_iconst (n := 1) hx hb d_AL_add0_5 ?_
  refine nv_iadd (z := md + 1) hx hb d_AL_add0_6 (by first | rfl | omega) ?_
  refine va_put (D := D) (ci := 9) (v := .int (iI (md + 1))) (ty := .int) (C := "java/util/ArrayList") (T := T_AL) (N := 3) hx hb hts in_AL t_AL tok_AL n_AL hown hK hP hD hS 0 rfl rfl 2 (by decide) (hts _ wd_50) (u_same (hts _ wd_51)) rfl (by decide +kernel) rfl rfl (Nat.le_of_ble_eq_true rfl) d_AL_add0_7 (fun H locs hP hD hS => ?_)
  have hP : va_P D vwCl [(h0, .inr (9, [.ref qd, .int (iI 0), .int (iI (md + 1))])), (v0, .inr (6, vs))] H := hP
  have hD : va_D A [(h0, .inr (9, [.ref qd, .int (iI 0), .int (iI (md + 1))])), (v0, .inr (6, vs))] := hD
  refine lv_aload_n hx hb d_AL_add0_10 rfl (lv_at hl 0 rfl) ?_
  refine lv_aload_n hx hb d_AL_add0_11 rfl (lv_at hl 1 rfl) ?_
  refine lv_aload_n hx hb d_AL_add0_12 rfl (lv_at hl 0 rfl) ?_
  refine va_get (D := D) (ci := 9) (v := .ref qd) (C := "java/util/ArrayList") (T := T_AL) (N := 3) hx hb hts in_AL hown hK hP 0 rfl rfl 0 (by decide) (hts _ wd_47) (fun _ h9 => h9) rfl d_AL_add0_13 ?_
  refine lv_aload_n hx hb d_AL_add0_16 rfl (lv_at hl 0 rfl) ?_
  refine va_get (D := D) (ci := 9) (v := .int (iI 0)) (C := "java/util/ArrayList") (T := T_AL) (N := 3) hx hb hts in_AL hown hK hP 0 rfl rfl 1 (by decide) (hts _ wd_48) (fun _ h9 => h9) rfl d_AL_add0_17 ?_
  obtain ⟨P1, q2, v⟩ := v
  have hPc := hP.sub (ws' := [(h0, .inr (9, [.ref qd, .int (iI 0), .int (iI (md + 1))])), (v0, .inr (6, vs))]) [0, 1] rfl
  have hDc := hD.sub (ws' := [(h0, .inr (9, [.ref qd, .int (iI 0), .int (iI (md + 1))])), (v0, .inr (6, vs))]) [0, 1] (by decide) rfl
  have hFc := va_free (wc := [(h0, .inr (9, [.ref qd, .int (iI 0), .int (iI (md + 1))])), (v0, .inr (6, vs))]) hD hS hA [0, 1] rfl
  refine va_callv (va_runV (As := [.ref v0, .ref qd, .int (iI 0)]) (rest := []) ⟨hx, hb, hml, hown, hts⟩ (m_AL_add1FL l D cI cJ cO cZ qd mi Z hZ h0 v0 H.size (md + 1) vs   P1 q2) (nv_cwV (n := 3) hts wd_379 wd_381 sl_9 wd_4 wd_382 (by decide +kernel) ⟨Nat.le_of_ble_eq_true rfl, Nat.le_of_ble_eq_true rfl⟩) ⟨blWE, va_recv hK hPc (ci := 9) (q0 := 0) rfl rfl, fun U hU hW => ⟨rfl, by rw [hU], by rw [hU]; exact hPc, va_K.moved hW.alike hK, hDc.weaken (fun _ _ _ h => hAZ _ h), hE.step hAZ hS hU hW⟩⟩ rfl rfl hl.1 rfl (lv_room (Nat.le_of_ble_eq_true rfl)) d_AL_add0_20 ⟨Nat.le_of_ble_eq_true rfl, Nat.le_of_ble_eq_true rfl⟩) hS (fun q _ h => hFc q h) hFc (fun u t H1 locs ht hvm hw hB hz1 hk1 hS => ?_)
  obtain ⟨a3, hP1, hK1, hD1⟩ := hB
  rw [ht] at hP1
  obtain ⟨hP, hD⟩ := va_join (wr := []) (w1 := [(h0, .inr (9, [.ref a3, .int (iI 1), .int (iI (md + 1))])), (v0, .inr (6, vs)), (a3, .inl (cO, 10, .inr (.inr (.inr (.inr (va_up (fun _ => none) 0 (some v0)))))))]) hP hD [0, 1] [] rfl rfl (by decide) (by decide) hk1 hFc hP1 hD1
  generalize H1 = H at hP hS ⊢
  have hP : va_P D vwCl [(h0, .inr (9, [.ref a3, .int (iI 1), .int (iI (md + 1))])), (v0, .inr (6, vs)), (a3, .inl (cO, 10, .inr (.inr (.inr (.inr (va_up (fun _ => none) 0 (some v0)))))))] H := hP
  have hD : va_D A [(h0, .inr (9, [.ref a3, .int (iI 1), .int (iI (md + 1))])), (v0, .inr (6, vs)), (a3, .inl (cO, 10, .inr (.inr (.inr (.inr (va_up (fun _ => none) 0 (some v0)))))))] := hD
  refine W.widen (k := 1) (n := 10) (Nat.le_of_ble_eq_true rfl) (Nat.le_of_ble_eq_true rfl) ?_
  replace v := v hw
  refine nv_iconst (n := 1) hx hb d_AL_add0_23 ?_
  have hP9 := hP.sub (ws' := [(h0, .inr (9, [.ref a3, .int (iI 1), .int (iI (md + 1))])), (v0, .inr (6, vs)), (a3, .inl (cO, 10, .inr (.inr (.inr (.inr (va_up (fun _ => none) 0 (some v0)))))))]) [0, 1, 2] rfl
  have hD9 := hD.sub (ws' := [(h0, .inr (9, [.ref a3, .int (iI 1), .int (iI (md + 1))])), (v0, .inr (6, vs)), (a3, .inl (cO, 10, .inr (.inr (.inr (.inr (va_up (fun _ => none) 0 (some v0)))))))]) [0, 1, 2] (by decide) rfl
  exact W.zret hx hb hr (by decide) (fun t ht hW => ⟨⟨_, (), rfl, ⟨_, rfl, v⟩, a3, by rw [ht]; exact hP9, va_K.moved hW.alike hK, hD9⟩, hS.F ht⟩) hS.2.2 d_AL_add0_24

