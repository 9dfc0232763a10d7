/-! MODULE ArrayList: a plain add -/
def vc_AL_add1SE (n : Nat) (md : Int) (cap : Nat) (f : Nat → Option Nat) (post : Prop) : Prop := post 
set_option maxHeartbeats 4000000 in
set_option maxRecDepth 100000 in
theorem m_AL_add1SE (l : Launch) (D : va_G) (cI cJ cO cZ : ClassId) (qd mi : Nat) (Z : State) (hZ : EvZ qd mi Z) (h0 h1 v0 : Nat) (sz : Nat) (n : Nat) (md : Int) (cap : Nat) (f : Nat → Option Nat) (vs : List Value) (hnc : n < cap) (hcap : cap < 1000000) (post : Prop) (v : vc_AL_add1SE n md cap f post) : Met l ⟨"java/util/ArrayList", "add", "(Ljava/lang/Object;[Ljava/lang/Object;I)V"⟩ (.code ⟨"java/util/ArrayList", "add", "(Ljava/lang/Object;[Ljava/lang/Object;I)V"⟩ prog_25_method_24_code 4 none :: TG) { frames := 0, cells := 0, slots := 0, locals := 0 } (va_Pc [.ref h0, .ref v0, .ref h1, .int (iI (n : Int))] (fun U => U.heap.size = sz ∧ va_P D vwCl [(h0, .inr (9, [.ref h1, .int (iI (n : Int)), .int (iI md)])), (h1, .inl (cO, cap, .inr (.inr (.inr (.inr f))))), (v0, .inr (4, vs))] U.heap ∧ va_K D vwCl (tyx cI cJ cO cZ) U ∧ va_D (fun q => Z.heap.size ≤ q) [(h0, .inr (9, [.ref h1, .int (iI (n : Int)), .int (iI md)])), (h1, .inl (cO, cap, .inr (.inr (.inr (.inr f))))), (v0, .inr (4, vs))] ∧ Ev Z U)) (va_Qv (fun u : Unit => post ) (fun u t => va_P D vwCl [(h0, .inr (9, [.ref h1, .int (iI ((n : Int) + 1)), .int (iI md)])), (h1, .inl (cO, cap, .inr (.inr (.inr (.inr (va_up f n (some v0))))))), (v0, .inr (4, vs))] t.heap ∧ va_K D vwCl (tyx cI cJ cO cZ) t ∧ va_D (va_A [(h0, .inr (9, [.ref h1, .int (iI (n : Int)), .int (iI md)])), (h1, .inl (cO, cap, .inr (.inr (.inr (.inr f))))), (v0, .inr (4, vs))] sz) [(h0, .inr (9, [.ref h1, .int (iI ((n : Int) + 1)), .int (iI md)])), (h1, .inl (cO, cap, .inr (.inr (.inr (.inr (va_up f n (some v0))))))), (v0, .inr (4, vs))]) (va_A [(h0, .inr (9, [.ref h1, .int (iI (n : Int)), .int (iI md)])), (h1, .inl (cO, cap, .inr (.inr (.inr (.inr f))))), (v0, .inr (4, vs))] sz)) 0 0 (va_A [(h0, .inr (9, [.ref h1, .int (iI (n : Int)), .int (iI md)])), (h1, .inl (cO, cap, .inr (.inr (.inr (.inr f))))), (v0, .inr (4, vs))] sz) := by
  refine Met.ofW (cc := prog_25_method_24_code) (maxL := 4) (ret := none) (by decide) rfl ?_
  intro p e s m args below meth c s₁ B hml hv
  obtain ⟨rfl, hsz, hP, hK, hD0, hE⟩ := hv
  have hx := B.exec
  have hb := B.bytes
  have hr := B.returns
  have hts0 := atoms_spec (ws := (.code ⟨"java/util/ArrayList", "add", "(Ljava/lang/Object;[Ljava/lang/Object;I)V"⟩ prog_25_method_24_code 4 none :: TG)) B.pre
  have hts : ∀ w ∈ TG, w.before _ s = true := fun w h => hts0 w (List.mem_cons_of_mem _ h)
  have hown : s.vm.findClass "java/util/ArrayList" = some m.cls := findClass_of_methodNamed B.named
  have hlocks := B.notSynchronized
  subst hsz
  have hD := hD0.self (sz := s.heap.size)
  have hAZ : ∀ q, va_A [(h0, .inr (9, [.ref h1, .int (iI (n : Int)), .int (iI md)])), (h1, .inl (cO, cap, .inr (.inr (.inr (.inr f))))), (v0, .inr (4, vs))] s.heap.size q → Z.heap.size ≤ q := fun q h => hE.inA hD0 h
  generalize hAe : va_A [(h0, .inr (9, [.ref h1, .int (iI (n : Int)), .int (iI md)])), (h1, .inl (cO, cap, .inr (.inr (.inr (.inr f))))), (v0, .inr (4, vs))] s.heap.size = A at hD hAZ ⊢
  have hA : ∀ q : Nat, s.heap.size ≤ q → A q := fun q h => by rw [← hAe]; exact Or.inr h
  have hS : va_S A s.heap s.heap [] := va_S.rf
  have hP : va_P D vwCl [(h0, .inr (9, [.ref h1, .int (iI (n : Int)), .int (iI md)])), (h1, .inl (cO, cap, .inr (.inr (.inr (.inr f))))), (v0, .inr (4, vs))] s.heap := hP
  have hl := lv_entry ([Value.ref h0, Value.ref v0, Value.ref h1, Value.int (iI (n : Int))]) (n := 4) (Nat.le_of_ble_eq_true rfl)
  rw [lg_entry_eq]
  generalize (lg_sl ([Value.ref h0, Value.ref v0, Value.ref h1, Value.int (iI (n : Int))]) ++ List.replicate (4 - (lg_sl ([Value.ref h0, Value.ref v0, Value.ref h1, Value.int (iI (n : Int))])).length) Slot.unset).toArray = ls at hl ⊢
  have hl : lv_has ls 4 [(0, .ref h0), (1, .ref v0), (2, .ref h1), (3, .int (iI (n : Int)))] := hl
  unfold vc_AL_add1SE at v
  obtain ⟨H, hH⟩ : ∃ H, H = s.heap := ⟨_, rfl⟩
  obtain ⟨locs, hlc⟩ : ∃ L : List Loc, L = [] := ⟨_, rfl⟩
  rw [← hlc] at hS ⊢
  have hP : va_P D vwCl [(h0, .inr (9, [.ref h1, .int (iI (n : Int)), .int (iI md)])), (h1, .inl (cO, cap, .inr (.inr (.inr (.inr f))))), (v0, .inr (4, vs))] H := by rw [hH]; exact hP
  have hS : va_S A s.heap H locs := by rw [hH]; exact hS
  have hW0 : ∀ {X : Heap → Prop}, X H → X s.heap := fun h => by rw [← hH]; exact h
  refine hW0 (X := fun Z => W p l e _ s m _ below meth c Z locs 0 0 _ _) ?_
  refine lv_iload_n hx hb d_AL_add1_0 rfl (lv_at hl 3 rfl) ?_
  refine lv_aload_n hx hb d_AL_add1_1 rfl (lv_at hl 2 rfl) ?_
  refine va_alen hx hb hK hP 1 2 rfl rfl (v := iI (((cap : Nat) : Int) : Int)) (iI_nat _).symm d_AL_add1_2 ?_
  refine nv_icmp_ne (tgt := 11) hx hb d_AL_add1_3 (by decide) ⟨by omega, by omega⟩ ⟨by omega, by omega⟩ (fun _ => ?_) (fun h9 => by omega)
  refine lv_aload_n hx hb d_AL_add1_11 rfl (lv_at hl 2 rfl) ?_
  refine lv_iload_n hx hb d_AL_add1_12 rfl (lv_at hl 3 rfl) ?_
  refine lv_aload_n hx hb d_AL_add1_13 rfl (lv_at hl 1 rfl) ?_
  refine nv_asto hx hb hK hP hD hS 1 2 2 4 rfl rfl (va_Nw.of rfl (hE.tbl hZ (List.mem_append_right _ (List.mem_of_getElem? (i := 958) (by decide +kernel))) (by decide +kernel) (a := #[]))) rfl rfl n rfl (by omega) (by first | decide | omega) d_AL_add1_14 (fun H locs hP hD hS => ?_)
  have hP : va_P D vwCl [(h0, .inr (9, [.ref h1, .int (iI (n : Int)), .int (iI md)])), (h1, .inl (cO, cap, .inr (.inr (.inr (.inr (va_up f n (some v0))))))), (v0, .inr (4, vs))] H := hP
  have hD : va_D A [(h0, .inr (9, [.ref h1, .int (iI (n : Int)), .int (iI md)])), (h1, .inl (cO, cap, .inr (.inr (.inr (.inr (va_up f n (some v0))))))), (v0, .inr (4, vs))] := hD
  refine lv_aload_n hx hb d_AL_add1_15 rfl (lv_at hl 0 rfl) ?_
  refine lv_iload_n hx hb d_AL_add1_16 rfl (lv_at hl 3 rfl) ?_
  refine nv_iconst (n := 1) hx hb d_AL_add1_17 ?_
  refine nv_iadd (z := (n : Int) + 1) hx hb d_AL_add1_18 (by first | rfl | omega) ?_
  refine va_put (D := D) (ci := 9) (v := .int (iI ((n : Int) + 1))) (ty := .int) (C := "java/util/ArrayList") (T := T_AL) (N := 3) hx hb hts in_AL t_AL tok_AL n_AL hown hK hP hD hS 0 rfl rfl 1 (by decide) (hts _ wd_48) (fun _ h9 => h9) rfl (by decide +kernel) rfl rfl (Nat.le_of_ble_eq_true rfl) d_AL_add1_19 (fun H locs hP hD hS => ?_)
  have hP : va_P D vwCl [(h0, .inr (9, [.ref h1, .int (iI ((n : Int) + 1)), .int (iI md)])), (h1, .inl (cO, cap, .inr (.inr (.inr (.inr (va_up f n (some v0))))))), (v0, .inr (4, vs))] H := hP
  have hD : va_D A [(h0, .inr (9, [.ref h1, .int (iI ((n : Int) + 1)), .int (iI md)])), (h1, .inl (cO, cap, .inr (.inr (.inr (.inr (va_up f n (some v0))))))), (v0, .inr (4, vs))] := hD
  have hP9 := hP.sub (ws' := [(h0, .inr (9, [.ref h1, .int (iI ((n : Int) + 1)), .int (iI md)])), (h1, .inl (cO, cap, .inr (.inr (.inr (.inr (va_up f n (some v0))))))), (v0, .inr (4, vs))]) [0, 1, 2] rfl
  have hD9 := hD.sub (ws' := [(h0, .inr (9, [.ref h1, .int (iI ((n : Int) + 1)), .int (iI md)])), (h1, .inl (cO, cap, .inr (.inr (.inr (.inr (va_up f n (some v0))))))), (v0, .inr (4, vs))]) [0, 1, 2] (by decide) rfl
  exact W.vret hx hb hr (fun t ht hW => ⟨⟨(), rfl, v, by rw [ht]; exact hP9, va_K.moved hW.alike hK, hD9⟩, hS.F ht⟩) hS.2.2 d_AL_add1_22

def vc_AL_add0SE (n : Nat) (md : Int) (cap : Nat) (f : Nat → Option Nat) (post : Int → Prop) : Prop := ∃ P1 : Prop, vc_AL_add1SE n (md + 1) cap f P1 ∧ (P1  → post 1)
set_option maxHeartbeats 4000000 in
set_option maxRecDepth 100000 in
theorem m_AL_add0SE (l : Launch) (D : va_G) (cI cJ cO cZ : ClassId) (qd mi : Nat) (Z : State) (hZ : EvZ qd mi Z) (h0 h1 v0 : Nat) (sz : Nat) (n : Nat) (md : Int) (cap : Nat) (f : Nat → Option Nat) (vs : List Value) (hnc : n < cap) (hcap : cap < 1000000) (post : Int → Prop) (v : vc_AL_add0SE n md cap f post) : Met l ⟨"java/util/ArrayList", "add", "(Ljava/lang/Object;)Z"⟩ (.code ⟨"java/util/ArrayList", "add", "(Ljava/lang/Object;)Z"⟩ prog_25_method_25_code 2 (some .boolean) :: TG) { frames := 1, cells := 0, slots := 0, locals := 23 } (va_Pc [.ref h0, .ref v0] (fun U => U.heap.size = sz ∧ va_P D vwCl [(h0, .inr (9, [.ref h1, .int (iI (n : Int)), .int (iI md)])), (h1, .inl (cO, cap, .inr (.inr (.inr (.inr f))))), (v0, .inr (4, vs))] U.heap ∧ va_K D vwCl (tyx cI cJ cO cZ) U ∧ va_D (fun q => Z.heap.size ≤ q) [(h0, .inr (9, [.ref h1, .int (iI (n : Int)), .int (iI md)])), (h1, .inl (cO, cap, .inr (.inr (.inr (.inr f))))), (v0, .inr (4, vs))] ∧ Ev Z U)) (va_Qi (fun (r : Int32) (u : Unit) => ∃ z : Int, r = iI z ∧ post z ) (fun u t => va_P D vwCl [(h0, .inr (9, [.ref h1, .int (iI ((n : Int) + 1)), .int (iI (md + 1))])), (h1, .inl (cO, cap, .inr (.inr (.inr (.inr (va_up f n (some v0))))))), (v0, .inr (4, vs))] t.heap ∧ va_K D vwCl (tyx cI cJ cO cZ) t ∧ va_D (va_A [(h0, .inr (9, [.ref h1, .int (iI (n : Int)), .int (iI md)])), (h1, .inl (cO, cap, .inr (.inr (.inr (.inr f))))), (v0, .inr (4, vs))] sz) [(h0, .inr (9, [.ref h1, .int (iI ((n : Int) + 1)), .int (iI (md + 1))])), (h1, .inl (cO, cap, .inr (.inr (.inr (.inr (va_up f n (some v0))))))), (v0, .inr (4, vs))]) (va_A [(h0, .inr (9, [.ref h1, .int (iI (n : Int)), .int (iI md)])), (h1, .inl (cO, cap, .inr (.inr (.inr (.inr f))))), (v0, .inr (4, vs))] sz)) 0 0 (va_A [(h0, .inr (9, [.ref h1, .int (iI (n : Int)), .int (iI md)])), (h1, .inl (cO, cap, .inr (.inr (.inr (.inr f))))), (v0, .inr (4, vs))] sz) := by
  refine Met.ofW (cc := prog_25_method_25_code) (maxL := 2) (ret := (some .boolean)) (by decide) rfl ?_
  intro p e s m args below meth c s₁ B hml hv
  obtain ⟨rfl, hsz, hP, hK, hD0, hE⟩ := hv
  have hx := B.exec
  have hb := B.bytes
  have hr := B.returns
  have hts0 := atoms_spec (ws := (.code ⟨"java/util/ArrayList", "add", "(Ljava/lang/Object;)Z"⟩ prog_25_method_25_code 2 (some .boolean) :: TG)) B.pre
  have hts : ∀ w ∈ TG, w.before _ s = true := fun w h => hts0 w (List.mem_cons_of_mem _ h)
  have hown : s.vm.findClass "java/util/ArrayList" = some m.cls := findClass_of_methodNamed B.named
  have hlocks := B.notSynchronized
  subst hsz
  have hD := hD0.self (sz := s.heap.size)
  have hAZ : ∀ q, va_A [(h0, .inr (9, [.ref h1, .int (iI (n : Int)), .int (iI md)])), (h1, .inl (cO, cap, .inr (.inr (.inr (.inr f))))), (v0, .inr (4, vs))] s.heap.size q → Z.heap.size ≤ q := fun q h => hE.inA hD0 h
  generalize hAe : va_A [(h0, .inr (9, [.ref h1, .int (iI (n : Int)), .int (iI md)])), (h1, .inl (cO, cap, .inr (.inr (.inr (.inr f))))), (v0, .inr (4, vs))] s.heap.size = A at hD hAZ ⊢
  have hA : ∀ q : Nat, s.heap.size ≤ q → A q := fun q h => by rw [← hAe]; exact Or.inr h
  have hS : va_S A s.heap s.heap [] := va_S.rf
  have hP : va_P D vwCl [(h0, .inr (9, [.ref h1, .int (iI (n : Int)), .int (iI md)])), (h1, .inl (cO, cap, .inr (.inr (.inr (.inr f))))), (v0, .inr (4, vs))] s.heap := hP
  have hl := lv_entry ([Value.ref h0, Value.ref v0]) (n := 2) (Nat.le_of_ble_eq_true rfl)
  rw [lg_entry_eq]
  generalize (lg_sl ([Value.ref h0, Value.ref v0]) ++ List.replicate (2 - (lg_sl ([Value.ref h0, Value.ref v0])).length) Slot.unset).toArray = ls at hl ⊢
  have hl : lv_has ls 2 [(0, .ref h0), (1, .ref v0)] := hl
  unfold vc_AL_add0SE at v
  obtain ⟨H, hH⟩ : ∃ H, H = s.heap := ⟨_, rfl⟩
  obtain ⟨locs, hlc⟩ : ∃ L : List Loc, L = [] := ⟨_, rfl⟩
  rw [← hlc] at hS ⊢
  have hP : va_P D vwCl [(h0, .inr (9, [.ref h1, .int (iI (n : Int)), .int (iI md)])), (h1, .inl (cO, cap, .inr (.inr (.inr (.inr f))))), (v0, .inr (4, vs))] H := by rw [hH]; exact hP
  have hS : va_S A s.heap H locs := by rw [hH]; exact hS
  have hW0 : ∀ {X : Heap → Prop}, X H → X s.heap := fun h => by rw [← hH]; exact h
  refine hW0 (X := fun Z => W p l e _ s m _ below meth c Z locs 0 0 _ _) ?_
  refine lv_aload_n hx hb d_AL_add0_0 rfl (lv_at hl 0 rfl) ?_
  refine lv_dup hx hb d_AL_add0_1 rfl ?_
  refine va_get (D := D) (ci := 9) (v := .int (iI md)) (C := "java/util/ArrayList") (T := T_AL) (N := 3) hx hb hts in_AL hown hK hP 0 rfl rfl 2 (by decide) (hts _ wd_50) (u_same (hts _ wd_51)) rfl d_AL_add0_2 ?_
  refine nv_iconst (n := 1) hx hb d_AL_add0_5 ?_
  refine nv_iadd (z := md + 1) hx hb d_AL_add0_6 (by first | rfl | omega) ?_
  refine va_put (D := D) (ci := 9) (v := .int (iI (md + 1))) (ty := .int) (C := "java/util/ArrayList") (T := T_AL) (N := 3) hx hb hts in_AL t_AL tok_AL n_AL hown hK hP hD hS 0 rfl rfl 2 (by decide) (hts _ wd_50) (u_same (hts _ wd_51)) rfl (by decide +kernel) rfl rfl (Nat.le_of_ble_eq_true rfl) d_AL_add0_7 (fun H locs hP hD hS => ?_)
  have hP : va_P D vwCl [(h0, .inr (9, [.ref h1, .int (iI (n : Int)), .int (iI (md + 1))])), (h1, .inl (cO, cap, .inr (.inr (.inr (.inr f))))), (v0, .inr (4, vs))] H := hP
  have hD : va_D A [(h0, .inr (9, [.ref h1, .int (iI (n : Int)), .int (iI (md + 1))])), (h1, .inl (cO, cap, .inr (.inr (.inr (.inr f))))), (v0, .inr (4, vs))] := hD
  refine lv_aload_n hx hb d_AL_add0_10 rfl (lv_at hl 0 rfl) ?_
  refine lv_aload_n hx hb d_AL_add0_11 rfl (lv_at hl 1 rfl) ?_
  refine lv_aload_n hx hb d_AL_add0_12 rfl (lv_at hl 0 rfl) ?_
  refine va_get (D := D) (ci := 9) (v := .ref h1) (C := "java/util/ArrayList") (T := T_AL) (N := 3) hx hb hts in_AL hown hK hP 0 rfl rfl 0 (by decide) (hts _ wd_47) (fun _ h9 => h9) rfl d_AL_add0_13 ?_
  refine lv_aload_n hx hb d_AL_add0_16 rfl (lv_at hl 0 rfl) ?_
  refine va_get (D := D) (ci := 9) (v := .int (iI (n : Int))) (C := "java/util/ArrayList") (T := T_AL) (N := 3) hx hb hts in_AL hown hK hP 0 rfl rfl 1 (by decide) (hts _ wd_48) (fun _ h9 => h9) rfl d_AL_add0_17 ?_
  obtain ⟨P1, q2, v⟩ := v
  have hPc := hP.sub (ws' := [(h0, .inr (9, [.ref h1, .int (iI (n : Int)), .int (iI (md + 1))])), (h1, .inl (cO, cap, .inr (.inr (.inr (.inr f))))), (v0, .inr (4, vs))]) [0, 1, 2] rfl
  have hDc := hD.sub (ws' := [(h0, .inr (9, [.ref h1, .int (iI (n : Int)), .int (iI (md + 1))])), (h1, .inl (cO, cap, .inr (.inr (.inr (.inr f))))), (v0, .inr (4, vs))]) [0, 1, 2] (by decide) rfl
  have hFc := va_free (wc := [(h0, .inr (9, [.ref h1, .int (iI (n : Int)), .int (iI (md + 1))])), (h1, .inl (cO, cap, .inr (.inr (.inr (.inr f))))), (v0, .inr (4, vs))]) hD hS hA [0, 1, 2] rfl
  refine va_callv (va_runV (As := [.ref v0, .ref h1, .int (iI (n : Int))]) (rest := []) ⟨hx, hb, hml, hown, hts⟩ (m_AL_add1SE l D cI cJ cO cZ qd mi Z hZ h0 h1 v0 H.size n (md + 1) cap f vs hnc hcap  P1 q2) (nv_cwV (n := 3) hts wd_379 wd_381 sl_9 wd_4 wd_382 (by decide +kernel) ⟨Nat.le_of_ble_eq_true rfl, Nat.le_of_ble_eq_true rfl⟩) ⟨blWE, va_recv hK hPc (ci := 9) (q0 := 0) rfl rfl, fun U hU hW => ⟨rfl, by rw [hU], by rw [hU]; exact hPc, va_K.moved hW.alike hK, hDc.weaken (fun _ _ _ h => hAZ _ h), hE.step hAZ hS hU hW⟩⟩ rfl rfl hl.1 rfl (lv_room (Nat.le_of_ble_eq_true rfl)) d_AL_add0_20 ⟨Nat.le_of_ble_eq_true rfl, Nat.le_of_ble_eq_true rfl⟩) hS (fun q _ h => hFc q h) hFc (fun u t H1 locs ht hvm hw hB hz1 hk1 hS => ?_)
  obtain ⟨hP1, hK1, hD1⟩ := hB
  rw [ht] at hP1
  obtain ⟨hP, hD⟩ := va_join (wr := []) (w1 := [(h0, .inr (9, [.ref h1, .int (iI ((n : Int) + 1)), .int (iI (md + 1))])), (h1, .inl (cO, cap, .inr (.inr (.inr (.inr (va_up f n (some v0))))))), (v0, .inr (4, vs))]) hP hD [0, 1, 2] [] rfl rfl (by decide) (by decide) hk1 hFc hP1 hD1
  generalize H1 = H at hP hS ⊢
  have hP : va_P D vwCl [(h0, .inr (9, [.ref h1, .int (iI ((n : Int) + 1)), .int (iI (md + 1))])), (h1, .inl (cO, cap, .inr (.inr (.inr (.inr (va_up f n (some v0))))))), (v0, .inr (4, vs))] H := hP
  have hD : va_D A [(h0, .inr (9, [.ref h1, .int (iI ((n : Int) + 1)), .int (iI (md + 1))])), (h1, .inl (cO, cap, .inr (.inr (.inr (.inr (va_up f n (some v0))))))), (v0, .inr (4, vs))] := hD
  refine W.widen (k := 0) (n := 0) (Nat.le_of_ble_eq_true rfl) (Nat.le_of_ble_eq_true rfl) ?_
  replace v := v hw
  refine nv_iconst (n := 1) hx hb d_AL_add0_23 ?_
  have hP9 := hP.sub (ws' := [(h0, .inr (9, [.ref h1, .int (iI ((n : Int) + 1)), .int (iI (md + 1))])), (h1, .inl (cO, cap, .inr (.inr (.inr (.inr (va_up f n (some v0))))))), (v0, .inr (4, vs))]) [0, 1, 2] rfl
  have hD9 := hD.sub (ws' := [(h0, .inr (9, [.ref h1, .int (iI ((n : Int) + 1)), .int (iI (md + 1))])), (h1, .inl (cO, cap, .inr (.inr (.inr (.inr (va_up f n (some v0))))))), (v0, .inr (4, vs))]) [0, 1, 2] (by decide) rfl
  exact W.zret hx hb hr (by decide) (fun t ht hW => ⟨⟨_, (), rfl, ⟨_, rfl, v⟩, by rw [ht]; exact hP9, va_K.moved hW.alike hK, hD9⟩, hS.F ht⟩) hS.2.2 d_AL_add0_24

def vc_AL_add1SL (n : Nat) (md : Int) (cap : Nat) (f : Nat → Option Nat) (post : Prop) : Prop := post 
set_option maxHeartbeats 4000000 in
set_option maxRecDepth 100000 in
theorem m_AL_add1SL (l : Launch) (D : va_G) (cI cJ cO cZ : ClassId) (qd mi : Nat) (Z : State) (hZ : EvZ qd mi Z) (h0 h1 v0 : Nat) (sz : Nat) (n : Nat) (md : Int) (cap : Nat) (f : Nat → Option Nat) (vs : List Value) (hnc : n < cap) (hcap : cap < 1000000) (post : Prop) (v : vc_AL_add1SL n md cap f post) : Met l ⟨"java/util/ArrayList", "add", "(Ljava/lang/Object;[Ljava/lang/Object;I)V"⟩ (.code ⟨"java/util/ArrayList", "add", "(Ljava/lang/Object;[Ljava/lang/Object;I)V"⟩ prog_25_method_24_code 4 none :: TG) { frames := 0, cells := 0, slots := 0, locals := 0 } (va_Pc [.ref h0, .ref v0, .ref h1, .int (iI (n : Int))] (fun U => U.heap.size = sz ∧ va_P D vwCl [(h0, .inr (9, [.ref h1, .int (iI (n : Int)), .int (iI md)])), (h1, .inl (cO, cap, .inr (.inr (.inr (.inr f))))), (v0, .inr (6, vs))] U.heap ∧ va_K D vwCl (tyx cI cJ cO cZ) U ∧ va_D (fun q => Z.heap.size ≤ q) [(h0, .inr (9, [.ref h1, .int (iI (n : Int)), .int (iI md)])), (h1, .inl (cO, cap, .inr (.inr (.inr (.inr f))))), (v0, .inr (6, vs))] ∧ Ev Z U)) (va_Qv (fun u : Unit => post ) (fun u t => va_P D vwCl [(h0, .inr (9, [.ref h1, .int (iI ((n : Int) + 1)), .int (iI md)])), (h1, .inl (cO, cap, .inr (.inr (.inr (.inr (va_up f n (some v0))))))), (v0, .inr (6, vs))] t.heap ∧ va_K D vwCl (tyx cI cJ cO cZ) t ∧ va_D (va_A [(h0, .inr (9, [.ref h1, .int (iI (n : Int)), .int (iI md)])), (h1, .inl (cO, cap, .inr (.inr (.inr (.inr f))))), (v0, .inr (6, vs))] sz) [(h0, .inr (9, [.ref h1, .int (iI ((n : Int) + 1)), .int (iI md)])), (h1, .inl (cO, cap, .inr (.inr (.inr (.inr (va_up f n (some v0))))))), (v0, .inr (6, vs))]) (va_A [(h0, .inr (9, [.ref h1, .int (iI (n : Int)), .int (iI md)])), (h1, .inl (cO, cap, .inr (.inr (.inr (.inr f))))), (v0, .inr (6, vs))] sz)) 0 0 (va_A [(h0, .inr (9, [.ref h1, .int (iI (n : Int)), .int (iI md)])), (h1, .inl (cO, cap, .inr (.inr (.inr (.inr f))))), (v0, .inr (6, vs))] sz) := by
  refine Met.ofW (cc := prog_25_method_24_code) (maxL := 4) (ret := none) (by decide) rfl ?_
  intro p e s m args below meth c s₁ B hml hv
  obtain ⟨rfl, hsz, hP, hK, hD0, hE⟩ := hv
  have hx := B.exec
  have hb := B.bytes
  have hr := B.returns
  have hts0 := atoms_spec (ws := (.code ⟨"java/util/ArrayList", "add", "(Ljava/lang/Object;[Ljava/lang/Object;I)V"⟩ prog_25_method_24_code 4 none :: TG)) B.pre
  have hts : ∀ w ∈ TG, w.before _ s = true := fun w h => hts0 w (List.mem_cons_of_mem _ h)
  have hown : s.vm.findClass "java/util/ArrayList" = some m.cls := findClass_of_methodNamed B.named
  have hlocks := B.notSynchronized
  subst hsz
  have hD := hD0.self (sz := s.heap.size)
  have hAZ : ∀ q, va_A [(h0, .inr (9, [.ref h1, .int (iI (n : Int)), .int (iI md)])), (h1, .inl (cO, cap, .inr (.inr (.inr (.inr f))))), (v0, .inr (6, vs))] s.heap.size q → Z.heap.size ≤ q := fun q h => hE.inA hD0 h
  generalize hAe : va_A [(h0, .inr (9, [.ref h1, .int (iI (n : Int)), .int (iI md)])), (h1, .inl (cO, cap, .inr (.inr (.inr (.inr f))))), (v0, .inr (6, vs))] s.heap.size = A at hD hAZ ⊢
  have hA : ∀ q : Nat, s.heap.size ≤ q → A q := fun q h => by rw [← hAe]; exact Or.inr h
  have hS : va_S A s.heap s.heap [] := va_S.rf
  have hP : va_P D vwCl [(h0, .inr (9, [.ref h1, .int (iI (n : Int)), .int (iI md)])), (h1, .inl (cO, cap, .inr (.inr (.inr (.inr f))))), (v0, .inr (6, vs))] s.heap := hP
  have hl := lv_entry ([Value.ref h0, Value.ref v0, Value.ref h1, Value.int (iI (n : Int))]) (n := 4) (Nat.le_of_ble_eq_true rfl)
  rw [lg_entry_eq]
  generalize (lg_sl ([Value.ref h0, Value.ref v0, Value.ref h1, Value.int (iI (n : Int))]) ++ List.replicate (4 - (lg_sl ([Value.ref h0, Value.ref v0, Value.ref h1, Value.int (iI (n : Int))])).length) Slot.unset).toArray = ls at hl ⊢
  have hl : lv_has ls 4 [(0, .ref h0), (1, .ref v0), (2, .ref h1), (3, .int (iI (n : Int)))] := hl
  unfold vc_AL_add1SL at v
  obtain ⟨H, hH⟩ : ∃ H, H = s.heap := ⟨_, rfl⟩
  obtain ⟨locs, hlc⟩ : ∃ L : List Loc, L = [] := ⟨_, rfl⟩
  rw [← hlc] at hS ⊢
  have hP : va_P D vwCl [(h0, .inr (9, [.ref h1, .int (iI (n : Int)), .int (iI md)])), (h1, .inl (cO, cap, .inr (.inr (.inr (.inr f))))), (v0, .inr (6, vs))] H := by rw [hH]; exact hP
  have hS : va_S A s.heap H locs := by rw [hH]; exact hS
  have hW0 : ∀ {X : Heap → Prop}, X H → X s.heap := fun h => by rw [← hH]; exact h
  refine hW0 (X := fun Z => W p l e _ s m _ below meth c Z locs 0 0 _ _) ?_
  refine lv_iload_n hx hb d_AL_add1_0 rfl (lv_at hl 3 rfl) ?_
  refine lv_aload_n hx hb d_AL_add1_1 rfl (lv_at hl 2 rfl) ?_
  refine va_alen hx hb hK hP 1 2 rfl rfl (v := iI (((cap : Nat) : Int) : Int)) (iI_nat _).symm d_AL_add1_2 ?_
  refine nv_icmp_ne (tgt := 11) hx hb d_AL_add1_3 (by decide) ⟨by omega, by omega⟩ ⟨by omega, by omega⟩ (fun _ => ?_) (fun h9 => by omega)
  refine lv_aload_n hx hb d_AL_add1_11 rfl (lv_at hl 2 rfl) ?_
  refine lv_iload_n hx hb d_AL_add1_12 rfl (lv_at hl 3 rfl) ?_
  refine lv_aload_n hx hb d_AL_add1_13 rfl (lv_at hl 1 rfl) ?_
  refine nv_asto hx hb hK hP hD hS 1 2 2 6 rfl rfl (va_Nw.of rfl (hE.tbl hZ (List.mem_append_right _ (List.mem_of_getElem? (i := 959) (by decide +kernel))) (by decide +kernel) (a := #[]))) rfl rfl n rfl (by omega) (by first | decide | omega) d_AL_add1_14 (fun H locs hP hD hS => ?_)
  have hP : va_P D vwCl [(h0, .inr (9, [.ref h1, .int (iI (n : Int)), .int (iI md)])), (h1, .inl (cO, cap, .inr (.inr (.inr (.inr (va_up f n (some v0))))))), (v0, .inr (6, vs))] H := hP
  have hD : va_D A [(h0, .inr (9, [.ref h1, .int (iI (n : Int)), .int (iI md)])), (h1, .inl (cO, cap, .inr (.inr (.inr (.inr (va_up f n (some v0))))))), (v0, .inr (6, vs))] := hD
  refine lv_aload_n hx hb d_AL_add1_15 rfl (lv_at hl 0 rfl) ?_
  refine lv_iload_n hx hb d_AL_add1_16 rfl (lv_at hl 3 rfl) ?_
  refine nv_iconst (n := 1) hx hb d_AL_add1_17 ?_
  refine nv_iadd (z := (n : Int) + 1) hx hb d_AL_add1_18 (by first | rfl | omega) ?_
  refine va_put (D := D) (ci := 9) (v := .int (iI ((n : Int) + 1))) (ty := .int) (C := "java/util/ArrayList") (T := T_AL) (N := 3) hx hb hts in_AL t_AL tok_AL n_AL hown hK hP hD hS 0 rfl rfl 1 (by decide) (hts _ wd_48) (fun _ h9 => h9) rfl (by decide +kernel) rfl rfl (Nat.le_of_ble_eq_true rfl) d_AL_add1_19 (fun H locs hP hD hS => ?_)
  have hP : va_P D vwCl [(h0, .inr (9, [.ref h1, .int (iI ((n : Int) + 1)), .int (iI md)])), (h1, .inl (cO, cap, .inr (.inr (.inr (.inr (va_up f n (some v0))))))), (v0, .inr (6, vs))] H := hP
  have hD : va_D A [(h0, .inr (9, [.ref h1, .int (iI ((n : Int) + 1)), .int (iI md)])), (h1, .inl (cO, cap, .inr (.inr (.inr (.inr (va_up f n (some v0))))))), (v0, .inr (6, vs))] := hD
  have hP9 := hP.sub (ws' := [(h0, .inr (9, [.ref h1, .int (iI ((n : Int) + 1)), .int (iI md)])), (h1, .inl (cO, cap, .inr (.inr (.inr (.inr (va_up f n (some v0))))))), (v0, .inr (6, vs))]) [0, 1, 2] rfl
  have hD9 := hD.sub (ws' := [(h0, .inr (9, [.ref h1, .int (iI ((n : Int) + 1)), .int (iI md)])), (h1, .inl (cO, cap, .inr (.inr (.inr (.inr (va_up f n (some v0))))))), (v0, .inr (6, vs))]) [0, 1, 2] (by decide) rfl
  exact W.vret hx hb hr (fun t ht hW => ⟨⟨(), rfl, v, by rw [ht]; exact hP9, va_K.moved hW.alike hK, hD9⟩, hS.F ht⟩) hS.2.2 d_AL_add1_22

def vc_AL_add0SL (n : Nat) (md : Int) (cap : Nat) (f : Nat → Option Nat) (post : Int → Prop) : Prop := ∃ P1 : Prop, vc_AL_add1SL n (md + 1) cap f P1 ∧ (P1  → post 1)
set_option maxHeartbeats 4000000 in
set_option maxRecDepth 100000 in
theorem m_AL_add0SL (l : Launch) (D : va_G) (cI cJ cO cZ : ClassId) (qd mi : Nat) (Z : State) (hZ : EvZ qd mi Z) (h0 h1 v0 : Nat) (sz : Nat) (n : Nat) (md : Int) (cap : Nat) (f : Nat → Option Nat) (vs : List Value) (hnc : n < cap) (hcap : cap < 1000000) (post : Int → Prop) (v : vc_AL_add0SL n md cap f post) : Met l ⟨"java/util/ArrayList", "add", "(Ljava/lang/Object;)Z"⟩ (.code ⟨"java/util/ArrayList", "add", "(Ljava/lang/Object;)Z"⟩ prog_25_method_25_code 2 (some .boolean) :: TG) { frames := 1, cells := 0, slots := 0, locals := 23 } (va_Pc [.ref h0, .ref v0] (fun U => U.heap.size = sz ∧ va_P D vwCl [(h0, .inr (9, [.ref h1, .int (iI (n : Int)), .int (iI md)])), (h1, .inl (cO, cap, .inr (.inr (.inr (.inr f))))), (v0, .inr (6, vs))] U.heap ∧ va_K D vwCl (tyx cI cJ cO cZ) U ∧ va_D (fun q => Z.heap.size ≤ q) [(h0, .inr (9, [.ref h1, .int (iI (n : Int)), .int (iI md)])), (h1, .inl (cO, cap, .inr (.inr (.inr (.inr f))))), (v0, .inr (6, vs))] ∧ Ev Z U)) (va_Qi (fun (r : Int32) (u : Unit) => ∃ z : Int, r = iI z ∧ post z ) (fun u t => va_P D vwCl [(h0, .inr (9, [.ref h1, .int (iI ((n : Int) + 1)), .int (iI (md + 1))])), (h1, .inl (cO, cap, .inr (.inr (.inr (.inr (va_up f n (some v0))))))), (v0, .inr (6, vs))] t.heap ∧ va_K D vwCl (tyx cI cJ cO cZ) t ∧ va_D (va_A [(h0, .inr (9, [.ref h1, .int (iI (n : Int)), .int (iI md)])), (h1, .inl (cO, cap, .inr (.inr (.inr (.inr f))))), (v0, .inr (6, vs))] sz) [(h0, .inr (9, [.ref h1, .int (iI ((n : Int) + 1)), .int (iI (md + 1))])), (h1, .inl (cO, cap, .inr (.inr (.inr (.inr (va_up f n (some v0))))))), (v0, .inr (6, vs))]) (va_A [(h0, .inr (9, [.ref h1, .int (iI (n : Int)), .int (iI md)])), (h1, .inl (cO, cap, .inr (.inr (.inr (.inr f))))), (v0, .inr (6, vs))] sz)) 0 0 (va_A [(h0, .inr (9, [.ref h1, .int (iI (n : Int)), .int (iI md)])), (h1, .inl (cO, cap, .inr (.inr (.inr (.inr f))))), (v0, .inr (6, vs))] sz) := by
  refine Met.ofW (cc := prog_25_method_25_code) (maxL := 2) (ret := (some .boolean)) (by decide) rfl ?_
  intro p e s m args below meth c s₁ B hml hv
  obtain ⟨rfl, hsz, hP, hK, hD0, hE⟩ := hv
  have hx := B.exec
  have hb := B.bytes
  have hr := B.returns
  have hts0 := atoms_spec (ws := (.code ⟨"java/util/ArrayList", "add", "(Ljava/lang/Object;)Z"⟩ prog_25_method_25_code 2 (some .boolean) :: TG)) B.pre
  have hts : ∀ w ∈ TG, w.before _ s = true := fun w h => hts0 w (List.mem_cons_of_mem _ h)
  have hown : s.vm.findClass "java/util/ArrayList" = some m.cls := findClass_of_methodNamed B.named
  have hlocks := B.notSynchronized
  subst hsz
  have hD := hD0.self (sz := s.heap.size)
  have hAZ : ∀ q, va_A [(h0, .inr (9, [.ref h1, .int (iI (n : Int)), .int (iI md)])), (h1, .inl (cO, cap, .inr (.inr (.inr (.inr f))))), (v0, .inr (6, vs))] s.heap.size q → Z.heap.size ≤ q := fun q h => hE.inA hD0 h
  generalize hAe : va_A [(h0, .inr (9, [.ref h1, .int (iI (n : Int)), .int (iI md)])), (h1, .inl (cO, cap, .inr (.inr (.inr (.inr f))))), (v0, .inr (6, vs))] s.heap.size = A at hD hAZ ⊢
  have hA : ∀ q : Nat, s.heap.size ≤ q → A q := fun q h => by rw [← hAe]; exact Or.inr h
  have hS : va_S A s.heap s.heap [] := va_S.rf
  have hP : va_P D vwCl [(h0, .inr (9, [.ref h1, .int (iI (n : Int)), .int (iI md)])), (h1, .inl (cO, cap, .inr (.inr (.inr (.inr f))))), (v0, .inr (6, vs))] s.heap := hP
  have hl := lv_entry ([Value.ref h0, Value.ref v0]) (n := 2) (Nat.le_of_ble_eq_true rfl)
  rw [lg_entry_eq]
  generalize (lg_sl ([Value.ref h0, Value.ref v0]) ++ List.replicate (2 - (lg_sl ([Value.ref h0, Value.ref v0])).length) Slot.unset).toArray = ls at hl ⊢
  have hl : lv_has ls 2 [(0, .ref h0), (1, .ref v0)] := hl
  unfold vc_AL_add0SL at v
  obtain ⟨H, hH⟩ : ∃ H, H = s.heap := ⟨_, rfl⟩
  obtain ⟨locs, hlc⟩ : ∃ L : List Loc, L = [] := ⟨_, rfl⟩
  rw [← hlc] at hS ⊢
  have hP : va_P D vwCl [(h0, .inr (9, [.ref h1, .int (iI (n : Int)), .int (iI md)])), (h1, .inl (cO, cap, .inr (.inr (.inr (.inr f))))), (v0, .inr (6, vs))] H := by rw [hH]; exact hP
  have hS : va_S A s.heap H locs := by rw [hH]; exact hS
  have hW0 : ∀ {X : Heap → Prop}, X H → X s.heap := fun h => by rw [← hH]; exact h
  refine hW0 (X := fun Z => W p l e _ s m _ below meth c Z locs 0 0 _ _) ?_
  refine lv_aload_n hx hb d_AL_add0_0 rfl (lv_at hl 0 rfl) ?_
  refine lv_dup hx hb d_AL_add0_1 rfl ?_
  refine va_get (D := D) (ci := 9) (v := .int (iI md)) (C := "java/util/ArrayList") (T := T_AL) (N := 3) hx hb hts in_AL hown hK hP 0 rfl rfl 2 (by decide) (hts _ wd_50) (u_same (hts _ wd_51)) rfl d_AL_add0_2 ?_
  refine nv_iconst (n := 1) hx hb d_AL_add0_5 ?_
  refine nv_iadd (z := md + 1) hx hb d_AL_add0_6 (by first | rfl | omega) ?_
  refine va_put (D := D) (ci := 9) (v := .int (iI (md + 1))) (ty := .int) (C := "java/util/ArrayList") (T := T_AL) (N := 3) hx hb hts in_AL t_AL tok_AL n_AL hown hK hP hD hS 0 rfl rfl 2 (by decide) (hts _ wd_50) (u_same (hts _ wd_51)) rfl (by decide +kernel) rfl rfl (Nat.le_of_ble_eq_true rfl) d_AL_add0_7 (fun H locs hP hD hS => ?_)
  have hP : va_P D vwCl [(h0, .inr (9, [.ref h1, .int (iI (n : Int)), .int (iI (md + 1))])), (h1, .inl (cO, cap, .inr (.inr (.inr (.inr f))))), (v0, .inr (6, vs))] H := hP
  have hD : va_D A [(h0, .inr (9, [.ref h1, .int (iI (n : Int)), .int (iI (md + 1))])), (h1, .inl (cO, cap, .inr (.inr (.inr (.inr f))))), (v0, .inr (6, vs))] := hD
  refine lv_aload_n hx hb d_AL_add0_10 rfl (lv_at hl 0 rfl) ?_
  refine lv_aload_n hx hb d_AL_add0_11 rfl (lv_at hl 1 rfl) ?_
  refine lv_aload_n hx hb d_AL_add0_12 rfl (lv_at hl 0 rfl) ?_
  refine va_get (D := D) (ci := 9) (v := .ref h1) (C := "java/util/ArrayList") (T := T_AL) (N := 3) hx hb hts in_AL hown hK hP 0 rfl rfl 0 (by decide) (hts _ wd_47) (fun _ h9 => h9) rfl d_AL_add0_13 ?_
  refine lv_aload_n hx hb d_AL_add0_16 rfl (lv_at hl 0 rfl) ?_
  refine va_get (D := D) (ci := 9) (v := .int (iI (n : Int))) (C := "java/util/ArrayList") (T := T_AL) (N := 3) hx hb hts in_AL hown hK hP 0 rfl rfl 1 (by decide) (hts _ wd_48) (fun _ h9 => h9) rfl d_AL_add0_17 ?_
  obtain ⟨P1, q2, v⟩ := v
  have hPc := hP.sub (ws' := [(h0, .inr (9, [.ref h1, .int (iI (n : Int)), .int (iI (md + 1))])), (h1, .inl (cO, cap, .inr (.inr (.inr (.inr f))))), (v0, .inr (6, vs))]) [0, 1, 2] rfl
  have hDc := hD.sub (ws' := [(h0, .inr (9, [.ref h1, .int (iI (n : Int)), .int (iI (md + 1))])), (h1, .inl (cO, cap, .inr (.inr (.inr (.inr f))))), (v0, .inr (6, vs))]) [0, 1, 2] (by decide) rfl
  have hFc := va_free (wc := [(h0, .inr (9, [.ref h1, .int (iI (n : Int)), .int (iI (md + 1))])), (h1, .inl (cO, cap, .inr (.inr (.inr (.inr f))))), (v0, .inr (6, vs))]) hD hS hA [0, 1, 2] rfl
  refine va_callv (va_runV (As := [.ref v0, .ref h1, .int (iI (n : Int))]) (rest := []) ⟨hx, hb, hml, hown, hts⟩ (m_AL_add1SL l D cI cJ cO cZ qd mi Z hZ h0 h1 v0 H.size n (md + 1) cap f vs hnc hcap  P1 q2) (nv_cwV (n := 3) hts wd_379 wd_381 sl_9 wd_4 wd_382 (by decide +kernel) ⟨Nat.le_of_ble_eq_true rfl, Nat.le_of_ble_eq_true rfl⟩) ⟨blWE, va_recv hK hPc (ci := 9) (q0 := 0) rfl rfl, fun U hU hW => ⟨rfl, by rw [hU], by rw [hU]; exact hPc, va_K.moved hW.alike hK, hDc.weaken (fun _ _ _ h => hAZ _ h), hE.step hAZ hS hU hW⟩⟩ rfl rfl hl.1 rfl (lv_room (Nat.le_of_ble_eq_true rfl)) d_AL_add0_20 ⟨Nat.le_of_ble_eq_true rfl, Nat.le_of_ble_eq_true rfl⟩) hS (fun q _ h => hFc q h) hFc (fun u t H1 locs ht hvm hw hB hz1 hk1 hS => ?_)
  obtain ⟨hP1, hK1, hD1⟩ := hB
  rw [ht] at hP1
  obtain ⟨hP, hD⟩ := va_join (wr := []) (w1 := [(h0, .inr (9, [.ref h1, .int (iI ((n : Int) + 1)), .int (iI (md + 1))])), (h1, .inl (cO, cap, .inr (.inr (.inr (.inr (va_up f n (some v0))))))), (v0, .inr (6, vs))]) hP hD [0, 1, 2] [] rfl rfl (by decide) (by decide) hk1 hFc hP1 hD1
  generalize H1 = H at hP hS ⊢
  have hP : va_P D vwCl [(h0, .inr (9, [.ref h1, .int (iI ((n : Int) + 1)), .int (iI (md + 1))])), (h1, .inl (cO, cap, .inr (.inr (.inr (.inr (va_up f n (some v0))))))), (v0, .inr (6, vs))] H := hP
  have hD : va_D A [(h0, .inr (9, [.ref h1, .int (iI ((n : Int) + 1)), .int (iI (md + 1))])), (h1, .inl (cO, cap, .inr (.inr (.inr (.inr (va_up f n (some v0))))))), (v0, .inr (6, vs))] := hD
  refine W.widen (k := 0) (n := 0) (Nat.le_of_ble_eq_true rfl) (Nat.le_of_ble_eq_true rfl) ?_
  replace v := v hw
  refine nv_iconst (n := 1) hx hb d_AL_add0_23 ?_
  have hP9 := hP.sub (ws' := [(h0, .inr (9, [.ref h1, .int (iI ((n : Int) + 1)), .int (iI (md + 1))])), (h1, .inl (cO, cap, .inr (.inr (.inr (.inr (va_up f n (some v0))))))), (v0, .inr (6, vs))]) [0, 1, 2] rfl
  have hD9 := hD.sub (ws' := [(h0, .inr (9, [.ref h1, .int (iI ((n : Int) + 1)), .int (iI (md + 1))])), (h1, .inl (cO, cap, .inr (.inr (.inr (.inr (va_up f n (some v0))))))), (v0, .inr (6, vs))]) [0, 1, 2] (by decide) rfl
  exact W.zret hx hb hr (by decide) (fun t ht hW => ⟨⟨_, (), rfl, ⟨_, rfl, v⟩, by rw [ht]; exact hP9, va_K.moved hW.alike hK, hD9⟩, hS.F ht⟩) hS.2.2 d_AL_add0_24

