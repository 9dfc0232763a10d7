/-! MODULE Day -/
theorem d_Dy_luxHoursBefore_0 : decode prog_5_method_3_code 0 = .ok (.iload_n 1, 1) := by decide +kernel
theorem d_Dy_luxHoursBefore_1 : decode prog_5_method_3_code 1 = .ok (.ifCond .ge 5, 3) := by decide +kernel
theorem d_Dy_luxHoursBefore_4 : decode prog_5_method_3_code 4 = .ok (.lconst 0, 1) := by decide +kernel
theorem d_Dy_luxHoursBefore_5 : decode prog_5_method_3_code 5 = .ok (.lreturn, 1) := by decide +kernel
theorem d_Dy_luxHoursBefore_6 : decode prog_5_method_3_code 6 = .ok (.iload_n 1, 1) := by decide +kernel
theorem d_Dy_luxHoursBefore_7 : decode prog_5_method_3_code 7 = .ok (.bipush 24, 2) := by decide +kernel
theorem d_Dy_luxHoursBefore_9 : decode prog_5_method_3_code 9 = .ok (.idiv, 1) := by decide +kernel
theorem d_Dy_luxHoursBefore_10 : decode prog_5_method_3_code 10 = .ok (.i2l, 1) := by decide +kernel
theorem d_Dy_luxHoursBefore_11 : decode prog_5_method_3_code 11 = .ok (.aload_n 0, 1) := by decide +kernel
theorem d_Dy_luxHoursBefore_12 : decode prog_5_method_3_code 12 = .ok (.getfield 15, 3) := by decide +kernel
theorem d_Dy_luxHoursBefore_15 : decode prog_5_method_3_code 15 = .ok (.bipush 24, 2) := by decide +kernel
theorem d_Dy_luxHoursBefore_17 : decode prog_5_method_3_code 17 = .ok (.laload, 1) := by decide +kernel
theorem d_Dy_luxHoursBefore_18 : decode prog_5_method_3_code 18 = .ok (.lmul, 1) := by decide +kernel
theorem d_Dy_luxHoursBefore_19 : decode prog_5_method_3_code 19 = .ok (.aload_n 0, 1) := by decide +kernel
theorem d_Dy_luxHoursBefore_20 : decode prog_5_method_3_code 20 = .ok (.getfield 15, 3) := by decide +kernel
theorem d_Dy_luxHoursBefore_23 : decode prog_5_method_3_code 23 = .ok (.iload_n 1, 1) := by decide +kernel
theorem d_Dy_luxHoursBefore_24 : decode prog_5_method_3_code 24 = .ok (.bipush 24, 2) := by decide +kernel
theorem d_Dy_luxHoursBefore_26 : decode prog_5_method_3_code 26 = .ok (.irem, 1) := by decide +kernel
theorem d_Dy_luxHoursBefore_27 : decode prog_5_method_3_code 27 = .ok (.laload, 1) := by decide +kernel
theorem d_Dy_luxHoursBefore_28 : decode prog_5_method_3_code 28 = .ok (.ladd, 1) := by decide +kernel
theorem d_Dy_luxHoursBefore_29 : decode prog_5_method_3_code 29 = .ok (.lreturn, 1) := by decide +kernel
def vc_Dy_luxHoursBefore (dl : Nat → Int) (ds : Nat → Int) (hour : Int) (post : Int → Prop) : Prop := (r32 hour) ∧ ((0 ≤ hour → (0 ≤ hour) ∧ ((r32 (hour / 24)) ∧ ((0 ≤ hour) ∧ ((0 ≤ hour % 24 ∧ hour % 24 < 25) ∧ (post ((hour / 24) * (ds 24) + (ds (hour % 24).toNat))))))) ∧ (hour < 0 → post 0))
set_option maxHeartbeats 4000000 in
set_option maxRecDepth 100000 in
theorem m_Dy_luxHoursBefore (l : Launch) (D : va_G) (cI cJ cO cZ : ClassId) (h0 h1 h2 : Nat) (dl : Nat → Int) (ds : Nat → Int) (hour : Int) (post : Int → Prop) (v : vc_Dy_luxHoursBefore dl ds hour post) : Met l ⟨"LightDoses$Day", "luxHoursBefore", "(I)J"⟩ (.code ⟨"LightDoses$Day", "luxHoursBefore", "(I)J"⟩ prog_5_method_3_code 2 (some .long) :: TG) { frames := 0, cells := 0, slots := 0, locals := 0 } (va_Pc [.ref h0, .int (iI hour)] (fun U => va_K D vwCl (tyx cI cJ cO cZ) U ∧ va_P D vwCl [(h0, .inr (3, [.ref h1, .ref h2])), (h1, .inl (cI, 24, .inl (fun k => iI (dl k)))), (h2, .inl (cJ, 25, .inr (.inl (fun k => lI (ds k)))))] U.heap)) (vp_Sl (fun r => ∃ z : Int, r = lI z ∧ post z)) 0 0 (fun _ => False) := by
  refine Met.ofW (cc := prog_5_method_3_code) (maxL := 2) (ret := (some .long)) (by decide) rfl ?_
  intro p e s m args below meth c s₁ B hml hv
  obtain ⟨rfl, hK, hP⟩ := hv
  have hx := B.exec
  have hb := B.bytes
  have hr := B.returns
  have hts0 := atoms_spec (ws := (.code ⟨"LightDoses$Day", "luxHoursBefore", "(I)J"⟩ prog_5_method_3_code 2 (some .long) :: TG)) B.pre
  have hts : ∀ w ∈ TG, w.before _ s = true := fun w h => hts0 w (List.mem_cons_of_mem _ h)
  have hown : s.vm.findClass "LightDoses$Day" = some m.cls := findClass_of_methodNamed B.named
  have hlocks := B.notSynchronized
  have hP : va_P D vwCl [(h0, .inr (3, [.ref h1, .ref h2])), (h1, .inl (cI, 24, .inl (fun k => iI (dl k)))), (h2, .inl (cJ, 25, .inr (.inl (fun k => lI (ds k)))))] s.heap := hP
  have hl := lv_entry ([Value.ref h0, Value.int (iI hour)]) (n := 2) (Nat.le_of_ble_eq_true rfl)
  rw [lg_entry_eq]
  generalize (lg_sl ([Value.ref h0, Value.int (iI hour)]) ++ List.replicate (2 - (lg_sl ([Value.ref h0, Value.int (iI hour)])).length) Slot.unset).toArray = ls at hl ⊢
  have hl : lv_has ls 2 [(0, .ref h0), (1, .int (iI hour))] := hl
  unfold vc_Dy_luxHoursBefore at v
  refine lv_iload_n hx hb d_Dy_luxHoursBefore_0 rfl (lv_at hl 1 rfl) ?_
  obtain ⟨k1, v⟩ := v
  refine nv_if_ge (tgt := 6) hx hb d_Dy_luxHoursBefore_1 (by decide) k1 (fun c2 => ?_) (fun c2 => ?_)
  · replace v := v.1 c2
    refine lv_iload_n hx hb d_Dy_luxHoursBefore_6 rfl (lv_at hl 1 rfl) ?_
    refine nv_bipush (z := 24) hx hb d_Dy_luxHoursBefore_7 (by decide) ?_
    obtain ⟨k3, v⟩ := v
    refine nv_idiv (z := hour / 24) hx hb d_Dy_luxHoursBefore_9 k1 (by decide) k3 (by decide) rfl ?_
    obtain ⟨k4, v⟩ := v
    refine nv_i2l hx hb d_Dy_luxHoursBefore_10 k4 ?_
    refine lv_aload_n hx hb d_Dy_luxHoursBefore_11 rfl (lv_at hl 0 rfl) ?_
    refine va_get (D := D) (ci := 3) (v := .ref h2) (C := "LightDoses$Day") (T := T_Dy) (N := 2) hx hb hts in_Dy hown hK hP 0 rfl rfl 1 (by decide) (hts _ wd_70) (fun _ h9 => h9) rfl d_Dy_luxHoursBefore_12 ?_
    refine nv_bipush (z := 24) hx hb d_Dy_luxHoursBefore_15 (by decide) ?_
    refine nv_lald (f := ds) hx hb hK 1 (hP 2 _ rfl) rfl 24 rfl (by decide) (by decide) d_Dy_luxHoursBefore_17 ?_
    refine nv_lmul (z := (hour / 24) * (ds 24)) hx hb d_Dy_luxHoursBefore_18 (by first | rfl | omega) ?_
    refine lv_aload_n hx hb d_Dy_luxHoursBefore_19 rfl (lv_at hl 0 rfl) ?_
    refine va_get (D := D) (ci := 3) (v := .ref h2) (C := "LightDoses$Day") (T := T_Dy) (N := 2) hx hb hts in_Dy hown hK hP 0 rfl rfl 1 (by decide) (hts _ wd_70) (fun _ h9 => h9) rfl d_Dy_luxHoursBefore_20 ?_
    refine lv_iload_n hx hb d_Dy_luxHoursBefore_23 rfl (lv_at hl 1 rfl) ?_
    refine nv_bipush (z := 24) hx hb d_Dy_luxHoursBefore_24 (by decide) ?_
    obtain ⟨k5, v⟩ := v
    refine nv_irem (z := hour % 24) hx hb d_Dy_luxHoursBefore_26 k1 (by decide) k5 (by decide) rfl ?_
    obtain ⟨k6, v⟩ := v
    refine nv_lald (f := ds) hx hb hK 1 (hP 2 _ rfl) rfl (hour % 24).toNat (Int.toNat_of_nonneg k6.1).symm (by omega) (by decide) d_Dy_luxHoursBefore_27 ?_
    refine nv_ladd (z := (hour / 24) * (ds 24) + (ds (hour % 24).toNat)) hx hb d_Dy_luxHoursBefore_28 (by first | rfl | omega) ?_
    exact W.lret hx hb hr (fun t ht hW => ⟨_, rfl, ⟨_, rfl, v⟩, ht⟩) (fun q h => by cases h) d_Dy_luxHoursBefore_29
  · replace v := v.2 c2
    refine lv_lconst (v := lI 0) hx hb d_Dy_luxHoursBefore_4 (by decide) ?_
    exact W.lret hx hb hr (fun t ht hW => ⟨_, rfl, ⟨_, rfl, v⟩, ht⟩) (fun q h => by cases h) d_Dy_luxHoursBefore_5

theorem d_Dy_put_0 : decode prog_5_method_2_code 0 = .ok (.iload_n 1, 1) := by decide +kernel
theorem d_Dy_put_1 : decode prog_5_method_2_code 1 = .ok (.ifCond .lt 9, 3) := by decide +kernel
theorem d_Dy_put_4 : decode prog_5_method_2_code 4 = .ok (.iload_n 1, 1) := by decide +kernel
theorem d_Dy_put_5 : decode prog_5_method_2_code 5 = .ok (.bipush 24, 2) := by decide +kernel
theorem d_Dy_put_7 : decode prog_5_method_2_code 7 = .ok (.if_icmp .lt 4, 3) := by decide +kernel
theorem d_Dy_put_10 : decode prog_5_method_2_code 10 = .ok (.return_, 1) := by decide +kernel
theorem d_Dy_put_11 : decode prog_5_method_2_code 11 = .ok (.aload_n 0, 1) := by decide +kernel
theorem d_Dy_put_12 : decode prog_5_method_2_code 12 = .ok (.getfield 9, 3) := by decide +kernel
theorem d_Dy_put_15 : decode prog_5_method_2_code 15 = .ok (.iload_n 1, 1) := by decide +kernel
theorem d_Dy_put_16 : decode prog_5_method_2_code 16 = .ok (.iload_n 2, 1) := by decide +kernel
theorem d_Dy_put_17 : decode prog_5_method_2_code 17 = .ok (.iastore, 1) := by decide +kernel
theorem d_Dy_put_18 : decode prog_5_method_2_code 18 = .ok (.iload_n 1, 1) := by decide +kernel
theorem d_Dy_put_19 : decode prog_5_method_2_code 19 = .ok (.istore_n 3, 1) := by decide +kernel
theorem d_Dy_put_20 : decode prog_5_method_2_code 20 = .ok (.iload_n 3, 1) := by decide +kernel
theorem d_Dy_put_21 : decode prog_5_method_2_code 21 = .ok (.bipush 24, 2) := by decide +kernel
theorem d_Dy_put_23 : decode prog_5_method_2_code 23 = .ok (.if_icmp .ge 31, 3) := by decide +kernel
theorem d_Dy_put_26 : decode prog_5_method_2_code 26 = .ok (.aload_n 0, 1) := by decide +kernel
theorem d_Dy_put_27 : decode prog_5_method_2_code 27 = .ok (.getfield 15, 3) := by decide +kernel
theorem d_Dy_put_30 : decode prog_5_method_2_code 30 = .ok (.iload_n 3, 1) := by decide +kernel
theorem d_Dy_put_31 : decode prog_5_method_2_code 31 = .ok (.iconst 1, 1) := by decide +kernel
theorem d_Dy_put_32 : decode prog_5_method_2_code 32 = .ok (.iadd, 1) := by decide +kernel
theorem d_Dy_put_33 : decode prog_5_method_2_code 33 = .ok (.aload_n 0, 1) := by decide +kernel
theorem d_Dy_put_34 : decode prog_5_method_2_code 34 = .ok (.getfield 15, 3) := by decide +kernel
theorem d_Dy_put_37 : decode prog_5_method_2_code 37 = .ok (.iload_n 3, 1) := by decide +kernel
theorem d_Dy_put_38 : decode prog_5_method_2_code 38 = .ok (.laload, 1) := by decide +kernel
theorem d_Dy_put_39 : decode prog_5_method_2_code 39 = .ok (.aload_n 0, 1) := by decide +kernel
theorem d_Dy_put_40 : decode prog_5_method_2_code 40 = .ok (.getfield 9, 3) := by decide +kernel
theorem d_Dy_put_43 : decode prog_5_method_2_code 43 = .ok (.iload_n 3, 1) := by decide +kernel
theorem d_Dy_put_44 : decode prog_5_method_2_code 44 = .ok (.iaload, 1) := by decide +kernel
theorem d_Dy_put_45 : decode prog_5_method_2_code 45 = .ok (.i2l, 1) := by decide +kernel
theorem d_Dy_put_46 : decode prog_5_method_2_code 46 = .ok (.ladd, 1) := by decide +kernel
theorem d_Dy_put_47 : decode prog_5_method_2_code 47 = .ok (.lastore, 1) := by decide +kernel
theorem d_Dy_put_48 : decode prog_5_method_2_code 48 = .ok (.iinc 3 1, 3) := by decide +kernel
theorem d_Dy_put_51 : decode prog_5_method_2_code 51 = .ok (.goto (-31), 3) := by decide +kernel
theorem d_Dy_put_54 : decode prog_5_method_2_code 54 = .ok (.return_, 1) := by decide +kernel
def vc_Dy_put (dl : Nat → Int) (ds : Nat → Int) (time : Int) (lux : Int) (post : (Nat → Int) → (Nat → Int) → Prop) : Prop := (r32 time) ∧ ((time < 0 → post dl ds) ∧ (0 ≤ time → (time < 24 → (0 ≤ time ∧ time < 24) ∧ (∃ (I5 : Int → (Nat → Int) → Prop) (μ6 : Int → (Nat → Int) → Nat), I5 time ds ∧ ∀ (i : Int) (gs : Nat → Int), I5 i gs → (r32 i) ∧ ((24 ≤ i → post (va_up dl (time).toNat lux) gs) ∧ (i < 24 → (0 ≤ i ∧ i < 25) ∧ ((0 ≤ i ∧ i < 24) ∧ ((r32 ((va_up dl (time).toNat lux) (i).toNat)) ∧ ((0 ≤ i + 1 ∧ i + 1 < 25) ∧ (I5 (i + 1) (va_up gs (i + 1).toNat (gs (i).toNat + ((va_up dl (time).toNat lux) (i).toNat))) ∧ μ6 (i + 1) (va_up gs (i + 1).toNat (gs (i).toNat + ((va_up dl (time).toNat lux) (i).toNat))) < μ6 i gs)))))))) ∧ (24 ≤ time → post dl ds)))
set_option maxHeartbeats 4000000 in
set_option maxRecDepth 100000 in
theorem m_Dy_put (l : Launch) (D : va_G) (cI cJ cO cZ : ClassId) (h0 h1 h2 : Nat) (sz : Nat) (dl : Nat → Int) (ds : Nat → Int) (time : Int) (lux : Int) (post : (Nat → Int) → (Nat → Int) → Prop) (v : vc_Dy_put dl ds time lux post) : Met l ⟨"LightDoses$Day", "put", "(II)V"⟩ (.code ⟨"LightDoses$Day", "put", "(II)V"⟩ prog_5_method_2_code 4 none :: TG) { frames := 0, cells := 0, slots := 0, locals := 0 } (va_Pc [.ref h0, .int (iI time), .int (iI lux)] (fun U => U.heap.size = sz ∧ va_P D vwCl [(h0, .inr (3, [.ref h1, .ref h2])), (h1, .inl (cI, 24, .inl (fun k => iI (dl k)))), (h2, .inl (cJ, 25, .inr (.inl (fun k => lI (ds k)))))] U.heap ∧ va_K D vwCl (tyx cI cJ cO cZ) U ∧ va_D (fun _ => True) [(h0, .inr (3, [.ref h1, .ref h2])), (h1, .inl (cI, 24, .inl (fun k => iI (dl k)))), (h2, .inl (cJ, 25, .inr (.inl (fun k => lI (ds k)))))])) (va_Qv (fun u : (Nat → Int) × (Nat → Int) => post u.1 u.2) (fun u t => va_P D vwCl [(h0, .inr (3, [.ref h1, .ref h2])), (h1, .inl (cI, 24, .inl (fun k => iI (u.1 k)))), (h2, .inl (cJ, 25, .inr (.inl (fun k => lI (u.2 k)))))] t.heap ∧ va_K D vwCl (tyx cI cJ cO cZ) t ∧ va_D (va_A [(h0, .inr (3, [.ref h1, .ref h2])), (h1, .inl (cI, 24, .inl (fun k => iI (dl k)))), (h2, .inl (cJ, 25, .inr (.inl (fun k => lI (ds k)))))] sz) [(h0, .inr (3, [.ref h1, .ref h2])), (h1, .inl (cI, 24, .inl (fun k => iI (u.1 k)))), (h2, .inl (cJ, 25, .inr (.inl (fun k => lI (u.2 k)))))]) (va_A [(h0, .inr (3, [.ref h1, .ref h2])), (h1, .inl (cI, 24, .inl (fun k => iI (dl k)))), (h2, .inl (cJ, 25, .inr (.inl (fun k => lI (ds k)))))] sz)) 0 0 (va_A [(h0, .inr (3, [.ref h1, .ref h2])), (h1, .inl (cI, 24, .inl (fun k => iI (dl k)))), (h2, .inl (cJ, 25, .inr (.inl (fun k => lI (ds k)))))] sz) := by
  refine Met.ofW (cc := prog_5_method_2_code) (maxL := 4) (ret := none) (by decide) rfl ?_
  intro p e s m args below meth c s₁ B hml hv
  obtain ⟨rfl, hsz, hP, hK, hD0⟩ := hv
  have hx := B.exec
  have hb := B.bytes
  have hr := B.returns
  have hts0 := atoms_spec (ws := (.code ⟨"LightDoses$Day", "put", "(II)V"⟩ prog_5_method_2_code 4 none :: TG)) B.pre
  have hts : ∀ w ∈ TG, w.before _ s = true := fun w h => hts0 w (List.mem_cons_of_mem _ h)
  have hown : s.vm.findClass "LightDoses$Day" = some m.cls := findClass_of_methodNamed B.named
  have hlocks := B.notSynchronized
  subst hsz
  have hD := hD0.self (sz := s.heap.size)
  generalize hAe : va_A [(h0, .inr (3, [.ref h1, .ref h2])), (h1, .inl (cI, 24, .inl (fun k => iI (dl k)))), (h2, .inl (cJ, 25, .inr (.inl (fun k => lI (ds k)))))] s.heap.size = A at hD ⊢
  have hA : ∀ q : Nat, s.heap.size ≤ q → A q := fun q h => by rw [← hAe]; exact Or.inr h
  have hS : va_S A s.heap s.heap [] := va_S.rf
  have hP : va_P D vwCl [(h0, .inr (3, [.ref h1, .ref h2])), (h1, .inl (cI, 24, .inl (fun k => iI (dl k)))), (h2, .inl (cJ, 25, .inr (.inl (fun k => lI (ds k)))))] s.heap := hP
  have hl := lv_entry ([Value.ref h0, Value.int (iI time), Value.int (iI lux)]) (n := 4) (Nat.le_of_ble_eq_true rfl)
  rw [lg_entry_eq]
  generalize (lg_sl ([Value.ref h0, Value.int (iI time), Value.int (iI lux)]) ++ List.replicate (4 - (lg_sl ([Value.ref h0, Value.int (iI time), Value.int (iI lux)])).length) Slot.unset).toArray = ls at hl ⊢
  have hl : lv_has ls 4 [(0, .ref h0), (1, .int (iI time)), (2, .int (iI lux))] := hl
  unfold vc_Dy_put at v
  obtain ⟨H, hH⟩ : ∃ H, H = s.heap := ⟨_, rfl⟩
  obtain ⟨locs, hlc⟩ : ∃ L : List Loc, L = [] := ⟨_, rfl⟩
  rw [← hlc] at hS ⊢
  have hP : va_P D vwCl [(h0, .inr (3, [.ref h1, .ref h2])), (h1, .inl (cI, 24, .inl (fun k => iI (dl k)))), (h2, .inl (cJ, 25, .inr (.inl (fun k => lI (ds k)))))] H := by rw [hH]; exact hP
  have hS : va_S A s.heap H locs := by rw [hH]; exact hS
  have hW0 : ∀ {X : Heap → Prop}, X H → X s.heap := fun h => by rw [← hH]; exact h
  refine hW0 (X := fun Z => W p l e _ s m _ below meth c Z locs 0 0 _ _) ?_
  refine lv_iload_n hx hb d_Dy_put_0 rfl (lv_at hl 1 rfl) ?_
  obtain ⟨k1, v⟩ := v
  refine nv_if_lt (tgt := 10) hx hb d_Dy_put_1 (by decide) k1 (fun c2 => ?_) (fun c2 => ?_)
  · replace v := v.1 c2
    have hP9 := hP.sub (ws' := [(h0, .inr (3, [.ref h1, .ref h2])), (h1, .inl (cI, 24, .inl (fun k => iI (dl k)))), (h2, .inl (cJ, 25, .inr (.inl (fun k => lI (ds k)))))]) [0, 1, 2] rfl
    have hD9 := hD.sub (ws' := [(h0, .inr (3, [.ref h1, .ref h2])), (h1, .inl (cI, 24, .inl (fun k => iI (dl k)))), (h2, .inl (cJ, 25, .inr (.inl (fun k => lI (ds k)))))]) [0, 1, 2] (by decide) rfl
    exact W.vret hx hb hr (fun t ht hW => ⟨⟨((dl), (ds)), rfl, v, by rw [ht]; exact hP9, va_K.moved hW.alike hK, hD9⟩, hS.F ht⟩) hS.2.2 d_Dy_put_10
  · replace v := v.2 c2
    refine lv_iload_n hx hb d_Dy_put_4 rfl (lv_at hl 1 rfl) ?_
    refine nv_bipush (z := 24) hx hb d_Dy_put_5 (by decide) ?_
    refine nv_icmp_lt (tgt := 11) hx hb d_Dy_put_7 (by decide) k1 (by decide) (fun c3 => ?_) (fun c3 => ?_)
    · replace v := v.1 c3
      refine lv_aload_n hx hb d_Dy_put_11 rfl (lv_at hl 0 rfl) ?_
      refine va_get (D := D) (ci := 3) (v := .ref h1) (C := "LightDoses$Day") (T := T_Dy) (N := 2) hx hb hts in_Dy hown hK hP 0 rfl rfl 0 (by decide) (hts _ wd_68) (fun _ h9 => h9) rfl d_Dy_put_12 ?_
      refine lv_iload_n hx hb d_Dy_put_15 rfl (lv_at hl 1 rfl) ?_
      refine lv_iload_n hx hb d_Dy_put_16 rfl (lv_at hl 2 rfl) ?_
      obtain ⟨k4, v⟩ := v
      refine nv_iast (f := dl) hx hb hK hP hD hS 1 0 rfl rfl (time).toNat (Int.toNat_of_nonneg k4.1).symm (by omega) (by decide) d_Dy_put_17 (fun H locs hP hD hS => ?_)
      have hP : va_P D vwCl [(h0, .inr (3, [.ref h1, .ref h2])), (h1, .inl (cI, 24, .inl (fun k => iI ((va_up dl (time).toNat lux) k)))), (h2, .inl (cJ, 25, .inr (.inl (fun k => lI (ds k)))))] H := hP
      have hD : va_D A [(h0, .inr (3, [.ref h1, .ref h2])), (h1, .inl (cI, 24, .inl (fun k => iI ((va_up dl (time).toNat lux) k)))), (h2, .inl (cJ, 25, .inr (.inl (fun k => lI (ds k)))))] := hD
      refine lv_iload_n hx hb d_Dy_put_18 rfl (lv_at hl 1 rfl) ?_
      refine lv_istore_n (lv' := [(3, .int (iI time)), (0, .ref h0), (1, .int (iI time)), (2, .int (iI lux))]) hx hb d_Dy_put_19 rfl hl (by decide) rfl (fun ls hl => ?_)
      obtain ⟨I5, μ6, v15, v16⟩ := v
      have L17 : ∀ (N : Nat) (i : Int) (gs : Nat → Int) (H : Heap) (locs : List Loc) (ls : Array Slot), μ6 i gs < N → I5 i gs → va_P D vwCl [(h0, .inr (3, [.ref h1, .ref h2])), (h1, .inl (cI, 24, .inl (fun k => iI ((va_up dl (time).toNat lux) k)))), (h2, .inl (cJ, 25, .inr (.inl (fun k => lI (gs k)))))] H → va_D A [(h0, .inr (3, [.ref h1, .ref h2])), (h1, .inl (cI, 24, .inl (fun k => iI ((va_up dl (time).toNat lux) k)))), (h2, .inl (cJ, 25, .inr (.inl (fun k => lI (gs k)))))] → va_S A s.heap H locs → lv_has ls 4 [(0, .ref h0), (1, .int (iI time)), (2, .int (iI lux)), (3, .int (iI i))] → W p l e (headSpec (.code ⟨"LightDoses$Day", "put", "(II)V"⟩ prog_5_method_2_code 4 none :: TG) { frames := 0, cells := 0, slots := 0, locals := 0 }).room s m ([Value.ref h0, Value.int (iI time), Value.int (iI lux)] : List Value).toArray below meth c H locs 0 0 (MQ below (va_Qv (fun u : (Nat → Int) × (Nat → Int) => post u.1 u.2) (fun u t => va_P D vwCl [(h0, .inr (3, [.ref h1, .ref h2])), (h1, .inl (cI, 24, .inl (fun k => iI (u.1 k)))), (h2, .inl (cJ, 25, .inr (.inl (fun k => lI (u.2 k)))))] t.heap ∧ va_K D vwCl (tyx cI cJ cO cZ) t ∧ va_D A [(h0, .inr (3, [.ref h1, .ref h2])), (h1, .inl (cI, 24, .inl (fun k => iI (u.1 k)))), (h2, .inl (cJ, 25, .inr (.inl (fun k => lI (u.2 k)))))]) A) ([Value.ref h0, Value.int (iI time), Value.int (iI lux)] : List Value).toArray s 0 0 A) (F0 m 20 ls []) := by
        intro N
        induction N with
        | zero => intro i gs H locs ls hN; exact absurd hN (Nat.not_lt_zero _)
        | succ N ih7 =>
          intro i gs H locs ls hN8 hI hP hD hS hl
          have v := v16 i gs hI
          refine lv_iload_n hx hb d_Dy_put_20 rfl (lv_at hl 3 rfl) ?_
          refine nv_bipush (z := 24) hx hb d_Dy_put_21 (by decide) ?_
          obtain ⟨k9, v⟩ := v
          refine nv_icmp_ge (tgt := 54) hx hb d_Dy_put_23 (by decide) k9 (by decide) (fun c10 => ?_) (fun c10 => ?_)
          · replace v := v.1 c10
            have hP9 := hP.sub (ws' := [(h0, .inr (3, [.ref h1, .ref h2])), (h1, .inl (cI, 24, .inl (fun k => iI ((va_up dl (time).toNat lux) k)))), (h2, .inl (cJ, 25, .inr (.inl (fun k => lI (gs k)))))]) [0, 1, 2] rfl
            have hD9 := hD.sub (ws' := [(h0, .inr (3, [.ref h1, .ref h2])), (h1, .inl (cI, 24, .inl (fun k => iI ((va_up dl (time).toNat lux) k)))), (h2, .inl (cJ, 25, .inr (.inl (fun k => lI (gs k)))))]) [0, 1, 2] (by decide) rfl
            exact W.vret hx hb hr (fun t ht hW => ⟨⟨((va_up dl (time).toNat lux), (gs)), rfl, v, by rw [ht]; exact hP9, va_K.moved hW.alike hK, hD9⟩, hS.F ht⟩) hS.2.2 d_Dy_put_54
          · replace v := v.2 c10
            refine lv_aload_n hx hb d_Dy_put_26 rfl (lv_at hl 0 rfl) ?_
            refine va_get (D := D) (ci := 3) (v := .ref h2) (C := "LightDoses$Day") (T := T_Dy) (N := 2) hx hb hts in_Dy hown hK hP 0 rfl rfl 1 (by decide) (hts _ wd_70) (fun _ h9 => h9) rfl d_Dy_put_27 ?_
            refine lv_iload_n hx hb d_Dy_put_30 rfl (lv_at hl 3 rfl) ?_
            refine nv_iconst (n := 1) hx hb d_Dy_put_31 ?_
            refine nv_iadd (z := i + 1) hx hb d_Dy_put_32 (by first | rfl | omega) ?_
            refine lv_aload_n hx hb d_Dy_put_33 rfl (lv_at hl 0 rfl) ?_
            refine va_get (D := D) (ci := 3) (v := .ref h2) (C := "LightDoses$Day") (T := T_Dy) (N := 2) hx hb hts in_Dy hown hK hP 0 rfl rfl 1 (by decide) (hts _ wd_70) (fun _ h9 => h9) rfl d_Dy_put_34 ?_
            refine lv_iload_n hx hb d_Dy_put_37 rfl (lv_at hl 3 rfl) ?_
            obtain ⟨k11, v⟩ := v
            refine nv_lald (f := gs) hx hb hK 1 (hP 2 _ rfl) rfl (i).toNat (Int.toNat_of_nonneg k11.1).symm (by omega) (by decide) d_Dy_put_38 ?_
            refine lv_aload_n hx hb d_Dy_put_39 rfl (lv_at hl 0 rfl) ?_
            refine va_get (D := D) (ci := 3) (v := .ref h1) (C := "LightDoses$Day") (T := T_Dy) (N := 2) hx hb hts in_Dy hown hK hP 0 rfl rfl 0 (by decide) (hts _ wd_68) (fun _ h9 => h9) rfl d_Dy_put_40 ?_
            refine lv_iload_n hx hb d_Dy_put_43 rfl (lv_at hl 3 rfl) ?_
            obtain ⟨k12, v⟩ := v
            refine nv_iald (f := va_up dl (time).toNat lux) hx hb hK 0 (hP 1 _ rfl) rfl (i).toNat (Int.toNat_of_nonneg k12.1).symm (by omega) (by decide) d_Dy_put_44 ?_
            obtain ⟨k13, v⟩ := v
            refine nv_i2l hx hb d_Dy_put_45 k13 ?_
            refine nv_ladd (z := gs (i).toNat + ((va_up dl (time).toNat lux) (i).toNat)) hx hb d_Dy_put_46 (by first | rfl | omega) ?_
            obtain ⟨k14, v⟩ := v
            refine nv_last (f := gs) hx hb hK hP hD hS 2 1 rfl rfl (i + 1).toNat (Int.toNat_of_nonneg k14.1).symm (by omega) (by decide) d_Dy_put_47 (fun H locs hP hD hS => ?_)
            have hP : va_P D vwCl [(h0, .inr (3, [.ref h1, .ref h2])), (h1, .inl (cI, 24, .inl (fun k => iI ((va_up dl (time).toNat lux) k)))), (h2, .inl (cJ, 25, .inr (.inl (fun k => lI ((va_up gs (i + 1).toNat (gs (i).toNat + ((va_up dl (time).toNat lux) (i).toNat))) k)))))] H := hP
            have hD : va_D A [(h0, .inr (3, [.ref h1, .ref h2])), (h1, .inl (cI, 24, .inl (fun k => iI ((va_up dl (time).toNat lux) k)))), (h2, .inl (cJ, 25, .inr (.inl (fun k => lI ((va_up gs (i + 1).toNat (gs (i).toNat + ((va_up dl (time).toNat lux) (i).toNat))) k)))))] := hD
            refine nv_iinc (k := 3) (z := i + 1) (lv' := [(3, .int (iI (i + 1))), (0, .ref h0), (1, .int (iI time)), (2, .int (iI lux))]) hx hb d_Dy_put_48 hl rfl (by omega) (by decide) rfl (fun ls hl => ?_)
            refine lv_goto (tgt := 20) hx hb d_Dy_put_51 (by decide) ?_
            exact ih7 (i + 1) (va_up gs (i + 1).toNat (gs (i).toNat + ((va_up dl (time).toNat lux) (i).toNat))) H locs ls (Nat.lt_of_lt_of_le v.2 (Nat.le_of_lt_succ hN8)) v.1 hP hD hS (lv_sub hl [1, 2, 3, 0] rfl)
      exact L17 _ time ds H locs ls (Nat.lt_succ_self _) v15 hP hD hS (lv_sub hl [1, 2, 3, 0] rfl)
    · replace v := v.2 c3
      have hP9 := hP.sub (ws' := [(h0, .inr (3, [.ref h1, .ref h2])), (h1, .inl (cI, 24, .inl (fun k => iI (dl k)))), (h2, .inl (cJ, 25, .inr (.inl (fun k => lI (ds k)))))]) [0, 1, 2] rfl
      have hD9 := hD.sub (ws' := [(h0, .inr (3, [.ref h1, .ref h2])), (h1, .inl (cI, 24, .inl (fun k => iI (dl k)))), (h2, .inl (cJ, 25, .inr (.inl (fun k => lI (ds k)))))]) [0, 1, 2] (by decide) rfl
      exact W.vret hx hb hr (fun t ht hW => ⟨⟨((dl), (ds)), rfl, v, by rw [ht]; exact hP9, va_K.moved hW.alike hK, hD9⟩, hS.F ht⟩) hS.2.2 d_Dy_put_10

theorem d_Dy_init_0 : decode prog_5_method_1_code 0 = .ok (.aload_n 0, 1) := by decide +kernel
theorem d_Dy_init_1 : decode prog_5_method_1_code 1 = .ok (.invokespecial 3, 3) := by decide +kernel
theorem d_Dy_init_4 : decode prog_5_method_1_code 4 = .ok (.aload_n 0, 1) := by decide +kernel
theorem d_Dy_init_5 : decode prog_5_method_1_code 5 = .ok (.bipush 24, 2) := by decide +kernel
theorem d_Dy_init_7 : decode prog_5_method_1_code 7 = .ok (.newarray .int, 2) := by decide +kernel
theorem d_Dy_init_9 : decode prog_5_method_1_code 9 = .ok (.putfield 9, 3) := by decide +kernel
theorem d_Dy_init_12 : decode prog_5_method_1_code 12 = .ok (.aload_n 0, 1) := by decide +kernel
theorem d_Dy_init_13 : decode prog_5_method_1_code 13 = .ok (.bipush 25, 2) := by decide +kernel
theorem d_Dy_init_15 : decode prog_5_method_1_code 15 = .ok (.newarray .long, 2) := by decide +kernel
theorem d_Dy_init_17 : decode prog_5_method_1_code 17 = .ok (.putfield 15, 3) := by decide +kernel
theorem d_Dy_init_20 : decode prog_5_method_1_code 20 = .ok (.return_, 1) := by decide +kernel
def vc_Dy_init  (post : (Nat → Int) → (Nat → Int) → Prop) : Prop := post (fun _ => 0) (fun _ => 0)
set_option maxHeartbeats 4000000 in
set_option maxRecDepth 100000 in
theorem m_Dy_init (l : Launch) (D : va_G) (cI cJ cO cZ : ClassId) (h0 : Nat) (sz : Nat)  (post : (Nat → Int) → (Nat → Int) → Prop) (v : vc_Dy_init  post) : Met l ⟨"LightDoses$Day", "<init>", "()V"⟩ (.code ⟨"LightDoses$Day", "<init>", "()V"⟩ prog_5_method_1_code 1 none :: TG) { frames := 1, cells := 2, slots := 49, locals := 24 } (va_Pc [.ref h0] (fun U => U.heap.size = sz ∧ va_P D vwCl [(h0, .inr (3, [.null, .null]))] U.heap ∧ va_K D vwCl (tyx cI cJ cO cZ) U ∧ va_D (fun _ => True) [(h0, .inr (3, [.null, .null]))])) (va_Qv (fun u : (Nat → Int) × (Nat → Int) => post u.1 u.2) (fun u t => ∃ (h1 h2 : Nat), va_P D vwCl [(h0, .inr (3, [.ref h1, .ref h2])), (h1, .inl (cI, 24, .inl (fun k => iI (u.1 k)))), (h2, .inl (cJ, 25, .inr (.inl (fun k => lI (u.2 k)))))] t.heap ∧ va_K D vwCl (tyx cI cJ cO cZ) t ∧ va_D (va_A [(h0, .inr (3, [.null, .null]))] sz) [(h0, .inr (3, [.ref h1, .ref h2])), (h1, .inl (cI, 24, .inl (fun k => iI (u.1 k)))), (h2, .inl (cJ, 25, .inr (.inl (fun k => lI (u.2 k)))))]) (va_A [(h0, .inr (3, [.null, .null]))] sz)) 2 49 (va_A [(h0, .inr (3, [.null, .null]))] sz) := by
  refine Met.ofW (cc := prog_5_method_1_code) (maxL := 1) (ret := none) (by decide) rfl ?_
  intro p e s m args below meth c s₁ B hml hv
  obtain ⟨rfl, hsz, hP, hK, hD0⟩ := hv
  have hx := B.exec
  have hb := B.bytes
  have hr := B.returns
  have hts0 := atoms_spec (ws := (.code ⟨"LightDoses$Day", "<init>", "()V"⟩ prog_5_method_1_code 1 none :: TG)) B.pre
  have hts : ∀ w ∈ TG, w.before _ s = true := fun w h => hts0 w (List.mem_cons_of_mem _ h)
  have hown : s.vm.findClass "LightDoses$Day" = some m.cls := findClass_of_methodNamed B.named
  have hlocks := B.notSynchronized
  have hin : meth.name = "<init>" := (name_of_methodNamed B.named B.method).1
  subst hsz
  have hD := hD0.self (sz := s.heap.size)
  generalize hAe : va_A [(h0, .inr (3, [.null, .null]))] s.heap.size = A at hD ⊢
  have hA : ∀ q : Nat, s.heap.size ≤ q → A q := fun q h => by rw [← hAe]; exact Or.inr h
  have hS : va_S A s.heap s.heap [] := va_S.rf
  have hP : va_P D vwCl [(h0, .inr (3, [.null, .null]))] s.heap := hP
  have hl := lv_entry ([Value.ref h0]) (n := 1) (Nat.le_of_ble_eq_true rfl)
  rw [lg_entry_eq]
  generalize (lg_sl ([Value.ref h0]) ++ List.replicate (1 - (lg_sl ([Value.ref h0])).length) Slot.unset).toArray = ls at hl ⊢
  have hl : lv_has ls 1 [(0, .ref h0)] := hl
  unfold vc_Dy_init at v
  obtain ⟨H, hH⟩ : ∃ H, H = s.heap := ⟨_, rfl⟩
  obtain ⟨locs, hlc⟩ : ∃ L : List Loc, L = [] := ⟨_, rfl⟩
  rw [← hlc] at hS ⊢
  have hP : va_P D vwCl [(h0, .inr (3, [.null, .null]))] H := by rw [hH]; exact hP
  have hS : va_S A s.heap H locs := by rw [hH]; exact hS
  have hW0 : ∀ {X : Heap → Prop}, X H → X s.heap := fun h => by rw [← hH]; exact h
  refine hW0 (X := fun Z => W p l e _ s m _ below meth c Z locs 0 0 _ _) ?_
  refine lv_aload_n hx hb d_Dy_init_0 rfl (lv_at hl 0 rfl) ?_
  refine W.objInit hx hb hown (hts _ wd_67) (hts _ wd_31) (hts _ wd_32) rfl (by rw [hml]; exact hl.1) rfl d_Dy_init_1 (Nat.le_of_ble_eq_true rfl) (Nat.le_of_ble_eq_true rfl) ?_
  refine W.eq (g2 := F0 m 4 ls []) rfl ?_
  refine lv_aload_n hx hb d_Dy_init_4 rfl (lv_at hl 0 rfl) ?_
  refine nv_bipush (z := 24) hx hb d_Dy_init_5 (by decide) ?_
  refine nv_newi hx hb (hts _ wd_76) hK hP hD hS hA 0 rfl 24 rfl (by decide) (Nat.le_of_ble_eq_true rfl) (Nat.le_of_ble_eq_true rfl) d_Dy_init_7 (fun q1 H hP hD hS => ?_)
  have hP : va_P D vwCl [(h0, .inr (3, [.null, .null])), (q1, .inl (cI, 24, .inl (fun k => iI ((fun _ => 0) k))))] H := hP
  have hD : va_D A [(h0, .inr (3, [.null, .null])), (q1, .inl (cI, 24, .inl (fun k => iI ((fun _ => 0) k))))] := hD
  refine W.widen (k := 1) (n := 24) (Nat.le_of_ble_eq_true rfl) (Nat.le_of_ble_eq_true rfl) ?_
  refine va_putF (D := D) (ci := 3) (v := .ref q1) (ty := .array .int) (C := "LightDoses$Day") (T := T_Dy) (N := 2) hx hb hts in_Dy t_Dy tok_Dy n_Dy hown hK hP hD hS 0 rfl rfl 0 (by decide) (hts _ wd_68) (fun _ h9 => h9) rfl hin rfl (by decide +kernel) rfl rfl (Nat.le_of_ble_eq_true rfl) d_Dy_init_9 (fun H locs hP hD hS => ?_)
  have hP : va_P D vwCl [(h0, .inr (3, [.ref q1, .null])), (q1, .inl (cI, 24, .inl (fun k => iI ((fun _ => 0) k))))] H := hP
  have hD : va_D A [(h0, .inr (3, [.ref q1, .null])), (q1, .inl (cI, 24, .inl (fun k => iI ((fun _ => 0) k))))] := hD
  refine lv_aload_n hx hb d_Dy_init_12 rfl (lv_at hl 0 rfl) ?_
  refine nv_bipush (z := 25) hx hb d_Dy_init_13 (by decide) ?_
  refine nv_newl hx hb (hts _ wd_77) hK hP hD hS hA 1 rfl 25 rfl (by decide) (Nat.le_of_ble_eq_true rfl) (Nat.le_of_ble_eq_true rfl) d_Dy_init_15 (fun q2 H hP hD hS => ?_)
  have hP : va_P D vwCl [(h0, .inr (3, [.ref q1, .null])), (q1, .inl (cI, 24, .inl (fun k => iI ((fun _ => 0) k)))), (q2, .inl (cJ, 25, .inr (.inl (fun k => lI ((fun _ => 0) k)))))] H := hP
  have hD : va_D A [(h0, .inr (3, [.ref q1, .null])), (q1, .inl (cI, 24, .inl (fun k => iI ((fun _ => 0) k)))), (q2, .inl (cJ, 25, .inr (.inl (fun k => lI ((fun _ => 0) k)))))] := hD
  refine W.widen (k := 2) (n := 49) (Nat.le_of_ble_eq_true rfl) (Nat.le_of_ble_eq_true rfl) ?_
  refine va_putF (D := D) (ci := 3) (v := .ref q2) (ty := .array .long) (C := "LightDoses$Day") (T := T_Dy) (N := 2) hx hb hts in_Dy t_Dy tok_Dy n_Dy hown hK hP hD hS 0 rfl rfl 1 (by decide) (hts _ wd_70) (fun _ h9 => h9) rfl hin rfl (by decide +kernel) rfl rfl (Nat.le_of_ble_eq_true rfl) d_Dy_init_17 (fun H locs hP hD hS => ?_)
  have hP : va_P D vwCl [(h0, .inr (3, [.ref q1, .ref q2])), (q1, .inl (cI, 24, .inl (fun k => iI ((fun _ => 0) k)))), (q2, .inl (cJ, 25, .inr (.inl (fun k => lI ((fun _ => 0) k)))))] H := hP
  have hD : va_D A [(h0, .inr (3, [.ref q1, .ref q2])), (q1, .inl (cI, 24, .inl (fun k => iI ((fun _ => 0) k)))), (q2, .inl (cJ, 25, .inr (.inl (fun k => lI ((fun _ => 0) k)))))] := hD
  have hP9 := hP.sub (ws' := [(h0, .inr (3, [.ref q1, .ref q2])), (q1, .inl (cI, 24, .inl (fun k => iI ((fun _ => 0) k)))), (q2, .inl (cJ, 25, .inr (.inl (fun k => lI ((fun _ => 0) k)))))]) [0, 1, 2] rfl
  have hD9 := hD.sub (ws' := [(h0, .inr (3, [.ref q1, .ref q2])), (q1, .inl (cI, 24, .inl (fun k => iI ((fun _ => 0) k)))), (q2, .inl (cJ, 25, .inr (.inl (fun k => lI ((fun _ => 0) k)))))]) [0, 1, 2] (by decide) rfl
  exact W.vret hx hb hr (fun t ht hW => ⟨⟨(((fun _ => 0)), ((fun _ => 0))), rfl, v, q1, q2, by rw [ht]; exact hP9, va_K.moved hW.alike hK, hD9⟩, hS.F ht⟩) hS.2.2 d_Dy_init_20
