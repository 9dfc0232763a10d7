/-! MODULE ArrayList: an add that grows, from 10 to 15 -/
theorem nv_inA {A : Nat → Prop} {ws : va_W} {a : Nat} (hD : va_D A ws) (h : a ∈ ws.map Prod.fst) : A a := by
  obtain ⟨q, hq, rfl⟩ := List.mem_map.mp h
  exact (nv_Dmem.mp hD).2 q hq
section NQC
variable {p : Program} {l : Launch} {e : Env} {R : Room} {s : State} {m : MethodId} {args : Array Value} {below : List Frame} {meth : Method} {c : Code} {H : Heap} {locs : List Loc} {cells slots : Nat} {Q : State → Prop}
variable {cc : ByteArray} {pc : Nat} {ls : Array Slot} {rest : List Value} {D : va_G} {cl : List vw_C} {A : Nat → Prop} {a : Nat} {tys : List (ClassId × FieldType)} {ws : va_W} {H0 : Heap}
theorem nv_copyo (hexec : p.tables.exec = Jvm.exec) (hb : c.code = cc) (hml : c.maxLocals = ls.size) {own : String} {index : Nat} (hown : s.vm.findClass own = some m.cls) (hlink : (Cond.methodLink own index arraycopyName).before args s = true) (hnat : (Cond.native arraycopyName).before args s = true) (hstat : (Cond.static arraycopyName).before args s = true) (hini : (Cond.initialized "java/lang/System").before args s = true)
    (hK : va_K D cl tys s) (hP : va_P D cl ws H) (hD : va_D A ws) (hS : va_S A H0 H locs) (q0 q1 t0 t1 : Nat) {a0 : Nat} {c0 c1 : ClassId} {n0 n1 : Nat} {f g : Nat → Option Nat} {E0 E1 C : String} (ha0 : ws[q0]? = some (a0, .inl (c0, n0, .inr (.inr (.inr (.inr f)))))) (ha1 : ws[q1]? = some (a, .inl (c1, n1, .inr (.inr (.inr (.inr g)))))) (ht0 : tys[t0]? = some (c0, .object E0)) (ht1 : tys[t1]? = some (c1, .object E1))
    {z : Int} (N : Nat) (hz : z = (N : Int) ∧ N < 1000000) (h4 : N ≤ n0) (h5 : N ≤ n1) (hel : ∀ i : Nat, i < N → ∀ y : Nat, f i = some y → ∃ cellV : Cell, H[y]? = some cellV ∧ cellV.vm.isStatics = false ∧ s.vm.findClass C = some cellV.cls) (hasg : ∀ comp c0 : ClassId, s.vm.findClass E1 = some comp → s.vm.findClass C = some c0 → s.vm.assignable c0 comp = true)
    (hframes : 1 ≤ R.frames) (hlocals : (rest.map fun v => v.category).sum + (nativeFrameWords "java/lang/System" "arraycopy" 5 + 11) ≤ R.locals) (hdg : decode cc pc = .ok (.invokestatic index, 3))
    (kk : ∀ (H1 : Heap) (locs1 : List Loc), va_P D cl (ws.set q1 (a, .inl (c1, n1, .inr (.inr (.inr (.inr (va_cpy f g 0 0 N))))))) H1 → va_D A (ws.set q1 (a, .inl (c1, n1, .inr (.inr (.inr (.inr (va_cpy f g 0 0 N))))))) → va_S A H0 H1 locs1 → W p l e R s m args below meth c H1 locs1 cells slots Q (F0 m (pc + 3) ls rest)) : W p l e R s m args below meth c H locs cells slots Q (F0 m pc ls (.int (iI z) :: .int (iI 0) :: .ref a :: .int (iI 0) :: .ref a0 :: rest)) := by
  have e0 : (iI 0).toNatClampNeg = 0 := iI_clamp (k := 0) rfl (by decide)
  have eN : (iI z).toNatClampNeg = N := iI_clamp hz.1 (by omega)
  have n0 : ¬ (iI 0) < 0 := by decide
  refine va_copyq (C := C) hexec hb hml hown hlink hnat hstat hini hK hP hD hS q0 q1 t0 t1 ha0 ha1 ht0 ht1 n0 n0 (by rw [iI_0, iI_lt ⟨by omega, by omega⟩ r0]; omega) (by rw [e0, eN]; omega) (by rw [e0, eN]; omega) (fun i hi y hy => hel i (by rw [eN] at hi; exact hi) y (by rw [e0, Nat.zero_add] at hy; exact hy)) hasg hframes hlocals hdg (fun H1 locs1 h1 h2 h3 => ?_)
  rw [e0, eN] at h1 h2
  exact kk H1 locs1 h1 h2 h3
end NQC
theorem d_Sup_newLength_0 : decode prog_32_method_27_code 0 = .ok (.iload_n 0, 1) := by decide +kernel
theorem d_Sup_newLength_1 : decode prog_32_method_27_code 1 = .ok (.iload_n 1, 1) := by decide +kernel
theorem d_Sup_newLength_2 : decode prog_32_method_27_code 2 = .ok (.iload_n 2, 1) := by decide +kernel
theorem d_Sup_newLength_3 : decode prog_32_method_27_code 3 = .ok (.invokestatic 194, 3) := by decide +kernel
theorem d_Sup_newLength_6 : decode prog_32_method_27_code 6 = .ok (.iadd, 1) := by decide +kernel
theorem d_Sup_newLength_7 : decode prog_32_method_27_code 7 = .ok (.istore_n 3, 1) := by decide +kernel
theorem d_Sup_newLength_8 : decode prog_32_method_27_code 8 = .ok (.iconst 0, 1) := by decide +kernel
theorem d_Sup_newLength_9 : decode prog_32_method_27_code 9 = .ok (.iload_n 3, 1) := by decide +kernel
theorem d_Sup_newLength_10 : decode prog_32_method_27_code 10 = .ok (.if_icmp .ge 11, 3) := by decide +kernel
theorem d_Sup_newLength_13 : decode prog_32_method_27_code 13 = .ok (.iload_n 3, 1) := by decide +kernel
theorem d_Sup_newLength_14 : decode prog_32_method_27_code 14 = .ok (.ldc 200, 2) := by decide +kernel
theorem d_Sup_newLength_16 : decode prog_32_method_27_code 16 = .ok (.if_icmp .gt 5, 3) := by decide +kernel
theorem d_Sup_newLength_19 : decode prog_32_method_27_code 19 = .ok (.iload_n 3, 1) := by decide +kernel
theorem d_Sup_newLength_20 : decode prog_32_method_27_code 20 = .ok (.ireturn, 1) := by decide +kernel
theorem d_Sup_newLength_21 : decode prog_32_method_27_code 21 = .ok (.iload_n 0, 1) := by decide +kernel
theorem d_Sup_newLength_22 : decode prog_32_method_27_code 22 = .ok (.iload_n 1, 1) := by decide +kernel
theorem d_Sup_newLength_23 : decode prog_32_method_27_code 23 = .ok (.invokestatic 201, 3) := by decide +kernel
theorem d_Sup_newLength_26 : decode prog_32_method_27_code 26 = .ok (.ireturn, 1) := by decide +kernel
def vc_Sup_newLength (ol : Int) (mg : Int) (pg : Int) (post : Int → Prop) : Prop := (r32 mg) ∧ ((r32 pg) ∧ ((r32 (ol + (max mg pg))) ∧ ((ol + (max mg pg) ≤ 0 → False) ∧ (0 < ol + (max mg pg) → (2147483639 < ol + (max mg pg) → False) ∧ (ol + (max mg pg) ≤ 2147483639 → post (ol + (max mg pg)))))))
set_option maxHeartbeats 4000000 in
set_option maxRecDepth 100000 in
theorem m_Sup_newLength (l : Launch) (D : va_G) (cI cJ cO cZ : ClassId)  (ol : Int) (mg : Int) (pg : Int) (post : Int → Prop) (v : vc_Sup_newLength ol mg pg post) : Met l ⟨"jdk/internal/util/ArraysSupport", "newLength", "(III)I"⟩ (.code ⟨"jdk/internal/util/ArraysSupport", "newLength", "(III)I"⟩ prog_32_method_27_code 4 (some .int) :: TG) { frames := 1, cells := 0, slots := 0, locals := 24 } (va_Pc [.int (iI ol), .int (iI mg), .int (iI pg)] (fun U => va_K D vwCl (tyx cI cJ cO cZ) U ∧ va_P D vwCl [] U.heap)) (vp_Si (fun r => ∃ z : Int, r = iI z ∧ post z)) 0 0 (fun _ => False) := by
  refine Met.ofW (cc := prog_32_method_27_code) (maxL := 4) (ret := (some .int)) (by decide) rfl ?_
  intro p e s m args below meth c s₁ B hml hv
  obtain ⟨rfl, hK, hP⟩ := hv
  have hx := B.exec
  have hb := B.bytes
  have hr := B.returns
  have hts0 := atoms_spec (ws := (.code ⟨"jdk/internal/util/ArraysSupport", "newLength", "(III)I"⟩ prog_32_method_27_code 4 (some .int) :: TG)) B.pre
  have hts : ∀ w ∈ TG, w.before _ s = true := fun w h => hts0 w (List.mem_cons_of_mem _ h)
  have hown : s.vm.findClass "jdk/internal/util/ArraysSupport" = some m.cls := findClass_of_methodNamed B.named
  have hlocks := B.notSynchronized
  have hP : va_P D vwCl [] s.heap := hP
  have hl := lv_entry ([Value.int (iI ol), Value.int (iI mg), Value.int (iI pg)]) (n := 4) (Nat.le_of_ble_eq_true rfl)
  rw [lg_entry_eq]
  generalize (lg_sl ([Value.int (iI ol), Value.int (iI mg), Value.int (iI pg)]) ++ List.replicate (4 - (lg_sl ([Value.int (iI ol), Value.int (iI mg), Value.int (iI pg)])).length) Slot.unset).toArray = ls at hl ⊢
  have hl : lv_has ls 4 [(0, .int (iI ol)), (1, .int (iI mg)), (2, .int (iI pg))] := hl
  unfold vc_Sup_newLength at v
  refine lv_iload_n hx hb d_Sup_newLength_0 rfl (lv_at hl 0 rfl) ?_
  refine lv_iload_n hx hb d_Sup_newLength_1 rfl (lv_at hl 1 rfl) ?_
  refine lv_iload_n hx hb d_Sup_newLength_2 rfl (lv_at hl 2 rfl) ?_
  obtain ⟨k1, v⟩ := v
  obtain ⟨k2, v⟩ := v
  refine nv_mmax (a := mg) (b := pg) hx hb (hml.trans hl.1.symm) hown (hts _ wd_394) (hts _ wd_292) (hts _ wd_18) (hts _ wd_293) (Nat.le_of_ble_eq_true rfl) (Nat.le_of_ble_eq_true rfl) (Nat.le_of_ble_eq_true rfl) (Nat.le_of_ble_eq_true rfl) k1 k2 d_Sup_newLength_3 ?_
  refine nv_iadd (z := ol + (max mg pg)) hx hb d_Sup_newLength_6 (by first | rfl | omega) ?_
  refine lv_istore_n (lv' := [(3, .int (iI (ol + (max mg pg)))), (0, .int (iI ol)), (1, .int (iI mg)), (2, .int (iI pg))]) hx hb d_Sup_newLength_7 rfl hl (by decide) rfl (fun ls hl => ?_)
  refine nv_iconst (n := 0) hx hb d_Sup_newLength_8 ?_
  refine lv_iload_n hx hb d_Sup_newLength_9 rfl (lv_at hl 0 rfl) ?_
  obtain ⟨k3, v⟩ := v
  refine nv_icmp_ge (tgt := 21) hx hb d_Sup_newLength_10 (by decide) (by decide) k3 (fun c4 => ?_) (fun c4 => ?_)
  · replace v := v.1 c4
    refine lv_iload_n hx hb d_Sup_newLength_21 rfl (lv_at hl 1 rfl) ?_
    refine lv_iload_n hx hb d_Sup_newLength_22 rfl (lv_at hl 2 rfl) ?_
    exact v.elim
  · replace v := v.2 c4
    refine lv_iload_n hx hb d_Sup_newLength_13 rfl (lv_at hl 0 rfl) ?_
    refine nv_ldc (z := 2147483639) hx hb hown (hts _ wd_395) (by decide) d_Sup_newLength_14 ?_
    refine nv_icmp_gt (tgt := 21) hx hb d_Sup_newLength_16 (by decide) k3 (by decide) (fun c5 => ?_) (fun c5 => ?_)
    · replace v := v.1 c5
      refine lv_iload_n hx hb d_Sup_newLength_21 rfl (lv_at hl 1 rfl) ?_
      refine lv_iload_n hx hb d_Sup_newLength_22 rfl (lv_at hl 2 rfl) ?_
      exact v.elim
    · replace v := v.2 c5
      refine lv_iload_n hx hb d_Sup_newLength_19 rfl (lv_at hl 0 rfl) ?_
      exact W.iret hx hb hr (fun t ht hW => ⟨_, rfl, ⟨_, rfl, v⟩, ht⟩) (fun q h => by cases h) d_Sup_newLength_20

theorem s_Sup_newLength : vc_Sup_newLength 10 1 (b_shr 10 1) (fun z => z = 15) := by
  have e : b_shr 10 1 = 5 := by decide
  rw [e]
  unfold vc_Sup_newLength
  repeat' (first | (intro _) | apply And.intro | omega | rfl | trivial)
theorem d_Ars_copyOf1_0 : decode prog_26_method_120_code 0 = .ok (.aload_n 2, 1) := by decide +kernel
theorem d_Ars_copyOf1_1 : decode prog_26_method_120_code 1 = .ok (.ldc 110, 2) := by decide +kernel
theorem d_Ars_copyOf1_3 : decode prog_26_method_120_code 3 = .ok (.if_acmp .ne 10, 3) := by decide +kernel
theorem d_Ars_copyOf1_6 : decode prog_26_method_120_code 6 = .ok (.iload_n 1, 1) := by decide +kernel
theorem d_Ars_copyOf1_7 : decode prog_26_method_120_code 7 = .ok (.anewarray 2, 3) := by decide +kernel
theorem d_Ars_copyOf1_10 : decode prog_26_method_120_code 10 = .ok (.goto 14, 3) := by decide +kernel
theorem d_Ars_copyOf1_13 : decode prog_26_method_120_code 13 = .ok (.aload_n 2, 1) := by decide +kernel
theorem d_Ars_copyOf1_14 : decode prog_26_method_120_code 14 = .ok (.invokevirtual 90, 3) := by decide +kernel
theorem d_Ars_copyOf1_17 : decode prog_26_method_120_code 17 = .ok (.iload_n 1, 1) := by decide +kernel
theorem d_Ars_copyOf1_18 : decode prog_26_method_120_code 18 = .ok (.invokestatic 95, 3) := by decide +kernel
theorem d_Ars_copyOf1_21 : decode prog_26_method_120_code 21 = .ok (.checkcast 110, 3) := by decide +kernel
theorem d_Ars_copyOf1_24 : decode prog_26_method_120_code 24 = .ok (.astore_n 3, 1) := by decide +kernel
theorem d_Ars_copyOf1_25 : decode prog_26_method_120_code 25 = .ok (.aload_n 0, 1) := by decide +kernel
theorem d_Ars_copyOf1_26 : decode prog_26_method_120_code 26 = .ok (.iconst 0, 1) := by decide +kernel
theorem d_Ars_copyOf1_27 : decode prog_26_method_120_code 27 = .ok (.aload_n 3, 1) := by decide +kernel
theorem d_Ars_copyOf1_28 : decode prog_26_method_120_code 28 = .ok (.iconst 0, 1) := by decide +kernel
theorem d_Ars_copyOf1_29 : decode prog_26_method_120_code 29 = .ok (.aload_n 0, 1) := by decide +kernel
theorem d_Ars_copyOf1_30 : decode prog_26_method_120_code 30 = .ok (.arraylength, 1) := by decide +kernel
theorem d_Ars_copyOf1_31 : decode prog_26_method_120_code 31 = .ok (.iload_n 1, 1) := by decide +kernel
theorem d_Ars_copyOf1_32 : decode prog_26_method_120_code 32 = .ok (.invokestatic 304, 3) := by decide +kernel
theorem d_Ars_copyOf1_35 : decode prog_26_method_120_code 35 = .ok (.invokestatic 150, 3) := by decide +kernel
theorem d_Ars_copyOf1_38 : decode prog_26_method_120_code 38 = .ok (.aload_n 3, 1) := by decide +kernel
theorem d_Ars_copyOf1_39 : decode prog_26_method_120_code 39 = .ok (.areturn, 1) := by decide +kernel
def vc_Ars_copyOf1G (f : Nat → Option Nat) (xa : Nat → Nat) (post : Prop) : Prop := post
set_option maxHeartbeats 4000000 in
set_option maxRecDepth 100000 in
theorem m_Ars_copyOf1G (l : Launch) (D : va_G) (cI cJ cO cZ : ClassId) (qd mi : Nat) (Z : State) (hZ : EvZ qd mi Z) (h0 : Nat) (sz : Nat) (f : Nat → Option Nat) (xa : Nat → Nat) (vx : Nat → List Value) (hfx : ∀ i, i < 10 → f i = some (xa i)) (hne : ∀ q ∈ (pool (fun i => [(xa i, .inr (4, vx i))]) 10), q.1 ∉ List.map Prod.fst ([(h0, .inl (cO, 10, .inr (.inr (.inr (.inr f)))))] : va_W)) (post : Prop) (v : vc_Ars_copyOf1G f xa post) : Met l ⟨"java/util/Arrays", "copyOf", "([Ljava/lang/Object;ILjava/lang/Class;)[Ljava/lang/Object;"⟩ (.code ⟨"java/util/Arrays", "copyOf", "([Ljava/lang/Object;ILjava/lang/Class;)[Ljava/lang/Object;"⟩ prog_26_method_120_code 4 (some (.array (.object "java/lang/Object"))) :: TG) { frames := 1, cells := 1, slots := 15, locals := 40 } (va_Pc [.ref h0, .int (iI 15), .ref mi] (fun U => U.heap.size = sz ∧ va_P D vwCl [(h0, .inl (cO, 10, .inr (.inr (.inr (.inr f)))))] U.heap ∧ va_K D vwCl (tyx cI cJ cO cZ) U ∧ va_D (fun q => Z.heap.size ≤ q) [(h0, .inl (cO, 10, .inr (.inr (.inr (.inr f)))))] ∧ Ev Z U ∧ va_P D vwCl (pool (fun i => [(xa i, .inr (4, vx i))]) 10) U.heap)) (va_Qr (fun u : Unit => post ) (fun u h2 t => va_P D vwCl [(h2, .inl (cO, 15, .inr (.inr (.inr (.inr (va_cpy f (fun _ => none) 0 0 10))))))] t.heap ∧ va_K D vwCl (tyx cI cJ cO cZ) t ∧ va_D (va_A [(h0, .inl (cO, 10, .inr (.inr (.inr (.inr f)))))] sz) [(h2, .inl (cO, 15, .inr (.inr (.inr (.inr (va_cpy f (fun _ => none) 0 0 10))))))]) (va_A [(h0, .inl (cO, 10, .inr (.inr (.inr (.inr f)))))] sz)) 1 15 (va_A [(h0, .inl (cO, 10, .inr (.inr (.inr (.inr f)))))] sz) := by
  refine Met.ofW (cc := prog_26_method_120_code) (maxL := 4) (ret := (some (.array (.object "java/lang/Object")))) (by decide) rfl ?_
  intro p e s m args below meth c s₁ B hml hv
  obtain ⟨rfl, hsz, hP, hK, hD0, hE, hR⟩ := hv
  have hx := B.exec
  have hb := B.bytes
  have hr := B.returns
  have hts0 := atoms_spec (ws := (.code ⟨"java/util/Arrays", "copyOf", "([Ljava/lang/Object;ILjava/lang/Class;)[Ljava/lang/Object;"⟩ prog_26_method_120_code 4 (some (.array (.object "java/lang/Object"))) :: TG)) B.pre
  have hts : ∀ w ∈ TG, w.before _ s = true := fun w h => hts0 w (List.mem_cons_of_mem _ h)
  have hown : s.vm.findClass "java/util/Arrays" = some m.cls := findClass_of_methodNamed B.named
  have hlocks := B.notSynchronized
  subst hsz
  have hD := hD0.self (sz := s.heap.size)
  have hRn : ∀ q ∈ (pool (fun i => [(xa i, .inr (4, vx i))]) 10), ¬ va_A [(h0, .inl (cO, 10, .inr (.inr (.inr (.inr f)))))] s.heap.size q.1 := nv_rokn hR hne
  have hAZ : ∀ q, va_A [(h0, .inl (cO, 10, .inr (.inr (.inr (.inr f)))))] s.heap.size q → Z.heap.size ≤ q := fun q h => hE.inA hD0 h
  generalize hAe : va_A [(h0, .inl (cO, 10, .inr (.inr (.inr (.inr f)))))] s.heap.size = A at hD hAZ hRn ⊢
  have hA : ∀ q : Nat, s.heap.size ≤ q → A q := fun q h => by rw [← hAe]; exact Or.inr h
  have hS : va_S A s.heap s.heap [] := va_S.rf
  have hP : va_P D vwCl [(h0, .inl (cO, 10, .inr (.inr (.inr (.inr f)))))] s.heap := hP
  have hl := lv_entry ([Value.ref h0, Value.int (iI 15), Value.ref mi]) (n := 4) (Nat.le_of_ble_eq_true rfl)
  rw [lg_entry_eq]
  generalize (lg_sl ([Value.ref h0, Value.int (iI 15), Value.ref mi]) ++ List.replicate (4 - (lg_sl ([Value.ref h0, Value.int (iI 15), Value.ref mi])).length) Slot.unset).toArray = ls at hl ⊢
  have hl : lv_has ls 4 [(0, .ref h0), (1, .int (iI 15)), (2, .ref mi)] := hl
  unfold vc_Ars_copyOf1G at v
  obtain ⟨H, hH⟩ : ∃ H, H = s.heap := ⟨_, rfl⟩
  obtain ⟨locs, hlc⟩ : ∃ L : List Loc, L = [] := ⟨_, rfl⟩
  rw [← hlc] at hS ⊢
  have hP : va_P D vwCl [(h0, .inl (cO, 10, .inr (.inr (.inr (.inr f)))))] H := by rw [hH]; exact hP
  have hS : va_S A s.heap H locs := by rw [hH]; exact hS
  have hW0 : ∀ {X : Heap → Prop}, X H → X s.heap := fun h => by rw [← hH]; exact h
  refine hW0 (X := fun Z => W p l e _ s m _ below meth c Z locs 0 0 _ _) ?_
  refine lv_aload_n hx hb d_Ars_copyOf1_0 rfl (lv_at hl 2 rfl) ?_
  refine va_ldcM hx hb hown (hts _ wd_422) (va_Mi.moved hE.1.alike hZ.2.2.2.2) d_Ars_copyOf1_1 ?_
  refine lv_acmp_ne (rx := some mi) (ry := some mi) (tgt := 13) hx hb d_Ars_copyOf1_3 (by decide) (fun h9 => absurd rfl h9) (fun _ => ?_)
  refine lv_iload_n hx hb d_Ars_copyOf1_6 rfl (lv_at hl 1 rfl) ?_
  refine nv_newo hx hb hown (hts _ wd_424) (va_AO.of (hE.tbl hZ (List.mem_append_right _ (List.mem_of_getElem? (i := 423) (by decide +kernel))) (by decide +kernel) (a := #[]))) hK hP hD hS hA 2 rfl 15 (by first | rfl | omega) (by first | decide | omega) (Nat.le_of_ble_eq_true rfl) (Nat.le_of_ble_eq_true rfl) d_Ars_copyOf1_7 (fun q1 H hP hD hS => ?_)
  have hP : va_P D vwCl [(h0, .inl (cO, 10, .inr (.inr (.inr (.inr f))))), (q1, .inl (cO, 15, .inr (.inr (.inr (.inr (fun _ => none))))))] H := hP
  have hD : va_D A [(h0, .inl (cO, 10, .inr (.inr (.inr (.inr f))))), (q1, .inl (cO, 15, .inr (.inr (.inr (.inr (fun _ => none))))))] := hD
  refine W.widen (k := 1) (n := 15) (Nat.le_of_ble_eq_true rfl) (Nat.le_of_ble_eq_true rfl) ?_
  refine lv_goto (tgt := 24) hx hb d_Ars_copyOf1_10 (by decide) ?_
  refine lv_astore_n (lv' := [(3, .ref q1), (0, .ref h0), (1, .int (iI 15)), (2, .ref mi)]) hx hb d_Ars_copyOf1_24 rfl hl (by decide) rfl (fun ls hl => ?_)
  refine lv_aload_n hx hb d_Ars_copyOf1_25 rfl (lv_at hl 1 rfl) ?_
  refine nv_iconst (n := 0) hx hb d_Ars_copyOf1_26 ?_
  refine lv_aload_n hx hb d_Ars_copyOf1_27 rfl (lv_at hl 0 rfl) ?_
  refine nv_iconst (n := 0) hx hb d_Ars_copyOf1_28 ?_
  refine lv_aload_n hx hb d_Ars_copyOf1_29 rfl (lv_at hl 1 rfl) ?_
  refine va_alen hx hb hK hP 0 2 rfl rfl (v := iI (((10 : Nat) : Int) : Int)) (iI_nat _).symm d_Ars_copyOf1_30 ?_
  refine nv_eqi (y := iI 10) rfl ?_
  refine lv_iload_n hx hb d_Ars_copyOf1_31 rfl (lv_at hl 2 rfl) ?_
  refine nv_mmin (a := 10) (b := 15) hx hb (hml.trans hl.1.symm) hown (hts _ wd_425) (hts _ wd_295) (hts _ wd_18) (hts _ wd_296) (Nat.le_of_ble_eq_true rfl) (Nat.le_of_ble_eq_true rfl) (Nat.le_of_ble_eq_true rfl) (Nat.le_of_ble_eq_true rfl) (by decide) (by decide) d_Ars_copyOf1_32 ?_
  have hRH : va_P D vwCl ((pool (fun i => [(xa i, .inr (4, vx i))]) 10)) H := nv_kept hR hRn hS
  refine nv_copyo (C := "LightDoses$Exhibit") hx hb (hml.trans hl.1.symm) hown (hts _ wd_426) (hts _ wd_428) (hts _ wd_427) (hts _ wd_19) hK hP hD hS 0 1 2 2 rfl rfl rfl rfl 10 (by decide) (by decide) (by decide) (fun i hi y hy => by
    rw [hfx i hi] at hy
    cases hy
    exact va_recv (ci := 4) (q0 := 0) (ws := [(xa i, .inr (4, vx i))]) hK (nv_Pmem.mpr (fun x hx9 => nv_Pmem.mp hRH x (pool_mem hi hx9))) rfl rfl) (vb_asgC (va_Nw.of rfl (hE.tbl hZ (List.mem_append_right _ (List.mem_of_getElem? (i := 958) (by decide +kernel))) (by decide +kernel) (a := #[])))) (Nat.le_of_ble_eq_true rfl) (Nat.le_of_ble_eq_true rfl) d_Ars_copyOf1_35 (fun H locs hP hD hS => ?_)
  have hP : va_P D vwCl [(h0, .inl (cO, 10, .inr (.inr (.inr (.inr f))))), (q1, .inl (cO, 15, .inr (.inr (.inr (.inr (va_cpy f (fun _ => none) 0 0 10))))))] H := hP
  have hD : va_D A [(h0, .inl (cO, 10, .inr (.inr (.inr (.inr f))))), (q1, .inl (cO, 15, .inr (.inr (.inr (.inr (va_cpy f (fun _ => none) 0 0 10))))))] := hD
  refine lv_aload_n hx hb d_Ars_copyOf1_38 rfl (lv_at hl 0 rfl) ?_
  have hP9 := hP.sub (ws' := [(q1, .inl (cO, 15, .inr (.inr (.inr (.inr (va_cpy f (fun _ => none) 0 0 10))))))]) [1] rfl
  have hD9 := hD.sub (ws' := [(q1, .inl (cO, 15, .inr (.inr (.inr (.inr (va_cpy f (fun _ => none) 0 0 10))))))]) [1] (by decide) rfl
  exact W.aret hx hb hr (by first | exact Or.inl ⟨_, rfl⟩ | exact Or.inr ⟨_, rfl⟩) (Or.inr ⟨_, rfl⟩) (fun t ht hW => ⟨⟨(), _, rfl, v, by rw [ht]; exact hP9, va_K.moved hW.alike hK, hD9⟩, hS.F ht⟩) hS.2.2 d_Ars_copyOf1_39

theorem d_Ars_copyOf0_0 : decode prog_26_method_119_code 0 = .ok (.aload_n 0, 1) := by decide +kernel
theorem d_Ars_copyOf0_1 : decode prog_26_method_119_code 1 = .ok (.iload_n 1, 1) := by decide +kernel
theorem d_Ars_copyOf0_2 : decode prog_26_method_119_code 2 = .ok (.aload_n 0, 1) := by decide +kernel
theorem d_Ars_copyOf0_3 : decode prog_26_method_119_code 3 = .ok (.invokevirtual 86, 3) := by decide +kernel
theorem d_Ars_copyOf0_6 : decode prog_26_method_119_code 6 = .ok (.invokestatic 300, 3) := by decide +kernel
theorem d_Ars_copyOf0_9 : decode prog_26_method_119_code 9 = .ok (.areturn, 1) := by decide +kernel
def vc_Ars_copyOf0G (f : Nat → Option Nat) (xa : Nat → Nat) (post : Prop) : Prop := ∃ P1 : Prop, vc_Ars_copyOf1G f xa P1 ∧ (P1  → post)
set_option maxHeartbeats 4000000 in
set_option maxRecDepth 100000 in
theorem m_Ars_copyOf0G (l : Launch) (D : va_G) (cI cJ cO cZ : ClassId) (qd mi : Nat) (Z : State) (hZ : EvZ qd mi Z) (h0 : Nat) (sz : Nat) (f : Nat → Option Nat) (xa : Nat → Nat) (vx : Nat → List Value) (hfx : ∀ i, i < 10 → f i = some (xa i)) (hne : ∀ q ∈ (pool (fun i => [(xa i, .inr (4, vx i))]) 10), q.1 ∉ List.map Prod.fst ([(h0, .inl (cO, 10, .inr (.inr (.inr (.inr f)))))] : va_W)) (post : Prop) (v : vc_Ars_copyOf0G f xa post) : Met l ⟨"java/util/Arrays", "copyOf", "([Ljava/lang/Object;I)[Ljava/lang/Object;"⟩ (.code ⟨"java/util/Arrays", "copyOf", "([Ljava/lang/Object;I)[Ljava/lang/Object;"⟩ prog_26_method_119_code 2 (some (.array (.object "java/lang/Object"))) :: TG) { frames := 2, cells := 1, slots := 15, locals := 63 } (va_Pc [.ref h0, .int (iI 15)] (fun U => U.heap.size = sz ∧ va_P D vwCl [(h0, .inl (cO, 10, .inr (.inr (.inr (.inr f)))))] U.heap ∧ va_K D vwCl (tyx cI cJ cO cZ) U ∧ va_D (fun q => Z.heap.size ≤ q) [(h0, .inl (cO, 10, .inr (.inr (.inr (.inr f)))))] ∧ Ev Z U ∧ va_P D vwCl (pool (fun i => [(xa i, .inr (4, vx i))]) 10) U.heap)) (va_Qr (fun u : Unit => post ) (fun u h2 t => va_P D vwCl [(h2, .inl (cO, 15, .inr (.inr (.inr (.inr (va_cpy f (fun _ => none) 0 0 10))))))] t.heap ∧ va_K D vwCl (tyx cI cJ cO cZ) t ∧ va_D (va_A [(h0, .inl (cO, 10, .inr (.inr (.inr (.inr f)))))] sz) [(h2, .inl (cO, 15, .inr (.inr (.inr (.inr (va_cpy f (fun _ => none) 0 0 10))))))]) (va_A [(h0, .inl (cO, 10, .inr (.inr (.inr (.inr f)))))] sz)) 1 15 (va_A [(h0, .inl (cO, 10, .inr (.inr (.inr (.inr f)))))] sz) := by
  refine Met.ofW (cc := prog_26_method_119_code) (maxL := 2) (ret := (some (.array (.object "java/lang/Object")))) (by decide) rfl ?_
  intro p e s m args below meth c s₁ B hml hv
  obtain ⟨rfl, hsz, hP, hK, hD0, hE, hR⟩ := hv
  have hx := B.exec
  have hb := B.bytes
  have hr := B.returns
  have hts0 := atoms_spec (ws := (.code ⟨"java/util/Arrays", "copyOf", "([Ljava/lang/Object;I)[Ljava/lang/Object;"⟩ prog_26_method_119_code 2 (some (.array (.object "java/lang/Object"))) :: TG)) B.pre
  have hts : ∀ w ∈ TG, w.before _ s = true := fun w h => hts0 w (List.mem_cons_of_mem _ h)
  have hown : s.vm.findClass "java/util/Arrays" = some m.cls := findClass_of_methodNamed B.named
  have hlocks := B.notSynchronized
  subst hsz
  have hD := hD0.self (sz := s.heap.size)
  have hRn : ∀ q ∈ (pool (fun i => [(xa i, .inr (4, vx i))]) 10), ¬ va_A [(h0, .inl (cO, 10, .inr (.inr (.inr (.inr f)))))] s.heap.size q.1 := nv_rokn hR hne
  have hAZ : ∀ q, va_A [(h0, .inl (cO, 10, .inr (.inr (.inr (.inr f)))))] s.heap.size q → Z.heap.size ≤ q := fun q h => hE.inA hD0 h
  generalize hAe : va_A [(h0, .inl (cO, 10, .inr (.inr (.inr (.inr f)))))] s.heap.size = A at hD hAZ hRn ⊢
  have hA : ∀ q : Nat, s.heap.size ≤ q → A q := fun q h => by rw [← hAe]; exact Or.inr h
  have hS : va_S A s.heap s.heap [] := va_S.rf
  have hP : va_P D vwCl [(h0, .inl (cO, 10, .inr (.inr (.inr (.inr f)))))] s.heap := hP
  have hl := lv_entry ([Value.ref h0, Value.int (iI 15)]) (n := 2) (Nat.le_of_ble_eq_true rfl)
  rw [lg_entry_eq]
  generalize (lg_sl ([Value.ref h0, Value.int (iI 15)]) ++ List.replicate (2 - (lg_sl ([Value.ref h0, Value.int (iI 15)])).length) Slot.unset).toArray = ls at hl ⊢
  have hl : lv_has ls 2 [(0, .ref h0), (1, .int (iI 15))] := hl
  unfold vc_Ars_copyOf0G at v
  obtain ⟨H, hH⟩ : ∃ H, H = s.heap := ⟨_, rfl⟩
  obtain ⟨locs, hlc⟩ : ∃ L : List Loc, L = [] := ⟨_, rfl⟩
  rw [← hlc] at hS ⊢
  have hP : va_P D vwCl [(h0, .inl (cO, 10, .inr (.inr (.inr (.inr f)))))] H := by rw [hH]; exact hP
  have hS : va_S A s.heap H locs := by rw [hH]; exact hS
  have hW0 : ∀ {X : Heap → Prop}, X H → X s.heap := fun h => by rw [← hH]; exact h
  refine hW0 (X := fun Z => W p l e _ s m _ below meth c Z locs 0 0 _ _) ?_
  refine lv_aload_n hx hb d_Ars_copyOf0_0 rfl (lv_at hl 0 rfl) ?_
  refine lv_iload_n hx hb d_Ars_copyOf0_1 rfl (lv_at hl 1 rfl) ?_
  refine lv_aload_n hx hb d_Ars_copyOf0_2 rfl (lv_at hl 0 rfl) ?_
  refine va_getC (C := "[Ljava/lang/Object;") hx hb (hml.trans hl.1.symm) hown (hts _ wd_402) (hE.tbl hZ (List.mem_append_right _ (List.mem_of_getElem? (i := 951) (by decide +kernel))) (by decide +kernel)) (hts _ wd_950) (hts _ wd_403) (hts _ wd_418) (va_Mi.moved hE.1.alike hZ.2.2.2.2) ⟨_, hP 0 _ rfl, rfl, va_nmO (hK.2 2 _ rfl).2 rfl⟩ (Nat.le_of_ble_eq_true rfl) (Nat.le_of_ble_eq_true rfl) d_Ars_copyOf0_3 ?_
  obtain ⟨P1, q2, v⟩ := v
  have hPc := hP.sub (ws' := [(h0, .inl (cO, 10, .inr (.inr (.inr (.inr f)))))]) [0] rfl
  have hDc := hD.sub (ws' := [(h0, .inl (cO, 10, .inr (.inr (.inr (.inr f)))))]) [0] (by decide) rfl
  have hFc := va_free (wc := [(h0, .inl (cO, 10, .inr (.inr (.inr (.inr f)))))]) hD hS hA [0] rfl
  refine va_callr (va_runS (As := [.ref h0, .int (iI 15), .ref mi]) (rest := []) ⟨hx, hb, hml, hown, hts⟩ (m_Ars_copyOf1G l D cI cJ cO cZ qd mi Z hZ h0 H.size f xa vx hfx (fun q hq hm => hRn q hq (nv_inA hDc hm)) P1 q2) (nv_cwS (n := 3) hts wd_419 wd_420 wd_5 wd_421 (by decide +kernel) ⟨Nat.le_of_ble_eq_true rfl, Nat.le_of_ble_eq_true rfl⟩) ⟨blWER, fun U hU hW => ⟨rfl, by rw [hU], by rw [hU]; exact hPc, va_K.moved hW.alike hK, hDc.weaken (fun _ _ _ h => hAZ _ h), hE.step hAZ hS hU hW, by rw [hU]; exact nv_kept hR hRn hS⟩⟩ rfl rfl hl.1 rfl (lv_room (Nat.le_of_ble_eq_true rfl)) d_Ars_copyOf0_6 ⟨Nat.le_of_ble_eq_true rfl, Nat.le_of_ble_eq_true rfl⟩) hS (fun q _ h => hFc q h) hFc (fun u ra t H1 locs ht hvm hw hB hz1 hk1 hS => ?_)
  obtain ⟨a3, rfl⟩ : ∃ z, z = ra := ⟨_, rfl⟩
  obtain ⟨hP1, hK1, hD1⟩ := hB
  rw [ht] at hP1
  obtain ⟨hP, hD⟩ := va_join (wr := []) (w1 := [(a3, .inl (cO, 15, .inr (.inr (.inr (.inr (va_cpy f (fun _ => none) 0 0 10))))))]) hP hD [0] [] rfl rfl (by decide) (by decide) hk1 hFc hP1 hD1
  generalize H1 = H at hP hS ⊢
  have hP : va_P D vwCl [(a3, .inl (cO, 15, .inr (.inr (.inr (.inr (va_cpy f (fun _ => none) 0 0 10))))))] H := hP
  have hD : va_D A [(a3, .inl (cO, 15, .inr (.inr (.inr (.inr (va_cpy f (fun _ => none) 0 0 10))))))] := hD
  refine W.widen (k := 1) (n := 15) (Nat.le_of_ble_eq_true rfl) (Nat.le_of_ble_eq_true rfl) ?_
  replace v := v hw
  have hP9 := hP.sub (ws' := [(a3, .inl (cO, 15, .inr (.inr (.inr (.inr (va_cpy f (fun _ => none) 0 0 10))))))]) [0] rfl
  have hD9 := hD.sub (ws' := [(a3, .inl (cO, 15, .inr (.inr (.inr (.inr (va_cpy f (fun _ => none) 0 0 10))))))]) [0] (by decide) rfl
  exact W.aret hx hb hr (by first | exact Or.inl ⟨_, rfl⟩ | exact Or.inr ⟨_, rfl⟩) (Or.inr ⟨_, rfl⟩) (fun t ht hW => ⟨⟨(), _, rfl, v, by rw [ht]; exact hP9, va_K.moved hW.alike hK, hD9⟩, hS.F ht⟩) hS.2.2 d_Ars_copyOf0_9

def vc_AL_grow1G (md : Int) (f : Nat → Option Nat) (xa : Nat → Nat) (post : Prop) : Prop := ∃ P2 : Prop, vc_Ars_copyOf0G f xa P2 ∧ (P2  → post)
set_option maxHeartbeats 4000000 in
set_option maxRecDepth 100000 in
theorem m_AL_grow1G (l : Launch) (D : va_G) (cI cJ cO cZ : ClassId) (qd mi : Nat) (Z : State) (hZ : EvZ qd mi Z) (h0 h1 : Nat) (sz : Nat) (md : Int) (f : Nat → Option Nat) (xa : Nat → Nat) (vx : Nat → List Value) (hfx : ∀ i, i < 10 → f i = some (xa i)) (hne : ∀ q ∈ (pool (fun i => [(xa i, .inr (4, vx i))]) 10), q.1 ∉ List.map Prod.fst ([(h0, .inr (9, [.ref h1, .int (iI 10), .int (iI md)])), (h1, .inl (cO, 10, .inr (.inr (.inr (.inr f)))))] : va_W)) (post : Prop) (v : vc_AL_grow1G md f xa post) : Met l ⟨"java/util/ArrayList", "grow", "(I)[Ljava/lang/Object;"⟩ (.code ⟨"java/util/ArrayList", "grow", "(I)[Ljava/lang/Object;"⟩ prog_25_method_6_code 4 (some (.array (.object "java/lang/Object"))) :: TG) { frames := 3, cells := 1, slots := 15, locals := 84 } (va_Pc [.ref h0, .int (iI 11)] (fun U => U.heap.size = sz ∧ va_P D vwCl [(h0, .inr (9, [.ref h1, .int (iI 10), .int (iI md)])), (h1, .inl (cO, 10, .inr (.inr (.inr (.inr f)))))] U.heap ∧ va_K D vwCl (tyx cI cJ cO cZ) U ∧ va_D (fun q => Z.heap.size ≤ q) [(h0, .inr (9, [.ref h1, .int (iI 10), .int (iI md)])), (h1, .inl (cO, 10, .inr (.inr (.inr (.inr f)))))] ∧ Ev Z U ∧ va_P D vwCl (pool (fun i => [(xa i, .inr (4, vx i))]) 10) U.heap)) (va_Qr (fun u : Unit => post ) (fun u h2 t => va_P D vwCl [(h0, .inr (9, [.ref h2, .int (iI 10), .int (iI md)])), (h2, .inl (cO, 15, .inr (.inr (.inr (.inr (va_cpy f (fun _ => none) 0 0 10))))))] t.heap ∧ va_K D vwCl (tyx cI cJ cO cZ) t ∧ va_D (va_A [(h0, .inr (9, [.ref h1, .int (iI 10), .int (iI md)])), (h1, .inl (cO, 10, .inr (.inr (.inr (.inr f)))))] sz) [(h0, .inr (9, [.ref h2, .int (iI 10), .int (iI md)])), (h2, .inl (cO, 15, .inr (.inr (.inr (.inr (va_cpy f (fun _ => none) 0 0 10))))))]) (va_A [(h0, .inr (9, [.ref h1, .int (iI 10), .int (iI md)])), (h1, .inl (cO, 10, .inr (.inr (.inr (.inr f)))))] sz)) 1 15 (va_A [(h0, .inr (9, [.ref h1, .int (iI 10), .int (iI md)])), (h1, .inl (cO, 10, .inr (.inr (.inr (.inr f)))))] sz) := by
  refine Met.ofW (cc := prog_25_method_6_code) (maxL := 4) (ret := (some (.array (.object "java/lang/Object")))) (by decide) rfl ?_
  intro p e s m args below meth c s₁ B hml hv
  obtain ⟨rfl, hsz, hP, hK, hD0, hE, hR⟩ := hv
  have hx := B.exec
  have hb := B.bytes
  have hr := B.returns
  have hts0 := atoms_spec (ws := (.code ⟨"java/util/ArrayList", "grow", "(I)[Ljava/lang/Object;"⟩ prog_25_method_6_code 4 (some (.array (.object "java/lang/Object"))) :: TG)) B.pre
  have hts : ∀ w ∈ TG, w.before _ s = true := fun w h => hts0 w (List.mem_cons_of_mem _ h)
  have hown : s.vm.findClass "java/util/ArrayList" = some m.cls := findClass_of_methodNamed B.named
  have hlocks := B.notSynchronized
  subst hsz
  have hD := hD0.self (sz := s.heap.size)
  have hRn : ∀ q ∈ (pool (fun i => [(xa i, .inr (4, vx i))]) 10), ¬ va_A [(h0, .inr (9, [.ref h1, .int (iI 10), .int (iI md)])), (h1, .inl (cO, 10, .inr (.inr (.inr (.inr f)))))] s.heap.size q.1 := nv_rokn hR hne
  have hAZ : ∀ q, va_A [(h0, .inr (9, [.ref h1, .int (iI 10), .int (iI md)])), (h1, .inl (cO, 10, .inr (.inr (.inr (.inr f)))))] s.heap.size q → Z.heap.size ≤ q := fun q h => hE.inA hD0 h
  generalize hAe : va_A [(h0, .inr (9, [.ref h1, .int (iI 10), .int (iI md)])), (h1, .inl (cO, 10, .inr (.inr (.inr (.inr f)))))] s.heap.size = A at hD hAZ hRn ⊢
  have hA : ∀ q : Nat, s.heap.size ≤ q → A q := fun q h => by rw [← hAe]; exact Or.inr h
  have hS : va_S A s.heap s.heap [] := va_S.rf
  have hP : va_P D vwCl [(h0, .inr (9, [.ref h1, .int (iI 10), .int (iI md)])), (h1, .inl (cO, 10, .inr (.inr (.inr (.inr f)))))] s.heap := hP
  have hl := lv_entry ([Value.ref h0, Value.int (iI 11)]) (n := 4) (Nat.le_of_ble_eq_true rfl)
  rw [lg_entry_eq]
  generalize (lg_sl ([Value.ref h0, Value.int (iI 11)]) ++ List.replicate (4 - (lg_sl ([Value.ref h0, Value.int (iI 11)])).length) Slot.unset).toArray = ls at hl ⊢
  have hl : lv_has ls 4 [(0, .ref h0), (1, .int (iI 11))] := hl
  unfold vc_AL_grow1G at v
  obtain ⟨H, hH⟩ : ∃ H, H = s.heap := ⟨_, rfl⟩
  obtain ⟨locs, hlc⟩ : ∃ L : List Loc, L = [] := ⟨_, rfl⟩
  rw [← hlc] at hS ⊢
  have hP : va_P D vwCl [(h0, .inr (9, [.ref h1, .int (iI 10), .int (iI md)])), (h1, .inl (cO, 10, .inr (.inr (.inr (.inr f)))))] H := by rw [hH]; exact hP
  have hS : va_S A s.heap H locs := by rw [hH]; exact hS
  have hW0 : ∀ {X : Heap → Prop}, X H → X s.heap := fun h => by rw [← hH]; exact h
  refine hW0 (X := fun Z => W p l e _ s m _ below meth c Z locs 0 0 _ _) ?_
  refine lv_aload_n hx hb d_AL_grow1_0 rfl (lv_at hl 0 rfl) ?_
  refine va_get (D := D) (ci := 9) (v := .ref h1) (C := "java/util/ArrayList") (T := T_AL) (N := 3) hx hb hts in_AL hown hK hP 0 rfl rfl 0 (by decide) (hts _ wd_47) (fun _ h9 => h9) rfl d_AL_grow1_1 ?_
  refine va_alen hx hb hK hP 1 2 rfl rfl (v := iI (((10 : Nat) : Int) : Int)) (iI_nat _).symm d_AL_grow1_4 ?_
  refine nv_eqi (y := iI 10) rfl ?_
  refine lv_istore_n (lv' := [(2, .int (iI 10)), (0, .ref h0), (1, .int (iI 11))]) hx hb d_AL_grow1_5 rfl hl (by decide) rfl (fun ls hl => ?_)
  refine lv_iload_n hx hb d_AL_grow1_6 rfl (lv_at hl 0 rfl) ?_
  refine nv_if_gt (tgt := 20) hx hb d_AL_grow1_7 (by decide) (by decide) (fun _ => ?_) (fun c1 => absurd c1 (by decide))
  refine lv_iload_n hx hb d_AL_grow1_20 rfl (lv_at hl 0 rfl) ?_
  refine lv_iload_n hx hb d_AL_grow1_21 rfl (lv_at hl 2 rfl) ?_
  refine lv_iload_n hx hb d_AL_grow1_22 rfl (lv_at hl 0 rfl) ?_
  refine nv_isub (z := 1) hx hb d_AL_grow1_23 (by first | rfl | omega) ?_
  refine lv_iload_n hx hb d_AL_grow1_24 rfl (lv_at hl 0 rfl) ?_
  refine nv_iconst (n := 1) hx hb d_AL_grow1_25 ?_
  refine nv_ishr hx hb d_AL_grow1_26 ?_
  refine vp_callSi (nv_runS (wc := []) (As := [.int (iI 10), .int (iI 1), .int (iI (b_shr 10 1))]) (rest := []) ⟨hx, hb, hml, hown, hts⟩ (m_Sup_newLength l D cI cJ cO cZ 10 1 (b_shr 10 1) (fun z => z = 15) s_Sup_newLength) (nv_cwS2 (n := 3) hts wd_391 wd_392 wd_17 wd_393 (by decide +kernel) ⟨Nat.le_of_ble_eq_true rfl, Nat.le_of_ble_eq_true rfl⟩) hK (hP.sub [] rfl) rfl hl.1 rfl (Nat.le_of_ble_eq_true rfl) d_AL_grow1_27 (Nat.le_of_ble_eq_true rfl) (Nat.le_of_ble_eq_true rfl)) (fun r9 hr9 => ?_)
  obtain ⟨_, rfl, rfl⟩ := hr9
  refine lv_istore_n (lv' := [(3, .int (iI 15)), (2, .int (iI 10)), (0, .ref h0), (1, .int (iI 11))]) hx hb d_AL_grow1_30 rfl hl (by decide) rfl (fun ls hl => ?_)
  refine lv_aload_n hx hb d_AL_grow1_31 rfl (lv_at hl 2 rfl) ?_
  refine lv_aload_n hx hb d_AL_grow1_32 rfl (lv_at hl 2 rfl) ?_
  refine va_get (D := D) (ci := 9) (v := .ref h1) (C := "java/util/ArrayList") (T := T_AL) (N := 3) hx hb hts in_AL hown hK hP 0 rfl rfl 0 (by decide) (hts _ wd_47) (fun _ h9 => h9) rfl d_AL_grow1_33 ?_
  refine lv_iload_n hx hb d_AL_grow1_36 rfl (lv_at hl 0 rfl) ?_
  obtain ⟨P2, q3, v⟩ := v
  have hPc := hP.sub (ws' := [(h1, .inl (cO, 10, .inr (.inr (.inr (.inr f)))))]) [1] rfl
  have hDc := hD.sub (ws' := [(h1, .inl (cO, 10, .inr (.inr (.inr (.inr f)))))]) [1] (by decide) rfl
  have hFc := va_free (wc := [(h1, .inl (cO, 10, .inr (.inr (.inr (.inr f)))))]) hD hS hA [1] rfl
  refine va_callr (va_runS (As := [.ref h1, .int (iI 15)]) (rest := [.ref h0]) ⟨hx, hb, hml, hown, hts⟩ (m_Ars_copyOf0G l D cI cJ cO cZ qd mi Z hZ h1 H.size f xa vx hfx (fun q hq hm => hRn q hq (nv_inA hDc hm)) P2 q3) (nv_cwS2 (n := 2) hts wd_399 wd_400 wd_5 wd_401 (by decide +kernel) ⟨Nat.le_of_ble_eq_true rfl, Nat.le_of_ble_eq_true rfl⟩) ⟨blWER, fun U hU hW => ⟨rfl, by rw [hU], by rw [hU]; exact hPc, va_K.moved hW.alike hK, hDc.weaken (fun _ _ _ h => hAZ _ h), hE.step hAZ hS hU hW, by rw [hU]; exact nv_kept hR hRn hS⟩⟩ rfl rfl hl.1 rfl (lv_room (Nat.le_of_ble_eq_true rfl)) d_AL_grow1_37 ⟨Nat.le_of_ble_eq_true rfl, Nat.le_of_ble_eq_true rfl⟩) hS (fun q _ h => hFc q h) hFc (fun u ra t H1 locs ht hvm hw hB hz1 hk1 hS => ?_)
  obtain ⟨a4, rfl⟩ : ∃ z, z = ra := ⟨_, rfl⟩
  obtain ⟨hP1, hK1, hD1⟩ := hB
  rw [ht] at hP1
  obtain ⟨hP, hD⟩ := va_join (wr := [(h0, .inr (9, [.ref h1, .int (iI 10), .int (iI md)]))]) (w1 := [(a4, .inl (cO, 15, .inr (.inr (.inr (.inr (va_cpy f (fun _ => none) 0 0 10))))))]) hP hD [1] [0] rfl rfl (by decide) (by decide) hk1 hFc hP1 hD1
  generalize H1 = H at hP hS ⊢
  have hP : va_P D vwCl [(h0, .inr (9, [.ref h1, .int (iI 10), .int (iI md)])), (a4, .inl (cO, 15, .inr (.inr (.inr (.inr (va_cpy f (fun _ => none) 0 0 10))))))] H := hP
  have hD : va_D A [(h0, .inr (9, [.ref h1, .int (iI 10), .int (iI md)])), (a4, .inl (cO, 15, .inr (.inr (.inr (.inr (va_cpy f (fun _ => none) 0 0 10))))))] := hD
  refine W.widen (k := 1) (n := 15) (Nat.le_of_ble_eq_true rfl) (Nat.le_of_ble_eq_true rfl) ?_
  replace v := v hw
  refine lv_dup_x1 hx hb d_AL_grow1_40 rfl rfl ?_
  refine va_put (D := D) (ci := 9) (v := .ref a4) (ty := .array (.object "java/lang/Object")) (C := "java/util/ArrayList") (T := T_AL) (N := 3) hx hb hts in_AL t_AL tok_AL n_AL hown hK hP hD hS 0 rfl rfl 0 (by decide) (hts _ wd_47) (fun _ h9 => h9) rfl (by decide +kernel) rfl rfl (Nat.le_of_ble_eq_true rfl) d_AL_grow1_41 (fun H locs hP hD hS => ?_)
  have hP : va_P D vwCl [(h0, .inr (9, [.ref a4, .int (iI 10), .int (iI md)])), (a4, .inl (cO, 15, .inr (.inr (.inr (.inr (va_cpy f (fun _ => none) 0 0 10))))))] H := hP
  have hD : va_D A [(h0, .inr (9, [.ref a4, .int (iI 10), .int (iI md)])), (a4, .inl (cO, 15, .inr (.inr (.inr (.inr (va_cpy f (fun _ => none) 0 0 10))))))] := hD
  have hP9 := hP.sub (ws' := [(h0, .inr (9, [.ref a4, .int (iI 10), .int (iI md)])), (a4, .inl (cO, 15, .inr (.inr (.inr (.inr (va_cpy f (fun _ => none) 0 0 10))))))]) [0, 1] rfl
  have hD9 := hD.sub (ws' := [(h0, .inr (9, [.ref a4, .int (iI 10), .int (iI md)])), (a4, .inl (cO, 15, .inr (.inr (.inr (.inr (va_cpy f (fun _ => none) 0 0 10))))))]) [0, 1] (by decide) rfl
  exact W.aret hx hb hr (by first | exact Or.inl ⟨_, rfl⟩ | exact Or.inr ⟨_, rfl⟩) (Or.inr ⟨_, rfl⟩) (fun t ht hW => ⟨⟨(), _, rfl, v, by rw [ht]; exact hP9, va_K.moved hW.alike hK, hD9⟩, hS.F ht⟩) hS.2.2 d_AL_grow1_44

def vc_AL_grow0G (md : Int) (f : Nat → Option Nat) (xa : Nat → Nat) (post : Prop) : Prop := ∃ P1 : Prop, vc_AL_grow1G md f xa P1 ∧ (P1  → post)
set_option maxHeartbeats 4000000 in
set_option maxRecDepth 100000 in
theorem m_AL_grow0G (l : Launch) (D : va_G) (cI cJ cO cZ : ClassId) (qd mi : Nat) (Z : State) (hZ : EvZ qd mi Z) (h0 h1 : Nat) (sz : Nat) (md : Int) (f : Nat → Option Nat) (xa : Nat → Nat) (vx : Nat → List Value) (hfx : ∀ i, i < 10 → f i = some (xa i)) (hne : ∀ q ∈ (pool (fun i => [(xa i, .inr (4, vx i))]) 10), q.1 ∉ List.map Prod.fst ([(h0, .inr (9, [.ref h1, .int (iI 10), .int (iI md)])), (h1, .inl (cO, 10, .inr (.inr (.inr (.inr f)))))] : va_W)) (post : Prop) (v : vc_AL_grow0G md f xa post) : Met l ⟨"java/util/ArrayList", "grow", "()[Ljava/lang/Object;"⟩ (.code ⟨"java/util/ArrayList", "grow", "()[Ljava/lang/Object;"⟩ prog_25_method_7_code 1 (some (.array (.object "java/lang/Object"))) :: TG) { frames := 4, cells := 1, slots := 15, locals := 107 } (va_Pc [.ref h0] (fun U => U.heap.size = sz ∧ va_P D vwCl [(h0, .inr (9, [.ref h1, .int (iI 10), .int (iI md)])), (h1, .inl (cO, 10, .inr (.inr (.inr (.inr f)))))] U.heap ∧ va_K D vwCl (tyx cI cJ cO cZ) U ∧ va_D (fun q => Z.heap.size ≤ q) [(h0, .inr (9, [.ref h1, .int (iI 10), .int (iI md)])), (h1, .inl (cO, 10, .inr (.inr (.inr (.inr f)))))] ∧ Ev Z U ∧ va_P D vwCl (pool (fun i => [(xa i, .inr (4, vx i))]) 10) U.heap)) (va_Qr (fun u : Unit => post ) (fun u h2 t => va_P D vwCl [(h0, .inr (9, [.ref h2, .int (iI 10), .int (iI md)])), (h2, .inl (cO, 15, .inr (.inr (.inr (.inr (va_cpy f (fun _ => none) 0 0 10))))))] t.heap ∧ va_K D vwCl (tyx cI cJ cO cZ) t ∧ va_D (va_A [(h0, .inr (9, [.ref h1, .int (iI 10), .int (iI md)])), (h1, .inl (cO, 10, .inr (.inr (.inr (.inr f)))))] sz) [(h0, .inr (9, [.ref h2, .int (iI 10), .int (iI md)])), (h2, .inl (cO, 15, .inr (.inr (.inr (.inr (va_cpy f (fun _ => none) 0 0 10))))))]) (va_A [(h0, .inr (9, [.ref h1, .int (iI 10), .int (iI md)])), (h1, .inl (cO, 10, .inr (.inr (.inr (.inr f)))))] sz)) 1 15 (va_A [(h0, .inr (9, [.ref h1, .int (iI 10), .int (iI md)])), (h1, .inl (cO, 10, .inr (.inr (.inr (.inr f)))))] sz) := by
  refine Met.ofW (cc := prog_25_method_7_code) (maxL := 1) (ret := (some (.array (.object "java/lang/Object")))) (by decide) rfl ?_
  intro p e s m args below meth c s₁ B hml hv
  obtain ⟨rfl, hsz, hP, hK, hD0, hE, hR⟩ := hv
  have hx := B.exec
  have hb := B.bytes
  have hr := B.returns
  have hts0 := atoms_spec (ws := (.code ⟨"java/util/ArrayList", "grow", "()[Ljava/lang/Object;"⟩ prog_25_method_7_code 1 (some (.array (.object "java/lang/Object"))) :: TG)) B.pre
  have hts : ∀ w ∈ TG, w.before _ s = true := fun w h => hts0 w (List.mem_cons_of_mem _ h)
  have hown : s.vm.findClass "java/util/ArrayList" = some m.cls := findClass_of_methodNamed B.named
  have hlocks := B.notSynchronized
  subst hsz
  have hD := hD0.self (sz := s.heap.size)
  have hRn : ∀ q ∈ (pool (fun i => [(xa i, .inr (4, vx i))]) 10), ¬ va_A [(h0, .inr (9, [.ref h1, .int (iI 10), .int (iI md)])), (h1, .inl (cO, 10, .inr (.inr (.inr (.inr f)))))] s.heap.size q.1 := nv_rokn hR hne
  have hAZ : ∀ q, va_A [(h0, .inr (9, [.ref h1, .int (iI 10), .int (iI md)])), (h1, .inl (cO, 10, .inr (.inr (.inr (.inr f)))))] s.heap.size q → Z.heap.size ≤ q := fun q h => hE.inA hD0 h
  generalize hAe : va_A [(h0, .inr (9, [.ref h1, .int (iI 10), .int (iI md)])), (h1, .inl (cO, 10, .inr (.inr (.inr (.inr f)))))] s.heap.size = A at hD hAZ hRn ⊢
  have hA : ∀ q : Nat, s.heap.size ≤ q → A q := fun q h => by rw [← hAe]; exact Or.inr h
  have hS : va_S A s.heap s.heap [] := va_S.rf
  have hP : va_P D vwCl [(h0, .inr (9, [.ref h1, .int (iI 10), .int (iI md)])), (h1, .inl (cO, 10, .inr (.inr (.inr (.inr f)))))] s.heap := hP
  have hl := lv_entry ([Value.ref h0]) (n := 1) (Nat.le_of_ble_eq_true rfl)
  rw [lg_entry_eq]
  generalize (lg_sl ([Value.ref h0]) ++ List.replicate (1 - (lg_sl ([Value.ref h0])).length) Slot.unset).toArray = ls at hl ⊢
  have hl : lv_has ls 1 [(0, .ref h0)] := hl
  unfold vc_AL_grow0G at v
  obtain ⟨H, hH⟩ : ∃ H, H = s.heap := ⟨_, rfl⟩
  obtain ⟨locs, hlc⟩ : ∃ L : List Loc, L = [] := ⟨_, rfl⟩
  rw [← hlc] at hS ⊢
  have hP : va_P D vwCl [(h0, .inr (9, [.ref h1, .int (iI 10), .int (iI md)])), (h1, .inl (cO, 10, .inr (.inr (.inr (.inr f)))))] H := by rw [hH]; exact hP
  have hS : va_S A s.heap H locs := by rw [hH]; exact hS
  have hW0 : ∀ {X : Heap → Prop}, X H → X s.heap := fun h => by rw [← hH]; exact h
  refine hW0 (X := fun Z => W p l e _ s m _ below meth c Z locs 0 0 _ _) ?_
  refine lv_aload_n hx hb d_AL_grow0_0 rfl (lv_at hl 0 rfl) ?_
  refine lv_aload_n hx hb d_AL_grow0_1 rfl (lv_at hl 0 rfl) ?_
  refine va_get (D := D) (ci := 9) (v := .int (iI 10)) (C := "java/util/ArrayList") (T := T_AL) (N := 3) hx hb hts in_AL hown hK hP 0 rfl rfl 1 (by decide) (hts _ wd_48) (fun _ h9 => h9) rfl d_AL_grow0_2 ?_
  refine nv_iconst (n := 1) hx hb d_AL_grow0_5 ?_
  refine nv_iadd (z := 11) hx hb d_AL_grow0_6 (by first | rfl | omega) ?_
  obtain ⟨P1, q2, v⟩ := v
  have hPc := hP.sub (ws' := [(h0, .inr (9, [.ref h1, .int (iI 10), .int (iI md)])), (h1, .inl (cO, 10, .inr (.inr (.inr (.inr f)))))]) [0, 1] rfl
  have hDc := hD.sub (ws' := [(h0, .inr (9, [.ref h1, .int (iI 10), .int (iI md)])), (h1, .inl (cO, 10, .inr (.inr (.inr (.inr f)))))]) [0, 1] (by decide) rfl
  have hFc := va_free (wc := [(h0, .inr (9, [.ref h1, .int (iI 10), .int (iI md)])), (h1, .inl (cO, 10, .inr (.inr (.inr (.inr f)))))]) hD hS hA [0, 1] rfl
  refine va_callr (va_runV (As := [.int (iI 11)]) (rest := []) ⟨hx, hb, hml, hown, hts⟩ (m_AL_grow1G l D cI cJ cO cZ qd mi Z hZ h0 h1 H.size md f xa vx hfx (fun q hq hm => hRn q hq (nv_inA hDc hm)) P1 q2) (nv_cwV (n := 1) hts wd_387 wd_389 sl_11 wd_4 wd_390 (by decide +kernel) ⟨Nat.le_of_ble_eq_true rfl, Nat.le_of_ble_eq_true rfl⟩) ⟨blWER, va_recv hK hPc (ci := 9) (q0 := 0) rfl rfl, fun U hU hW => ⟨rfl, by rw [hU], by rw [hU]; exact hPc, va_K.moved hW.alike hK, hDc.weaken (fun _ _ _ h => hAZ _ h), hE.step hAZ hS hU hW, by rw [hU]; exact nv_kept hR hRn hS⟩⟩ rfl rfl hl.1 rfl (lv_room (Nat.le_of_ble_eq_true rfl)) d_AL_grow0_7 ⟨Nat.le_of_ble_eq_true rfl, Nat.le_of_ble_eq_true rfl⟩) hS (fun q _ h => hFc q h) hFc (fun u ra t H1 locs ht hvm hw hB hz1 hk1 hS => ?_)
  obtain ⟨a3, rfl⟩ : ∃ z, z = ra := ⟨_, rfl⟩
  obtain ⟨hP1, hK1, hD1⟩ := hB
  rw [ht] at hP1
  obtain ⟨hP, hD⟩ := va_join (wr := []) (w1 := [(h0, .inr (9, [.ref a3, .int (iI 10), .int (iI md)])), (a3, .inl (cO, 15, .inr (.inr (.inr (.inr (va_cpy f (fun _ => none) 0 0 10))))))]) hP hD [0, 1] [] rfl rfl (by decide) (by decide) hk1 hFc hP1 hD1
  generalize H1 = H at hP hS ⊢
  have hP : va_P D vwCl [(h0, .inr (9, [.ref a3, .int (iI 10), .int (iI md)])), (a3, .inl (cO, 15, .inr (.inr (.inr (.inr (va_cpy f (fun _ => none) 0 0 10))))))] H := hP
  have hD : va_D A [(h0, .inr (9, [.ref a3, .int (iI 10), .int (iI md)])), (a3, .inl (cO, 15, .inr (.inr (.inr (.inr (va_cpy f (fun _ => none) 0 0 10))))))] := hD
  refine W.widen (k := 1) (n := 15) (Nat.le_of_ble_eq_true rfl) (Nat.le_of_ble_eq_true rfl) ?_
  replace v := v hw
  have hP9 := hP.sub (ws' := [(h0, .inr (9, [.ref a3, .int (iI 10), .int (iI md)])), (a3, .inl (cO, 15, .inr (.inr (.inr (.inr (va_cpy f (fun _ => none) 0 0 10))))))]) [0, 1] rfl
  have hD9 := hD.sub (ws' := [(h0, .inr (9, [.ref a3, .int (iI 10), .int (iI md)])), (a3, .inl (cO, 15, .inr (.inr (.inr (.inr (va_cpy f (fun _ => none) 0 0 10))))))]) [0, 1] (by decide) rfl
  exact W.aret hx hb hr (by first | exact Or.inl ⟨_, rfl⟩ | exact Or.inr ⟨_, rfl⟩) (Or.inr ⟨_, rfl⟩) (fun t ht hW => ⟨⟨(), _, rfl, v, by rw [ht]; exact hP9, va_K.moved hW.alike hK, hD9⟩, hS.F ht⟩) hS.2.2 d_AL_grow0_10

def vc_AL_add1GE (md : Int) (f : Nat → Option Nat) (xa : Nat → Nat) (post : Prop) : Prop := ∃ P2 : Prop, vc_AL_grow0G md f xa P2 ∧ (P2  → post )
set_option maxHeartbeats 4000000 in
set_option maxRecDepth 100000 in
theorem m_AL_add1GE (l : Launch) (D : va_G) (cI cJ cO cZ : ClassId) (qd mi : Nat) (Z : State) (hZ : EvZ qd mi Z) (h0 h1 v0 : Nat) (sz : Nat) (md : Int) (f : Nat → Option Nat) (vs : List Value) (xa : Nat → Nat) (vx : Nat → List Value) (hfx : ∀ i, i < 10 → f i = some (xa i)) (hne : ∀ q ∈ (pool (fun i => [(xa i, .inr (4, vx i))]) 10), q.1 ∉ List.map Prod.fst ([(h0, .inr (9, [.ref h1, .int (iI 10), .int (iI md)])), (h1, .inl (cO, 10, .inr (.inr (.inr (.inr f))))), (v0, .inr (4, vs))] : va_W)) (post : Prop) (v : vc_AL_add1GE md f xa post) : Met l ⟨"java/util/ArrayList", "add", "(Ljava/lang/Object;[Ljava/lang/Object;I)V"⟩ (.code ⟨"java/util/ArrayList", "add", "(Ljava/lang/Object;[Ljava/lang/Object;I)V"⟩ prog_25_method_24_code 4 none :: TG) { frames := 5, cells := 1, slots := 15, locals := 127 } (va_Pc [.ref h0, .ref v0, .ref h1, .int (iI 10)] (fun U => U.heap.size = sz ∧ va_P D vwCl [(h0, .inr (9, [.ref h1, .int (iI 10), .int (iI md)])), (h1, .inl (cO, 10, .inr (.inr (.inr (.inr f))))), (v0, .inr (4, vs))] U.heap ∧ va_K D vwCl (tyx cI cJ cO cZ) U ∧ va_D (fun q => Z.heap.size ≤ q) [(h0, .inr (9, [.ref h1, .int (iI 10), .int (iI md)])), (h1, .inl (cO, 10, .inr (.inr (.inr (.inr f))))), (v0, .inr (4, vs))] ∧ Ev Z U ∧ va_P D vwCl (pool (fun i => [(xa i, .inr (4, vx i))]) 10) U.heap)) (va_Qv (fun u : Unit => post ) (fun u t => ∃ (h2 : Nat), va_P D vwCl [(h0, .inr (9, [.ref h2, .int (iI 11), .int (iI md)])), (v0, .inr (4, vs)), (h2, .inl (cO, 15, .inr (.inr (.inr (.inr (va_up (va_cpy f (fun _ => none) 0 0 10) 10 (some v0)))))))] t.heap ∧ va_K D vwCl (tyx cI cJ cO cZ) t ∧ va_D (va_A [(h0, .inr (9, [.ref h1, .int (iI 10), .int (iI md)])), (h1, .inl (cO, 10, .inr (.inr (.inr (.inr f))))), (v0, .inr (4, vs))] sz) [(h0, .inr (9, [.ref h2, .int (iI 11), .int (iI md)])), (v0, .inr (4, vs)), (h2, .inl (cO, 15, .inr (.inr (.inr (.inr (va_up (va_cpy f (fun _ => none) 0 0 10) 10 (some v0)))))))]) (va_A [(h0, .inr (9, [.ref h1, .int (iI 10), .int (iI md)])), (h1, .inl (cO, 10, .inr (.inr (.inr (.inr f))))), (v0, .inr (4, vs))] sz)) 1 15 (va_A [(h0, .inr (9, [.ref h1, .int (iI 10), .int (iI md)])), (h1, .inl (cO, 10, .inr (.inr (.inr (.inr f))))), (v0, .inr (4, vs))] sz) := by
  refine Met.ofW (cc := prog_25_method_24_code) (maxL := 4) (ret := none) (by decide) rfl ?_
  intro p e s m args below meth c s₁ B hml hv
  obtain ⟨rfl, hsz, hP, hK, hD0, hE, hR⟩ := hv
  have hx := B.exec
  have hb := B.bytes
  have hr := B.returns
  have hts0 := atoms_spec (ws := (.code ⟨"java/util/ArrayList", "add", "(Ljava/lang/Object;[Ljava/lang/Object;I)V"⟩ prog_25_method_24_code 4 none :: TG)) B.pre
  have hts : ∀ w ∈ TG, w.before _ s = true := fun w h => hts0 w (List.mem_cons_of_mem _ h)
  have hown : s.vm.findClass "java/util/ArrayList" = some m.cls := findClass_of_methodNamed B.named
  have hlocks := B.notSynchronized
  subst hsz
  have hD := hD0.self (sz := s.heap.size)
  have hRn : ∀ q ∈ (pool (fun i => [(xa i, .inr (4, vx i))]) 10), ¬ va_A [(h0, .inr (9, [.ref h1, .int (iI 10), .int (iI md)])), (h1, .inl (cO, 10, .inr (.inr (.inr (.inr f))))), (v0, .inr (4, vs))] s.heap.size q.1 := nv_rokn hR hne
  have hAZ : ∀ q, va_A [(h0, .inr (9, [.ref h1, .int (iI 10), .int (iI md)])), (h1, .inl (cO, 10, .inr (.inr (.inr (.inr f))))), (v0, .inr (4, vs))] s.heap.size q → Z.heap.size ≤ q := fun q h => hE.inA hD0 h
  generalize hAe : va_A [(h0, .inr (9, [.ref h1, .int (iI 10), .int (iI md)])), (h1, .inl (cO, 10, .inr (.inr (.inr (.inr f))))), (v0, .inr (4, vs))] s.heap.size = A at hD hAZ hRn ⊢
  have hA : ∀ q : Nat, s.heap.size ≤ q → A q := fun q h => by rw [← hAe]; exact Or.inr h
  have hS : va_S A s.heap s.heap [] := va_S.rf
  have hP : va_P D vwCl [(h0, .inr (9, [.ref h1, .int (iI 10), .int (iI md)])), (h1, .inl (cO, 10, .inr (.inr (.inr (.inr f))))), (v0, .inr (4, vs))] s.heap := hP
  have hl := lv_entry ([Value.ref h0, Value.ref v0, Value.ref h1, Value.int (iI 10)]) (n := 4) (Nat.le_of_ble_eq_true rfl)
  rw [lg_entry_eq]
  generalize (lg_sl ([Value.ref h0, Value.ref v0, Value.ref h1, Value.int (iI 10)]) ++ List.replicate (4 - (lg_sl ([Value.ref h0, Value.ref v0, Value.ref h1, Value.int (iI 10)])).length) Slot.unset).toArray = ls at hl ⊢
  have hl : lv_has ls 4 [(0, .ref h0), (1, .ref v0), (2, .ref h1), (3, .int (iI 10))] := hl
  unfold vc_AL_add1GE at v
  obtain ⟨H, hH⟩ : ∃ H, H = s.heap := ⟨_, rfl⟩
  obtain ⟨locs, hlc⟩ : ∃ L : List Loc, L = [] := ⟨_, rfl⟩
  rw [← hlc] at hS ⊢
  have hP : va_P D vwCl [(h0, .inr (9, [.ref h1, .int (iI 10), .int (iI md)])), (h1, .inl (cO, 10, .inr (.inr (.inr (.inr f))))), (v0, .inr (4, vs))] H := by rw [hH]; exact hP
  have hS : va_S A s.heap H locs := by rw [hH]; exact hS
  have hW0 : ∀ {X : Heap → Prop}, X H → X s.heap := fun h => by rw [← hH]; exact h
  refine hW0 (X := fun Z => W p l e _ s m _ below meth c Z locs 0 0 _ _) ?_
  refine lv_iload_n hx hb d_AL_add1_0 rfl (lv_at hl 3 rfl) ?_
  refine lv_aload_n hx hb d_AL_add1_1 rfl (lv_at hl 2 rfl) ?_
  refine va_alen hx hb hK hP 1 2 rfl rfl (v := iI (((10 : Nat) : Int) : Int)) (iI_nat _).symm d_AL_add1_2 ?_
  refine nv_eqi (y := iI 10) rfl ?_
  refine nv_icmp_ne (tgt := 11) hx hb d_AL_add1_3 (by decide) (by decide) (by decide) (fun c1 => absurd c1 (by decide)) (fun _ => ?_)
  refine lv_aload_n hx hb d_AL_add1_6 rfl (lv_at hl 0 rfl) ?_
  obtain ⟨P2, q3, v⟩ := v
  have hPc := hP.sub (ws' := [(h0, .inr (9, [.ref h1, .int (iI 10), .int (iI md)])), (h1, .inl (cO, 10, .inr (.inr (.inr (.inr f)))))]) [0, 1] rfl
  have hDc := hD.sub (ws' := [(h0, .inr (9, [.ref h1, .int (iI 10), .int (iI md)])), (h1, .inl (cO, 10, .inr (.inr (.inr (.inr f)))))]) [0, 1] (by decide) rfl
  have hFc := va_free (wc := [(h0, .inr (9, [.ref h1, .int (iI 10), .int (iI md)])), (h1, .inl (cO, 10, .inr (.inr (.inr (.inr f)))))]) hD hS hA [0, 1] rfl
  refine va_callr (va_runV (As := []) (rest := []) ⟨hx, hb, hml, hown, hts⟩ (m_AL_grow0G l D cI cJ cO cZ qd mi Z hZ h0 h1 H.size md f xa vx hfx (fun q hq hm => hRn q hq (nv_inA hDc hm)) P2 q3) (nv_cwV (n := 0) hts wd_383 wd_385 sl_10 wd_4 wd_386 (by decide +kernel) ⟨Nat.le_of_ble_eq_true rfl, Nat.le_of_ble_eq_true rfl⟩) ⟨blWER, va_recv hK hPc (ci := 9) (q0 := 0) rfl rfl, fun U hU hW => ⟨rfl, by rw [hU], by rw [hU]; exact hPc, va_K.moved hW.alike hK, hDc.weaken (fun _ _ _ h => hAZ _ h), hE.step hAZ hS hU hW, by rw [hU]; exact nv_kept hR hRn hS⟩⟩ rfl rfl hl.1 rfl (lv_room (Nat.le_of_ble_eq_true rfl)) d_AL_add1_7 ⟨Nat.le_of_ble_eq_true rfl, Nat.le_of_ble_eq_true rfl⟩) hS (fun q _ h => hFc q h) hFc (fun u ra t H1 locs ht hvm hw hB hz1 hk1 hS => ?_)
  obtain ⟨a4, rfl⟩ : ∃ z, z = ra := ⟨_, rfl⟩
  obtain ⟨hP1, hK1, hD1⟩ := hB
  rw [ht] at hP1
  obtain ⟨hP, hD⟩ := va_join (wr := [(v0, .inr (4, vs))]) (w1 := [(h0, .inr (9, [.ref a4, .int (iI 10), .int (iI md)])), (a4, .inl (cO, 15, .inr (.inr (.inr (.inr (va_cpy f (fun _ => none) 0 0 10))))))]) hP hD [0, 1] [2] rfl rfl (by decide) (by decide) hk1 hFc hP1 hD1
  generalize H1 = H at hP hS ⊢
  have hP : va_P D vwCl [(v0, .inr (4, vs)), (h0, .inr (9, [.ref a4, .int (iI 10), .int (iI md)])), (a4, .inl (cO, 15, .inr (.inr (.inr (.inr (va_cpy f (fun _ => none) 0 0 10))))))] H := hP
  have hD : va_D A [(v0, .inr (4, vs)), (h0, .inr (9, [.ref a4, .int (iI 10), .int (iI md)])), (a4, .inl (cO, 15, .inr (.inr (.inr (.inr (va_cpy f (fun _ => none) 0 0 10))))))] := hD
  refine W.widen (k := 1) (n := 15) (Nat.le_of_ble_eq_true rfl) (Nat.le_of_ble_eq_true rfl) ?_
  replace v := v hw
  refine lv_astore_n (lv' := [(2, .ref a4), (0, .ref h0), (1, .ref v0), (3, .int (iI 10))]) hx hb d_AL_add1_10 rfl hl (by decide) rfl (fun ls hl => ?_)
  refine lv_aload_n hx hb d_AL_add1_11 rfl (lv_at hl 0 rfl) ?_
  refine lv_iload_n hx hb d_AL_add1_12 rfl (lv_at hl 3 rfl) ?_
  refine lv_aload_n hx hb d_AL_add1_13 rfl (lv_at hl 2 rfl) ?_
  refine nv_asto hx hb hK hP hD hS 2 2 0 4 rfl rfl (va_Nw.of rfl (hE.tbl hZ (List.mem_append_right _ (List.mem_of_getElem? (i := 958) (by decide +kernel))) (by decide +kernel) (a := #[]))) rfl rfl 10 rfl (by decide) (by first | decide | omega) d_AL_add1_14 (fun H locs hP hD hS => ?_)
  have hP : va_P D vwCl [(v0, .inr (4, vs)), (h0, .inr (9, [.ref a4, .int (iI 10), .int (iI md)])), (a4, .inl (cO, 15, .inr (.inr (.inr (.inr (va_up (va_cpy f (fun _ => none) 0 0 10) 10 (some v0)))))))] H := hP
  have hD : va_D A [(v0, .inr (4, vs)), (h0, .inr (9, [.ref a4, .int (iI 10), .int (iI md)])), (a4, .inl (cO, 15, .inr (.inr (.inr (.inr (va_up (va_cpy f (fun _ => none) 0 0 10) 10 (some v0)))))))] := hD
  refine lv_aload_n hx hb d_AL_add1_15 rfl (lv_at hl 1 rfl) ?_
  refine lv_iload_n hx hb d_AL_add1_16 rfl (lv_at hl 3 rfl) ?_
  refine nv_iconst (n := 1) hx hb d_AL_add1_17 ?_
  refine nv_iadd (z := 11) hx hb d_AL_add1_18 (by first | rfl | omega) ?_
  refine va_put (D := D) (ci := 9) (v := .int (iI 11)) (ty := .int) (C := "java/util/ArrayList") (T := T_AL) (N := 3) hx hb hts in_AL t_AL tok_AL n_AL hown hK hP hD hS 1 rfl rfl 1 (by decide) (hts _ wd_48) (fun _ h9 => h9) rfl (by decide +kernel) rfl rfl (Nat.le_of_ble_eq_true rfl) d_AL_add1_19 (fun H locs hP hD hS => ?_)
  have hP : va_P D vwCl [(v0, .inr (4, vs)), (h0, .inr (9, [.ref a4, .int (iI 11), .int (iI md)])), (a4, .inl (cO, 15, .inr (.inr (.inr (.inr (va_up (va_cpy f (fun _ => none) 0 0 10) 10 (some v0)))))))] H := hP
  have hD : va_D A [(v0, .inr (4, vs)), (h0, .inr (9, [.ref a4, .int (iI 11), .int (iI md)])), (a4, .inl (cO, 15, .inr (.inr (.inr (.inr (va_up (va_cpy f (fun _ => none) 0 0 10) 10 (some v0)))))))] := hD
  have hP9 := hP.sub (ws' := [(h0, .inr (9, [.ref a4, .int (iI 11), .int (iI md)])), (v0, .inr (4, vs)), (a4, .inl (cO, 15, .inr (.inr (.inr (.inr (va_up (va_cpy f (fun _ => none) 0 0 10) 10 (some v0)))))))]) [1, 0, 2] rfl
  have hD9 := hD.sub (ws' := [(h0, .inr (9, [.ref a4, .int (iI 11), .int (iI md)])), (v0, .inr (4, vs)), (a4, .inl (cO, 15, .inr (.inr (.inr (.inr (va_up (va_cpy f (fun _ => none) 0 0 10) 10 (some v0)))))))]) [1, 0, 2] (by decide) rfl
  exact W.vret hx hb hr (fun t ht hW => ⟨⟨(), rfl, v, a4, by rw [ht]; exact hP9, va_K.moved hW.alike hK, hD9⟩, hS.F ht⟩) hS.2.2 d_AL_add1_22

def vc_AL_add0GE (md : Int) (f : Nat → Option Nat) (xa : Nat → Nat) (post : Int → Prop) : Prop := ∃ P1 : Prop, vc_AL_add1GE (md + 1) f xa P1 ∧ (P1  → post 1)
set_option maxHeartbeats 4000000 in
set_option maxRecDepth 100000 in
theorem m_AL_add0GE (l : Launch) (D : va_G) (cI cJ cO cZ : ClassId) (qd mi : Nat) (Z : State) (hZ : EvZ qd mi Z) (h0 h1 v0 : Nat) (sz : Nat) (md : Int) (f : Nat → Option Nat) (vs : List Value) (xa : Nat → Nat) (vx : Nat → List Value) (hfx : ∀ i, i < 10 → f i = some (xa i)) (hne : ∀ q ∈ (pool (fun i => [(xa i, .inr (4, vx i))]) 10), q.1 ∉ List.map Prod.fst ([(h0, .inr (9, [.ref h1, .int (iI 10), .int (iI md)])), (h1, .inl (cO, 10, .inr (.inr (.inr (.inr f))))), (v0, .inr (4, vs))] : va_W)) (post : Int → Prop) (v : vc_AL_add0GE md f xa post) : Met l ⟨"java/util/ArrayList", "add", "(Ljava/lang/Object;)Z"⟩ (.code ⟨"java/util/ArrayList", "add", "(Ljava/lang/Object;)Z"⟩ prog_25_method_25_code 2 (some .boolean) :: TG) { frames := 6, cells := 1, slots := 15, locals := 150 } (va_Pc [.ref h0, .ref v0] (fun U => U.heap.size = sz ∧ va_P D vwCl [(h0, .inr (9, [.ref h1, .int (iI 10), .int (iI md)])), (h1, .inl (cO, 10, .inr (.inr (.inr (.inr f))))), (v0, .inr (4, vs))] U.heap ∧ va_K D vwCl (tyx cI cJ cO cZ) U ∧ va_D (fun q => Z.heap.size ≤ q) [(h0, .inr (9, [.ref h1, .int (iI 10), .int (iI md)])), (h1, .inl (cO, 10, .inr (.inr (.inr (.inr f))))), (v0, .inr (4, vs))] ∧ Ev Z U ∧ va_P D vwCl (pool (fun i => [(xa i, .inr (4, vx i))]) 10) U.heap)) (va_Qi (fun (r : Int32) (u : Unit) => ∃ z : Int, r = iI z ∧ post z ) (fun u t => ∃ (h2 : Nat), va_P D vwCl [(h0, .inr (9, [.ref h2, .int (iI 11), .int (iI (md + 1))])), (v0, .inr (4, vs)), (h2, .inl (cO, 15, .inr (.inr (.inr (.inr (va_up (va_cpy f (fun _ => none) 0 0 10) 10 (some v0)))))))] t.heap ∧ va_K D vwCl (tyx cI cJ cO cZ) t ∧ va_D (va_A [(h0, .inr (9, [.ref h1, .int (iI 10), .int (iI md)])), (h1, .inl (cO, 10, .inr (.inr (.inr (.inr f))))), (v0, .inr (4, vs))] sz) [(h0, .inr (9, [.ref h2, .int (iI 11), .int (iI (md + 1))])), (v0, .inr (4, vs)), (h2, .inl (cO, 15, .inr (.inr (.inr (.inr (va_up (va_cpy f (fun _ => none) 0 0 10) 10 (some v0)))))))]) (va_A [(h0, .inr (9, [.ref h1, .int (iI 10), .int (iI md)])), (h1, .inl (cO, 10, .inr (.inr (.inr (.inr f))))), (v0, .inr (4, vs))] sz)) 1 15 (va_A [(h0, .inr (9, [.ref h1, .int (iI 10), .int (iI md)])), (h1, .inl (cO, 10, .inr (.inr (.inr (.inr f))))), (v0, .inr (4, vs))] sz) := by
  refine Met.ofW (cc := prog_25_method_25_code) (maxL := 2) (ret := (some .boolean)) (by decide) rfl ?_
  intro p e s m args below meth c s₁ B hml hv
  obtain ⟨rfl, hsz, hP, hK, hD0, hE, hR⟩ := hv
  have hx := B.exec
  have hb := B.bytes
  have hr := B.returns
  have hts0 := atoms_spec (ws := (.code ⟨"java/util/ArrayList", "add", "(Ljava/lang/Object;)Z"⟩ prog_25_method_25_code 2 (some .boolean) :: TG)) B.pre
  have hts : ∀ w ∈ TG, w.before _ s = true := fun w h => hts0 w (List.mem_cons_of_mem _ h)
  have hown : s.vm.findClass "java/util/ArrayList" = some m.cls := findClass_of_methodNamed B.named
  have hlocks := B.notSynchronized
  subst hsz
  have hD := hD0.self (sz := s.heap.size)
  have hRn : ∀ q ∈ (pool (fun i => [(xa i, .inr (4, vx i))]) 10), ¬ va_A [(h0, .inr (9, [.ref h1, .int (iI 10), .int (iI md)])), (h1, .inl (cO, 10, .inr (.inr (.inr (.inr f))))), (v0, .inr (4, vs))] s.heap.size q.1 := nv_rokn hR hne
  have hAZ : ∀ q, va_A [(h0, .inr (9, [.ref h1, .int (iI 10), .int (iI md)])), (h1, .inl (cO, 10, .inr (.inr (.inr (.inr f))))), (v0, .inr (4, vs))] s.heap.size q → Z.heap.size ≤ q := fun q h => hE.inA hD0 h
  generalize hAe : va_A [(h0, .inr (9, [.ref h1, .int (iI 10), .int (iI md)])), (h1, .inl (cO, 10, .inr (.inr (.inr (.inr f))))), (v0, .inr (4, vs))] s.heap.size = A at hD hAZ hRn ⊢
  have hA : ∀ q : Nat, s.heap.size ≤ q → A q := fun q h => by rw [← hAe]; exact Or.inr h
  have hS : va_S A s.heap s.heap [] := va_S.rf
  have hP : va_P D vwCl [(h0, .inr (9, [.ref h1, .int (iI 10), .int (iI md)])), (h1, .inl (cO, 10, .inr (.inr (.inr (.inr f))))), (v0, .inr (4, vs))] s.heap := hP
  have hl := lv_entry ([Value.ref h0, Value.ref v0]) (n := 2) (Nat.le_of_ble_eq_true rfl)
  rw [lg_entry_eq]
  generalize (lg_sl ([Value.ref h0, Value.ref v0]) ++ List.replicate (2 - (lg_sl ([Value.ref h0, Value.ref v0])).length) Slot.unset).toArray = ls at hl ⊢
  have hl : lv_has ls 2 [(0, .ref h0), (1, .ref v0)] := hl
  unfold vc_AL_add0GE at v
  obtain ⟨H, hH⟩ : ∃ H, H = s.heap := ⟨_, rfl⟩
  obtain ⟨locs, hlc⟩ : ∃ L : List Loc, L = [] := ⟨_, rfl⟩
  rw [← hlc] at hS ⊢
  have hP : va_P D vwCl [(h0, .inr (9, [.ref h1, .int (iI 10), .int (iI md)])), (h1, .inl (cO, 10, .inr (.inr (.inr (.inr f))))), (v0, .inr (4, vs))] H := by rw [hH]; exact hP
  have hS : va_S A s.heap H locs := by rw [hH]; exact hS
  have hW0 : ∀ {X : Heap → Prop}, X H → X s.heap := fun h => by rw [← hH]; exact h
  refine hW0 (X := fun Z => W p l e _ s m _ below meth c Z locs 0 0 _ _) ?_
  refine lv_aload_n hx hb d_AL_add0_0 rfl (lv_at hl 0 rfl) ?_
  refine lv_dup hx hb d_AL_add0_1 rfl ?_
  refine va_get (D := D) (ci := 9) (v := .int (iI md)) (C := "java/util/ArrayList") (T := T_AL) (N := 3) hx hb hts in_AL hown hK hP 0 rfl rfl 2 (by decide) (hts _ wd_50) (u_same (hts _ wd_51)) rfl d_AL_add0_2 ?_
  refine nv_iconst (n := 1) hx hb d_AL_add0_5 ?_
  refine nv_iadd (z := md + 1) hx hb d_AL_add0_6 (by first | rfl | omega) ?_
  refine va_put (D := D) (ci := 9) (v := .int (iI (md + 1))) (ty := .int) (C := "java/util/ArrayList") (T := T_AL) (N := 3) hx hb hts in_AL t_AL tok_AL n_AL hown hK hP hD hS 0 rfl rfl 2 (by decide) (hts _ wd_50) (u_same (hts _ wd_51)) rfl (by decide +kernel) rfl rfl (Nat.le_of_ble_eq_true rfl) d_AL_add0_7 (fun H locs hP hD hS => ?_)
  have hP : va_P D vwCl [(h0, .inr (9, [.ref h1, .int (iI 10), .int (iI (md + 1))])), (h1, .inl (cO, 10, .inr (.inr (.inr (.inr f))))), (v0, .inr (4, vs))] H := hP
  have hD : va_D A [(h0, .inr (9, [.ref h1, .int (iI 10), .int (iI (md + 1))])), (h1, .inl (cO, 10, .inr (.inr (.inr (.inr f))))), (v0, .inr (4, vs))] := hD
  refine lv_aload_n hx hb d_AL_add0_10 rfl (lv_at hl 0 rfl) ?_
  refine lv_aload_n hx hb d_AL_add0_11 rfl (lv_at hl 1 rfl) ?_
  refine lv_aload_n hx hb d_AL_add0_12 rfl (lv_at hl 0 rfl) ?_
  refine va_get (D := D) (ci := 9) (v := .ref h1) (C := "java/util/ArrayList") (T := T_AL) (N := 3) hx hb hts in_AL hown hK hP 0 rfl rfl 0 (by decide) (hts _ wd_47) (fun _ h9 => h9) rfl d_AL_add0_13 ?_
  refine lv_aload_n hx hb d_AL_add0_16 rfl (lv_at hl 0 rfl) ?_
  refine va_get (D := D) (ci := 9) (v := .int (iI 10)) (C := "java/util/ArrayList") (T := T_AL) (N := 3) hx hb hts in_AL hown hK hP 0 rfl rfl 1 (by decide) (hts _ wd_48) (fun _ h9 => h9) rfl d_AL_add0_17 ?_
  obtain ⟨P1, q2, v⟩ := v
  have hPc := hP.sub (ws' := [(h0, .inr (9, [.ref h1, .int (iI 10), .int (iI (md + 1))])), (h1, .inl (cO, 10, .inr (.inr (.inr (.inr f))))), (v0, .inr (4, vs))]) [0, 1, 2] rfl
  have hDc := hD.sub (ws' := [(h0, .inr (9, [.ref h1, .int (iI 10), .int (iI (md + 1))])), (h1, .inl (cO, 10, .inr (.inr (.inr (.inr f))))), (v0, .inr (4, vs))]) [0, 1, 2] (by decide) rfl
  have hFc := va_free (wc := [(h0, .inr (9, [.ref h1, .int (iI 10), .int (iI (md + 1))])), (h1, .inl (cO, 10, .inr (.inr (.inr (.inr f))))), (v0, .inr (4, vs))]) hD hS hA [0, 1, 2] rfl
  refine va_callv (va_runV (As := [.ref v0, .ref h1, .int (iI 10)]) (rest := []) ⟨hx, hb, hml, hown, hts⟩ (m_AL_add1GE l D cI cJ cO cZ qd mi Z hZ h0 h1 v0 H.size (md + 1) f vs xa vx hfx (fun q hq hm => hRn q hq (nv_inA hDc hm)) P1 q2) (nv_cwV (n := 3) hts wd_379 wd_381 sl_9 wd_4 wd_382 (by decide +kernel) ⟨Nat.le_of_ble_eq_true rfl, Nat.le_of_ble_eq_true rfl⟩) ⟨blWER, va_recv hK hPc (ci := 9) (q0 := 0) rfl rfl, fun U hU hW => ⟨rfl, by rw [hU], by rw [hU]; exact hPc, va_K.moved hW.alike hK, hDc.weaken (fun _ _ _ h => hAZ _ h), hE.step hAZ hS hU hW, by rw [hU]; exact nv_kept hR hRn hS⟩⟩ rfl rfl hl.1 rfl (lv_room (Nat.le_of_ble_eq_true rfl)) d_AL_add0_20 ⟨Nat.le_of_ble_eq_true rfl, Nat.le_of_ble_eq_true rfl⟩) hS (fun q _ h => hFc q h) hFc (fun u t H1 locs ht hvm hw hB hz1 hk1 hS => ?_)
  obtain ⟨a3, hP1, hK1, hD1⟩ := hB
  rw [ht] at hP1
  obtain ⟨hP, hD⟩ := va_join (wr := []) (w1 := [(h0, .inr (9, [.ref a3, .int (iI 11), .int (iI (md + 1))])), (v0, .inr (4, vs)), (a3, .inl (cO, 15, .inr (.inr (.inr (.inr (va_up (va_cpy f (fun _ => none) 0 0 10) 10 (some v0)))))))]) hP hD [0, 1, 2] [] rfl rfl (by decide) (by decide) hk1 hFc hP1 hD1
  generalize H1 = H at hP hS ⊢
  have hP : va_P D vwCl [(h0, .inr (9, [.ref a3, .int (iI 11), .int (iI (md + 1))])), (v0, .inr (4, vs)), (a3, .inl (cO, 15, .inr (.inr (.inr (.inr (va_up (va_cpy f (fun _ => none) 0 0 10) 10 (some v0)))))))] H := hP
  have hD : va_D A [(h0, .inr (9, [.ref a3, .int (iI 11), .int (iI (md + 1))])), (v0, .inr (4, vs)), (a3, .inl (cO, 15, .inr (.inr (.inr (.inr (va_up (va_cpy f (fun _ => none) 0 0 10) 10 (some v0)))))))] := hD
  refine W.widen (k := 1) (n := 15) (Nat.le_of_ble_eq_true rfl) (Nat.le_of_ble_eq_true rfl) ?_
  replace v := v hw
  refine nv_iconst (n := 1) hx hb d_AL_add0_23 ?_
  have hP9 := hP.sub (ws' := [(h0, .inr (9, [.ref a3, .int (iI 11), .int (iI (md + 1))])), (v0, .inr (4, vs)), (a3, .inl (cO, 15, .inr (.inr (.inr (.inr (va_up (va_cpy f (fun _ => none) 0 0 10) 10 (some v0)))))))]) [0, 1, 2] rfl
  have hD9 := hD.sub (ws' := [(h0, .inr (9, [.ref a3, .int (iI 11), .int (iI (md + 1))])), (v0, .inr (4, vs)), (a3, .inl (cO, 15, .inr (.inr (.inr (.inr (va_up (va_cpy f (fun _ => none) 0 0 10) 10 (some v0)))))))]) [0, 1, 2] (by decide) rfl
  exact W.zret hx hb hr (by decide) (fun t ht hW => ⟨⟨_, (), rfl, ⟨_, rfl, v⟩, a3, by rw [ht]; exact hP9, va_K.moved hW.alike hK, hD9⟩, hS.F ht⟩) hS.2.2 d_AL_add0_24

