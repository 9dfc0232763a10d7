/-! MODULE ArrayList: what writes -/
theorem Ev.inA {Z s : State} {ws : va_W} {q : Nat} (h : Ev Z s) (hD : va_D (fun q => Z.heap.size ≤ q) ws) (ha : va_A ws s.heap.size q) : Z.heap.size ≤ q := by
  rcases ha with ⟨k, x, hk⟩ | ha
  · exact hD.2 k _ hk
  · exact Nat.le_trans h.2.1 ha
theorem nv_rokn {D : va_G} {cl : List vw_C} {R W0 : va_W} {H : Heap} (hP : va_P D cl R H) (hne : ∀ q ∈ R, q.1 ∉ W0.map Prod.fst) : ∀ q ∈ R, ¬ va_A W0 H.size q.1 := by
  intro q hq h
  rcases nv_Amem.mp h with h | h
  · exact hne q hq h
  · exact absurd (nv_Pmem.mp hP q hq).lt (Nat.not_lt.mpr h)
theorem Ev.dc {qd mi : Nat} {Z s : State} {A : Nat → Prop} (hZ : EvZ qd mi Z) (h : Ev Z s) (hA : ∀ q, A q → Z.heap.size ≤ q) : va_Z "java/util/ArrayList" dcN "[Ljava/lang/Object;" (.ref qd) A s s.heap :=
  ((va_Z.moved h.1.alike hZ.2.2.1).kept (fun a ha _ => h.2.2 a ha)).narrow hA
theorem Ev.dt {qd mi : Nat} {Z s : State} {A : Nat → Prop} (hZ : EvZ qd mi Z) (h : Ev Z s) (hA : ∀ q, A q → Z.heap.size ≤ q) : va_T (.object "java/lang/Object") qd 0 (fun _ => .null) A s s.heap :=
  ((va_T.moved h.1.alike hZ.2.2.2.1).kept (fun a ha _ => h.2.2 a ha)).narrow hA
theorem blWE {D : va_G} {cl : List vw_C} {tys : List (ClassId × FieldType)} {ws : va_W} {av : List Value} {sz : Nat} {A : Nat → Prop} {Z : State} : FrameBlind (va_Pc av (fun U => U.heap.size = sz ∧ va_P D cl ws U.heap ∧ va_K D cl tys U ∧ va_D A ws ∧ Ev Z U)) := fun a U g mk q => by
  obtain ⟨q0, q1, qP, qK, qD, qE⟩ := q
  exact ⟨q0, q1, qP, va_K.moved (u := U) (U := U.calling g mk a) (Vm.Alike.refl U.vm) qK, qD, qE⟩
theorem blWR {D : va_G} {cl : List vw_C} {tys : List (ClassId × FieldType)} {ws rk : va_W} {av : List Value} {sz : Nat} {A : Nat → Prop} : FrameBlind (va_Pc av (fun U => U.heap.size = sz ∧ va_P D cl ws U.heap ∧ va_K D cl tys U ∧ va_D A ws ∧ va_P D cl rk U.heap)) := fun a U g mk q => by
  obtain ⟨q0, q1, qP, qK, qD, qE⟩ := q
  exact ⟨q0, q1, qP, va_K.moved (u := U) (U := U.calling g mk a) (Vm.Alike.refl U.vm) qK, qD, qE⟩
theorem blWER {D : va_G} {cl : List vw_C} {tys : List (ClassId × FieldType)} {ws rk : va_W} {av : List Value} {sz : Nat} {A : Nat → Prop} {Z : State} : FrameBlind (va_Pc av (fun U => U.heap.size = sz ∧ va_P D cl ws U.heap ∧ va_K D cl tys U ∧ va_D A ws ∧ Ev Z U ∧ va_P D cl rk U.heap)) := fun a U g mk q => by
  obtain ⟨q0, q1, qP, qK, qD, qE, qR⟩ := q
  exact ⟨q0, q1, qP, va_K.moved (u := U) (U := U.calling g mk a) (Vm.Alike.refl U.vm) qK, qD, qE, qR⟩
/-- arrays of Object are of one class -/
theorem one_arrO {D : va_G} {cl : List vw_C} {tys : List (ClassId × FieldType)} {s : State} {t0 : Nat} {cT cA : ClassId} {C : String} (hK : va_K D cl (tys ++ [(cA, .object C)]) s) (ht : tys[t0]? = some (cT, .object C)) : cA = cT := by
  have h1 := va_nmO (hK.2 tys.length (cA, .object C) (by simp)).2 rfl
  have hlt : t0 < tys.length := (List.getElem?_eq_some_iff.mp ht).1
  have h2 := va_nmO (hK.2 t0 (cT, .object C) (by rw [List.getElem?_append_left hlt]; exact ht)).2 rfl
  exact Option.some.inj (h1.symm.trans h2)
section NQ
variable {p : Program} {l : Launch} {e : Env} {R : Room} {s : State} {m : MethodId} {args : Array Value} {below : List Frame} {meth : Method} {c : Code} {H : Heap} {locs : List Loc} {cells slots : Nat} {Q : State → Prop}
variable {cc : ByteArray} {pc : Nat} {ls : Array Slot} {rest : List Value} {D : va_G} {cl : List vw_C} {A : Nat → Prop} {a : Nat} {tys : List (ClassId × FieldType)} {ws : va_W} {H0 : Heap}
theorem nv_newo (hexec : p.tables.exec = Jvm.exec) (hb : c.code = cc) {own : String} {index : Nat} (hown : s.vm.findClass own = some m.cls) (hclink : (Cond.classLink own index "java/lang/Object").before args s = true) (hover : va_AO "java/lang/Object" s) (hK : va_K D cl tys s) (hP : va_P D cl ws H) (hD : va_D A ws) (hS : va_S A H0 H locs) (hA : ∀ q, H0.size ≤ q → A q) (t0 : Nat) {cT : ClassId} (ht : tys[t0]? = some (cT, .object "java/lang/Object"))
    {z : Int} (N : Nat) (hz : z = (N : Int)) (hN : N ≤ 1000000) (hcells : cells + 1 ≤ R.cells) (hslots : slots + N ≤ R.slots) (hdg : decode cc pc = .ok (.anewarray index, 3))
    (kk : ∀ (q : Nat) (H1 : Heap), va_P D cl (ws ++ [(q, .inl (cT, N, .inr (.inr (.inr (.inr (fun _ => none))))))]) H1 → va_D A (ws ++ [(q, .inl (cT, N, .inr (.inr (.inr (.inr (fun _ => none))))))]) → va_S A H0 H1 locs →
      W p l e R s m args below meth c H1 locs (cells + 1) (slots + N) Q (F0 m (pc + 3) ls (.ref q :: rest))) : W p l e R s m args below meth c H locs cells slots Q (F0 m pc ls (.int (iI z) :: rest)) := by
  refine va_newq (N' := N) hexec hb hown hclink hover hK hP hD hS hA (by rw [iI_0, iI_lt ⟨by omega, by omega⟩ r0]; omega) (iI_clamp hz (by omega)) (by omega) hcells hslots hdg (fun q cA H1 h1 h2 h3 h4 => ?_)
  have e := one_arrO h1 ht
  subst e
  exact kk q H1 h2 h3 h4
theorem nv_asto (hexec : p.tables.exec = Jvm.exec) (hb : c.code = cc) (hK : va_K D cl tys s) (hP : va_P D cl ws H) (hD : va_D A ws) (hS : va_S A H0 H locs) (q0 t0 qk ci : Nat) {cA : ClassId} {r : vw_C} {n v : Nat} {vs : List Value} {f : Nat → Option Nat} (ha : ws[q0]? = some (a, .inl (cA, n, .inr (.inr (.inr (.inr f)))))) (ht : tys[t0]? = some (cA, .object "java/lang/Object")) (hca : va_Nw (.castable r.1 "java/lang/Object") s) (hv : ws[qk]? = some (v, .inr (ci, vs))) (hc : cl[ci]? = some r) {z : Int} (k : Nat) (hz : z = (k : Int)) (hk : k < n) (hn : n < 2147483648) (hdg : decode cc pc = .ok (.aastore, 1))
    (kk : ∀ (H1 : Heap) (locs1 : List Loc), va_P D cl (ws.set q0 (a, .inl (cA, n, .inr (.inr (.inr (.inr (va_up f k (some v)))))))) H1 → va_D A (ws.set q0 (a, .inl (cA, n, .inr (.inr (.inr (.inr (va_up f k (some v)))))))) → va_S A H0 H1 locs1 → W p l e R s m args below meth c H1 locs1 cells slots Q (F0 m (pc + 1) ls rest)) : W p l e R s m args below meth c H locs cells slots Q (F0 m pc ls (.ref v :: .int (iI z) :: .ref a :: rest)) := by
  refine va_astqO hexec hb hK hP hD hS q0 t0 qk ci ha ht hca hv hc (iI_in hz hk hn) hdg (fun H1 locs1 h1 h2 h3 => ?_)
  rw [iI_clamp hz (by omega)] at h1 h2
  exact kk H1 locs1 h1 h2 h3
end NQ
theorem d_AbC_init_0 : decode prog_23_method_1_code 0 = .ok (.aload_n 0, 1) := by decide +kernel
theorem d_AbC_init_1 : decode prog_23_method_1_code 1 = .ok (.invokespecial 1, 3) := by decide +kernel
theorem d_AbC_init_4 : decode prog_23_method_1_code 4 = .ok (.return_, 1) := by decide +kernel
def vc_AbC_init  (post : Prop) : Prop := post 
set_option maxHeartbeats 4000000 in
set_option maxRecDepth 100000 in
theorem m_AbC_init (l : Launch) (D : va_G) (cI cJ cO cZ : ClassId) (h0 : Nat) (sz : Nat)  (post : Prop) (v : vc_AbC_init  post) : Met l ⟨"java/util/AbstractCollection", "<init>", "()V"⟩ (.code ⟨"java/util/AbstractCollection", "<init>", "()V"⟩ prog_23_method_1_code 1 none :: TG) { frames := 1, cells := 0, slots := 0, locals := 24 } (va_Pc [.ref h0] (fun U => U.heap.size = sz ∧ va_P D vwCl [(h0, .inr (9, [.null, .int (iI 0), .int (iI 0)]))] U.heap ∧ va_K D vwCl (tyx cI cJ cO cZ) U ∧ va_D (fun _ => True) [(h0, .inr (9, [.null, .int (iI 0), .int (iI 0)]))])) (va_Qv (fun u : Unit => post ) (fun u t => va_P D vwCl [(h0, .inr (9, [.null, .int (iI 0), .int (iI 0)]))] t.heap ∧ va_K D vwCl (tyx cI cJ cO cZ) t ∧ va_D (va_A [(h0, .inr (9, [.null, .int (iI 0), .int (iI 0)]))] sz) [(h0, .inr (9, [.null, .int (iI 0), .int (iI 0)]))]) (va_A [(h0, .inr (9, [.null, .int (iI 0), .int (iI 0)]))] sz)) 0 0 (va_A [(h0, .inr (9, [.null, .int (iI 0), .int (iI 0)]))] sz) := by
  refine Met.ofW (cc := prog_23_method_1_code) (maxL := 1) (ret := none) (by decide) rfl ?_
  intro p e s m args below meth c s₁ B hml hv
  obtain ⟨rfl, hsz, hP, hK, hD0⟩ := hv
  have hx := B.exec
  have hb := B.bytes
  have hr := B.returns
  have hts0 := atoms_spec (ws := (.code ⟨"java/util/AbstractCollection", "<init>", "()V"⟩ prog_23_method_1_code 1 none :: TG)) B.pre
  have hts : ∀ w ∈ TG, w.before _ s = true := fun w h => hts0 w (List.mem_cons_of_mem _ h)
  have hown : s.vm.findClass "java/util/AbstractCollection" = some m.cls := findClass_of_methodNamed B.named
  have hlocks := B.notSynchronized
  have hin : meth.name = "<init>" := (name_of_methodNamed B.named B.method).1
  subst hsz
  have hD := hD0.self (sz := s.heap.size)
  generalize hAe : va_A [(h0, .inr (9, [.null, .int (iI 0), .int (iI 0)]))] s.heap.size = A at hD ⊢
  have hA : ∀ q : Nat, s.heap.size ≤ q → A q := fun q h => by rw [← hAe]; exact Or.inr h
  have hS : va_S A s.heap s.heap [] := va_S.rf
  have hP : va_P D vwCl [(h0, .inr (9, [.null, .int (iI 0), .int (iI 0)]))] s.heap := hP
  have hl := lv_entry ([Value.ref h0]) (n := 1) (Nat.le_of_ble_eq_true rfl)
  rw [lg_entry_eq]
  generalize (lg_sl ([Value.ref h0]) ++ List.replicate (1 - (lg_sl ([Value.ref h0])).length) Slot.unset).toArray = ls at hl ⊢
  have hl : lv_has ls 1 [(0, .ref h0)] := hl
  unfold vc_AbC_init at v
  obtain ⟨H, hH⟩ : ∃ H, H = s.heap := ⟨_, rfl⟩
  obtain ⟨locs, hlc⟩ : ∃ L : List Loc, L = [] := ⟨_, rfl⟩
  rw [← hlc] at hS ⊢
  have hP : va_P D vwCl [(h0, .inr (9, [.null, .int (iI 0), .int (iI 0)]))] H := by rw [hH]; exact hP
  have hS : va_S A s.heap H locs := by rw [hH]; exact hS
  have hW0 : ∀ {X : Heap → Prop}, X H → X s.heap := fun h => by rw [← hH]; exact h
  refine hW0 (X := fun Z => W p l e _ s m _ below meth c Z locs 0 0 _ _) ?_
  refine lv_aload_n hx hb d_AbC_init_0 rfl (lv_at hl 0 rfl) ?_
  refine W.objInit hx hb hown (hts _ wd_44) (hts _ wd_31) (hts _ wd_32) rfl (by rw [hml]; exact hl.1) rfl d_AbC_init_1 (Nat.le_of_ble_eq_true rfl) (Nat.le_of_ble_eq_true rfl) ?_
  refine W.eq (g2 := F0 m 4 ls []) rfl ?_
  have hP9 := hP.sub (ws' := [(h0, .inr (9, [.null, .int (iI 0), .int (iI 0)]))]) [0] rfl
  have hD9 := hD.sub (ws' := [(h0, .inr (9, [.null, .int (iI 0), .int (iI 0)]))]) [0] (by decide) rfl
  exact W.vret hx hb hr (fun t ht hW => ⟨⟨(), rfl, v, by rw [ht]; exact hP9, va_K.moved hW.alike hK, hD9⟩, hS.F ht⟩) hS.2.2 d_AbC_init_4

theorem d_AbL_init_0 : decode prog_24_method_1_code 0 = .ok (.aload_n 0, 1) := by decide +kernel
theorem d_AbL_init_1 : decode prog_24_method_1_code 1 = .ok (.invokespecial 1, 3) := by decide +kernel
theorem d_AbL_init_4 : decode prog_24_method_1_code 4 = .ok (.aload_n 0, 1) := by decide +kernel
theorem d_AbL_init_5 : decode prog_24_method_1_code 5 = .ok (.iconst 0, 1) := by decide +kernel
theorem d_AbL_init_6 : decode prog_24_method_1_code 6 = .ok (.putfield 7, 3) := by decide +kernel
theorem d_AbL_init_9 : decode prog_24_method_1_code 9 = .ok (.return_, 1) := by decide +kernel
def vc_AbL_init  (post : Prop) : Prop := ∃ P1 : Prop, vc_AbC_init P1 ∧ (P1  → post )
set_option maxHeartbeats 4000000 in
set_option maxRecDepth 100000 in
theorem m_AbL_init (l : Launch) (D : va_G) (cI cJ cO cZ : ClassId) (h0 : Nat) (sz : Nat)  (post : Prop) (v : vc_AbL_init  post) : Met l ⟨"java/util/AbstractList", "<init>", "()V"⟩ (.code ⟨"java/util/AbstractList", "<init>", "()V"⟩ prog_24_method_1_code 1 none :: TG) { frames := 2, cells := 0, slots := 0, locals := 44 } (va_Pc [.ref h0] (fun U => U.heap.size = sz ∧ va_P D vwCl [(h0, .inr (9, [.null, .int (iI 0), .int (iI 0)]))] U.heap ∧ va_K D vwCl (tyx cI cJ cO cZ) U ∧ va_D (fun _ => True) [(h0, .inr (9, [.null, .int (iI 0), .int (iI 0)]))])) (va_Qv (fun u : Unit => post ) (fun u t => va_P D vwCl [(h0, .inr (9, [.null, .int (iI 0), .int (iI 0)]))] t.heap ∧ va_K D vwCl (tyx cI cJ cO cZ) t ∧ va_D (va_A [(h0, .inr (9, [.null, .int (iI 0), .int (iI 0)]))] sz) [(h0, .inr (9, [.null, .int (iI 0), .int (iI 0)]))]) (va_A [(h0, .inr (9, [.null, .int (iI 0), .int (iI 0)]))] sz)) 0 0 (va_A [(h0, .inr (9, [.null, .int (iI 0), .int (iI 0)]))] sz) := by
  refine Met.ofW (cc := prog_24_method_1_code) (maxL := 1) (ret := none) (by decide) rfl ?_
  intro p e s m args below meth c s₁ B hml hv
  obtain ⟨rfl, hsz, hP, hK, hD0⟩ := hv
  have hx := B.exec
  have hb := B.bytes
  have hr := B.returns
  have hts0 := atoms_spec (ws := (.code ⟨"java/util/AbstractList", "<init>", "()V"⟩ prog_24_method_1_code 1 none :: TG)) B.pre
  have hts : ∀ w ∈ TG, w.before _ s = true := fun w h => hts0 w (List.mem_cons_of_mem _ h)
  have hown : s.vm.findClass "java/util/AbstractList" = some m.cls := findClass_of_methodNamed B.named
  have hlocks := B.notSynchronized
  have hin : meth.name = "<init>" := (name_of_methodNamed B.named B.method).1
  subst hsz
  have hD := hD0.self (sz := s.heap.size)
  generalize hAe : va_A [(h0, .inr (9, [.null, .int (iI 0), .int (iI 0)]))] s.heap.size = A at hD ⊢
  have hA : ∀ q : Nat, s.heap.size ≤ q → A q := fun q h => by rw [← hAe]; exact Or.inr h
  have hS : va_S A s.heap s.heap [] := va_S.rf
  have hP : va_P D vwCl [(h0, .inr (9, [.null, .int (iI 0), .int (iI 0)]))] s.heap := hP
  have hl := lv_entry ([Value.ref h0]) (n := 1) (Nat.le_of_ble_eq_true rfl)
  rw [lg_entry_eq]
  generalize (lg_sl ([Value.ref h0]) ++ List.replicate (1 - (lg_sl ([Value.ref h0])).length) Slot.unset).toArray = ls at hl ⊢
  have hl : lv_has ls 1 [(0, .ref h0)] := hl
  unfold vc_AbL_init at v
  obtain ⟨H, hH⟩ : ∃ H, H = s.heap := ⟨_, rfl⟩
  obtain ⟨locs, hlc⟩ : ∃ L : List Loc, L = [] := ⟨_, rfl⟩
  rw [← hlc] at hS ⊢
  have hP : va_P D vwCl [(h0, .inr (9, [.null, .int (iI 0), .int (iI 0)]))] H := by rw [hH]; exact hP
  have hS : va_S A s.heap H locs := by rw [hH]; exact hS
  have hW0 : ∀ {X : Heap → Prop}, X H → X s.heap := fun h => by rw [← hH]; exact h
  refine hW0 (X := fun Z => W p l e _ s m _ below meth c Z locs 0 0 _ _) ?_
  refine lv_aload_n hx hb d_AbL_init_0 rfl (lv_at hl 0 rfl) ?_
  obtain ⟨P1, q2, v⟩ := v
  have hPc := hP.sub (ws' := [(h0, .inr (9, [.null, .int (iI 0), .int (iI 0)]))]) [0] rfl
  have hDc := hD.sub (ws' := [(h0, .inr (9, [.null, .int (iI 0), .int (iI 0)]))]) [0] (by decide) rfl
  have hFc := va_free (wc := [(h0, .inr (9, [.null, .int (iI 0), .int (iI 0)]))]) hD hS hA [0] rfl
  refine va_callv (va_runI (As := []) (rest := []) ⟨hx, hb, hml, hown, hts⟩ (m_AbC_init l D cI cJ cO cZ h0 H.size    P1 q2) (cwI 0 hts (tg_good wd_43) rfl rfl rfl (hts _ wd_2) (hts _ wd_41) (hts _ wd_42) rfl (by decide +kernel) ⟨Nat.le_of_ble_eq_true rfl, Nat.le_of_ble_eq_true rfl⟩) ⟨blW, fun U hU hW => ⟨rfl, by rw [hU], by rw [hU]; exact hPc, va_K.moved hW.alike hK, hDc.weaken (fun _ _ _ _ => trivial)⟩⟩ rfl rfl hl.1 rfl (lv_room (Nat.le_of_ble_eq_true rfl)) d_AbL_init_1 ⟨Nat.le_of_ble_eq_true rfl, Nat.le_of_ble_eq_true rfl⟩) hS (fun q _ h => hFc q h) hFc (fun u t H1 locs ht hvm hw hB hz1 hk1 hS => ?_)
  obtain ⟨hP1, hK1, hD1⟩ := hB
  rw [ht] at hP1
  obtain ⟨hP, hD⟩ := va_join (wr := []) (w1 := [(h0, .inr (9, [.null, .int (iI 0), .int (iI 0)]))]) hP hD [0] [] rfl rfl (by decide) (by decide) hk1 hFc hP1 hD1
  generalize H1 = H at hP hS ⊢
  have hP : va_P D vwCl [(h0, .inr (9, [.null, .int (iI 0), .int (iI 0)]))] H := hP
  have hD : va_D A [(h0, .inr (9, [.null, .int (iI 0), .int (iI 0)]))] := hD
  refine W.widen (k := 0) (n := 0) (Nat.le_of_ble_eq_true rfl) (Nat.le_of_ble_eq_true rfl) ?_
  replace v := v hw
  refine lv_aload_n hx hb d_AbL_init_4 rfl (lv_at hl 0 rfl) ?_
  refine nv_iconst (n := 0) hx hb d_AbL_init_5 ?_
  refine va_put (D := D) (ci := 9) (v := .int (iI 0)) (ty := .int) (C := "java/util/ArrayList") (T := T_AL) (N := 3) hx hb hts in_AL t_AL tok_AL n_AL hown hK hP hD hS 0 rfl rfl 2 (by decide) (hts _ wd_49) (fun _ h9 => h9) rfl (by decide +kernel) rfl rfl (Nat.le_of_ble_eq_true rfl) d_AbL_init_6 (fun H locs hP hD hS => ?_)
  have hP : va_P D vwCl [(h0, .inr (9, [.null, .int (iI 0), .int (iI 0)]))] H := hP
  have hD : va_D A [(h0, .inr (9, [.null, .int (iI 0), .int (iI 0)]))] := hD
  have hP9 := hP.sub (ws' := [(h0, .inr (9, [.null, .int (iI 0), .int (iI 0)]))]) [0] rfl
  have hD9 := hD.sub (ws' := [(h0, .inr (9, [.null, .int (iI 0), .int (iI 0)]))]) [0] (by decide) rfl
  exact W.vret hx hb hr (fun t ht hW => ⟨⟨(), rfl, v, by rw [ht]; exact hP9, va_K.moved hW.alike hK, hD9⟩, hS.F ht⟩) hS.2.2 d_AbL_init_9

theorem d_AL_init_0 : decode prog_25_method_2_code 0 = .ok (.aload_n 0, 1) := by decide +kernel
theorem d_AL_init_1 : decode prog_25_method_2_code 1 = .ok (.invokespecial 1, 3) := by decide +kernel
theorem d_AL_init_4 : decode prog_25_method_2_code 4 = .ok (.aload_n 0, 1) := by decide +kernel
theorem d_AL_init_5 : decode prog_25_method_2_code 5 = .ok (.getstatic 39, 3) := by decide +kernel
theorem d_AL_init_8 : decode prog_25_method_2_code 8 = .ok (.putfield 9, 3) := by decide +kernel
theorem d_AL_init_11 : decode prog_25_method_2_code 11 = .ok (.return_, 1) := by decide +kernel
def vc_AL_init  (post : Prop) : Prop := ∃ P1 : Prop, vc_AbL_init P1 ∧ (P1  → post )
set_option maxHeartbeats 4000000 in
set_option maxRecDepth 100000 in
theorem m_AL_init (l : Launch) (D : va_G) (cI cJ cO cZ : ClassId) (qd mi : Nat) (Z : State) (hZ : EvZ qd mi Z) (h0 : Nat) (sz : Nat)  (post : Prop) (v : vc_AL_init  post) : Met l ⟨"java/util/ArrayList", "<init>", "()V"⟩ (.code ⟨"java/util/ArrayList", "<init>", "()V"⟩ prog_25_method_2_code 1 none :: TG) { frames := 3, cells := 0, slots := 0, locals := 64 } (va_Pc [.ref h0] (fun U => U.heap.size = sz ∧ va_P D vwCl [(h0, .inr (9, [.null, .int (iI 0), .int (iI 0)]))] U.heap ∧ va_K D vwCl (tyx cI cJ cO cZ) U ∧ va_D (fun q => Z.heap.size ≤ q) [(h0, .inr (9, [.null, .int (iI 0), .int (iI 0)]))] ∧ Ev Z U)) (va_Qv (fun u : Unit => post ) (fun u t => va_P D vwCl [(h0, .inr (9, [.ref qd, .int (iI 0), .int (iI 0)]))] t.heap ∧ va_K D vwCl (tyx cI cJ cO cZ) t ∧ va_D (va_A [(h0, .inr (9, [.null, .int (iI 0), .int (iI 0)]))] sz) [(h0, .inr (9, [.ref qd, .int (iI 0), .int (iI 0)]))]) (va_A [(h0, .inr (9, [.null, .int (iI 0), .int (iI 0)]))] sz)) 0 0 (va_A [(h0, .inr (9, [.null, .int (iI 0), .int (iI 0)]))] sz) := by
  refine Met.ofW (cc := prog_25_method_2_code) (maxL := 1) (ret := none) (by decide) rfl ?_
  intro p e s m args below meth c s₁ B hml hv
  obtain ⟨rfl, hsz, hP, hK, hD0, hE⟩ := hv
  have hx := B.exec
  have hb := B.bytes
  have hr := B.returns
  have hts0 := atoms_spec (ws := (.code ⟨"java/util/ArrayList", "<init>", "()V"⟩ prog_25_method_2_code 1 none :: TG)) B.pre
  have hts : ∀ w ∈ TG, w.before _ s = true := fun w h => hts0 w (List.mem_cons_of_mem _ h)
  have hown : s.vm.findClass "java/util/ArrayList" = some m.cls := findClass_of_methodNamed B.named
  have hlocks := B.notSynchronized
  have hin : meth.name = "<init>" := (name_of_methodNamed B.named B.method).1
  subst hsz
  have hD := hD0.self (sz := s.heap.size)
  have hAZ : ∀ q, va_A [(h0, .inr (9, [.null, .int (iI 0), .int (iI 0)]))] s.heap.size q → Z.heap.size ≤ q := fun q h => hE.inA hD0 h
  generalize hAe : va_A [(h0, .inr (9, [.null, .int (iI 0), .int (iI 0)]))] s.heap.size = A at hD hAZ ⊢
  have hA : ∀ q : Nat, s.heap.size ≤ q → A q := fun q h => by rw [← hAe]; exact Or.inr h
  have hS : va_S A s.heap s.heap [] := va_S.rf
  have hP : va_P D vwCl [(h0, .inr (9, [.null, .int (iI 0), .int (iI 0)]))] s.heap := hP
  have hl := lv_entry ([Value.ref h0]) (n := 1) (Nat.le_of_ble_eq_true rfl)
  rw [lg_entry_eq]
  generalize (lg_sl ([Value.ref h0]) ++ List.replicate (1 - (lg_sl ([Value.ref h0])).length) Slot.unset).toArray = ls at hl ⊢
  have hl : lv_has ls 1 [(0, .ref h0)] := hl
  unfold vc_AL_init at v
  obtain ⟨H, hH⟩ : ∃ H, H = s.heap := ⟨_, rfl⟩
  obtain ⟨locs, hlc⟩ : ∃ L : List Loc, L = [] := ⟨_, rfl⟩
  rw [← hlc] at hS ⊢
  have hP : va_P D vwCl [(h0, .inr (9, [.null, .int (iI 0), .int (iI 0)]))] H := by rw [hH]; exact hP
  have hS : va_S A s.heap H locs := by rw [hH]; exact hS
  have hW0 : ∀ {X : Heap → Prop}, X H → X s.heap := fun h => by rw [← hH]; exact h
  refine hW0 (X := fun Z => W p l e _ s m _ below meth c Z locs 0 0 _ _) ?_
  refine lv_aload_n hx hb d_AL_init_0 rfl (lv_at hl 0 rfl) ?_
  obtain ⟨P1, q2, v⟩ := v
  have hPc := hP.sub (ws' := [(h0, .inr (9, [.null, .int (iI 0), .int (iI 0)]))]) [0] rfl
  have hDc := hD.sub (ws' := [(h0, .inr (9, [.null, .int (iI 0), .int (iI 0)]))]) [0] (by decide) rfl
  have hFc := va_free (wc := [(h0, .inr (9, [.null, .int (iI 0), .int (iI 0)]))]) hD hS hA [0] rfl
  refine va_callv (va_runI (As := []) (rest := []) ⟨hx, hb, hml, hown, hts⟩ (m_AbL_init l D cI cJ cO cZ h0 H.size    P1 q2) (cwI 0 hts (tg_good wd_40) rfl rfl rfl (hts _ wd_3) (hts _ wd_38) (hts _ wd_39) rfl (by decide +kernel) ⟨Nat.le_of_ble_eq_true rfl, Nat.le_of_ble_eq_true rfl⟩) ⟨blW, fun U hU hW => ⟨rfl, by rw [hU], by rw [hU]; exact hPc, va_K.moved hW.alike hK, hDc.weaken (fun _ _ _ _ => trivial)⟩⟩ rfl rfl hl.1 rfl (lv_room (Nat.le_of_ble_eq_true rfl)) d_AL_init_1 ⟨Nat.le_of_ble_eq_true rfl, Nat.le_of_ble_eq_true rfl⟩) hS (fun q _ h => hFc q h) hFc (fun u t H1 locs ht hvm hw hB hz1 hk1 hS => ?_)
  obtain ⟨hP1, hK1, hD1⟩ := hB
  rw [ht] at hP1
  obtain ⟨hP, hD⟩ := va_join (wr := []) (w1 := [(h0, .inr (9, [.null, .int (iI 0), .int (iI 0)]))]) hP hD [0] [] rfl rfl (by decide) (by decide) hk1 hFc hP1 hD1
  generalize H1 = H at hP hS ⊢
  have hP : va_P D vwCl [(h0, .inr (9, [.null, .int (iI 0), .int (iI 0)]))] H := hP
  have hD : va_D A [(h0, .inr (9, [.null, .int (iI 0), .int (iI 0)]))] := hD
  refine W.widen (k := 0) (n := 0) (Nat.le_of_ble_eq_true rfl) (Nat.le_of_ble_eq_true rfl) ?_
  replace v := v hw
  refine lv_aload_n hx hb d_AL_init_4 rfl (lv_at hl 0 rfl) ?_
  refine va_gets hx hb (hE.dc hZ hAZ) hS hown (hts _ wd_45) (fun _ h9 => h9) d_AL_init_5 ?_
  refine va_put (D := D) (ci := 9) (v := .ref qd) (ty := .array (.object "java/lang/Object")) (C := "java/util/ArrayList") (T := T_AL) (N := 3) hx hb hts in_AL t_AL tok_AL n_AL hown hK hP hD hS 0 rfl rfl 0 (by decide) (hts _ wd_47) (fun _ h9 => h9) rfl (by decide +kernel) rfl rfl (Nat.le_of_ble_eq_true rfl) d_AL_init_8 (fun H locs hP hD hS => ?_)
  have hP : va_P D vwCl [(h0, .inr (9, [.ref qd, .int (iI 0), .int (iI 0)]))] H := hP
  have hD : va_D A [(h0, .inr (9, [.ref qd, .int (iI 0), .int (iI 0)]))] := hD
  have hP9 := hP.sub (ws' := [(h0, .inr (9, [.ref qd, .int (iI 0), .int (iI 0)]))]) [0] rfl
  have hD9 := hD.sub (ws' := [(h0, .inr (9, [.ref qd, .int (iI 0), .int (iI 0)]))]) [0] (by decide) rfl
  exact W.vret hx hb hr (fun t ht hW => ⟨⟨(), rfl, v, by rw [ht]; exact hP9, va_K.moved hW.alike hK, hD9⟩, hS.F ht⟩) hS.2.2 d_AL_init_11

theorem d_Ars_fill_0 : decode prog_26_method_103_code 0 = .ok (.iconst 0, 1) := by decide +kernel
theorem d_Ars_fill_1 : decode prog_26_method_103_code 1 = .ok (.istore_n 2, 1) := by decide +kernel
theorem d_Ars_fill_2 : decode prog_26_method_103_code 2 = .ok (.aload_n 0, 1) := by decide +kernel
theorem d_Ars_fill_3 : decode prog_26_method_103_code 3 = .ok (.arraylength, 1) := by decide +kernel
theorem d_Ars_fill_4 : decode prog_26_method_103_code 4 = .ok (.istore_n 3, 1) := by decide +kernel
theorem d_Ars_fill_5 : decode prog_26_method_103_code 5 = .ok (.iload_n 2, 1) := by decide +kernel
theorem d_Ars_fill_6 : decode prog_26_method_103_code 6 = .ok (.iload_n 3, 1) := by decide +kernel
theorem d_Ars_fill_7 : decode prog_26_method_103_code 7 = .ok (.if_icmp .ge 13, 3) := by decide +kernel
theorem d_Ars_fill_10 : decode prog_26_method_103_code 10 = .ok (.aload_n 0, 1) := by decide +kernel
theorem d_Ars_fill_11 : decode prog_26_method_103_code 11 = .ok (.iload_n 2, 1) := by decide +kernel
theorem d_Ars_fill_12 : decode prog_26_method_103_code 12 = .ok (.iload_n 1, 1) := by decide +kernel
theorem d_Ars_fill_13 : decode prog_26_method_103_code 13 = .ok (.iastore, 1) := by decide +kernel
theorem d_Ars_fill_14 : decode prog_26_method_103_code 14 = .ok (.iinc 2 1, 3) := by decide +kernel
theorem d_Ars_fill_17 : decode prog_26_method_103_code 17 = .ok (.goto (-12), 3) := by decide +kernel
theorem d_Ars_fill_20 : decode prog_26_method_103_code 20 = .ok (.return_, 1) := by decide +kernel
def vc_Ars_fill (f : Nat → Int) (vl : Int) (post : (Nat → Int) → Prop) : Prop := ∃ (I1 : Int → (Nat → Int) → Prop) (μ2 : Int → (Nat → Int) → Nat), I1 0 f ∧ ∀ (i : Int) (g : Nat → Int), I1 i g → (r32 i) ∧ ((6 ≤ i → post g) ∧ (i < 6 → (0 ≤ i ∧ i < 6) ∧ (I1 (i + 1) (va_up g (i).toNat vl) ∧ μ2 (i + 1) (va_up g (i).toNat vl) < μ2 i g)))
set_option maxHeartbeats 4000000 in
set_option maxRecDepth 100000 in
theorem m_Ars_fill (l : Launch) (D : va_G) (cI cJ cO cZ : ClassId) (h0 : Nat) (sz : Nat) (f : Nat → Int) (vl : Int) (post : (Nat → Int) → Prop) (v : vc_Ars_fill f vl post) : Met l ⟨"java/util/Arrays", "fill", "([II)V"⟩ (.code ⟨"java/util/Arrays", "fill", "([II)V"⟩ prog_26_method_103_code 4 none :: TG) { frames := 0, cells := 0, slots := 0, locals := 0 } (va_Pc [.ref h0, .int (iI vl)] (fun U => U.heap.size = sz ∧ va_P D vwCl [(h0, .inl (cI, 6, .inl (fun k => iI (f k))))] U.heap ∧ va_K D vwCl (tyx cI cJ cO cZ) U ∧ va_D (fun _ => True) [(h0, .inl (cI, 6, .inl (fun k => iI (f k))))])) (va_Qv (fun u : (Nat → Int) => post u) (fun u t => va_P D vwCl [(h0, .inl (cI, 6, .inl (fun k => iI (u k))))] t.heap ∧ va_K D vwCl (tyx cI cJ cO cZ) t ∧ va_D (va_A [(h0, .inl (cI, 6, .inl (fun k => iI (f k))))] sz) [(h0, .inl (cI, 6, .inl (fun k => iI (u k))))]) (va_A [(h0, .inl (cI, 6, .inl (fun k => iI (f k))))] sz)) 0 0 (va_A [(h0, .inl (cI, 6, .inl (fun k => iI (f k))))] sz) := by
  refine Met.ofW (cc := prog_26_method_103_code) (maxL := 4) (ret := none) (by decide) rfl ?_
  intro p e s m args below meth c s₁ B hml hv
  obtain ⟨rfl, hsz, hP, hK, hD0⟩ := hv
  have hx := B.exec
  have hb := B.bytes
  have hr := B.returns
  have hts0 := atoms_spec (ws := (.code ⟨"java/util/Arrays", "fill", "([II)V"⟩ prog_26_method_103_code 4 none :: TG)) B.pre
  have hts : ∀ w ∈ TG, w.before _ s = true := fun w h => hts0 w (List.mem_cons_of_mem _ h)
  have hown : s.vm.findClass "java/util/Arrays" = some m.cls := findClass_of_methodNamed B.named
  have hlocks := B.notSynchronized
  subst hsz
  have hD := hD0.self (sz := s.heap.size)
  generalize hAe : va_A [(h0, .inl (cI, 6, .inl (fun k => iI (f k))))] s.heap.size = A at hD ⊢
  have hA : ∀ q : Nat, s.heap.size ≤ q → A q := fun q h => by rw [← hAe]; exact Or.inr h
  have hS : va_S A s.heap s.heap [] := va_S.rf
  have hP : va_P D vwCl [(h0, .inl (cI, 6, .inl (fun k => iI (f k))))] s.heap := hP
  have hl := lv_entry ([Value.ref h0, Value.int (iI vl)]) (n := 4) (Nat.le_of_ble_eq_true rfl)
  rw [lg_entry_eq]
  generalize (lg_sl ([Value.ref h0, Value.int (iI vl)]) ++ List.replicate (4 - (lg_sl ([Value.ref h0, Value.int (iI vl)])).length) Slot.unset).toArray = ls at hl ⊢
  have hl : lv_has ls 4 [(0, .ref h0), (1, .int (iI vl))] := hl
  unfold vc_Ars_fill at v
  obtain ⟨H, hH⟩ : ∃ H, H = s.heap := ⟨_, rfl⟩
  obtain ⟨locs, hlc⟩ : ∃ L : List Loc, L = [] := ⟨_, rfl⟩
  rw [← hlc] at hS ⊢
  have hP : va_P D vwCl [(h0, .inl (cI, 6, .inl (fun k => iI (f k))))] H := by rw [hH]; exact hP
  have hS : va_S A s.heap H locs := by rw [hH]; exact hS
  have hW0 : ∀ {X : Heap → Prop}, X H → X s.heap := fun h => by rw [← hH]; exact h
  refine hW0 (X := fun Z => W p l e _ s m _ below meth c Z locs 0 0 _ _) ?_
  refine nv_iconst (n := 0) hx hb d_Ars_fill_0 ?_
  refine lv_istore_n (lv' := [(2, .int (iI 0)), (0, .ref h0), (1, .int (iI vl))]) hx hb d_Ars_fill_1 rfl hl (by decide) rfl (fun ls hl => ?_)
  refine lv_aload_n hx hb d_Ars_fill_2 rfl (lv_at hl 1 rfl) ?_
  refine va_alen hx hb hK hP 0 0 rfl rfl (v := iI (((6 : Nat) : Int) : Int)) (iI_nat _).symm d_Ars_fill_3 ?_
  refine nv_eqi (y := iI 6) rfl ?_
  refine lv_istore_n (lv' := [(3, .int (iI 6)), (2, .int (iI 0)), (0, .ref h0), (1, .int (iI vl))]) hx hb d_Ars_fill_4 rfl hl (by decide) rfl (fun ls hl => ?_)
  obtain ⟨I1, μ2, v8, v9⟩ := v
  have L10 : ∀ (N : Nat) (i : Int) (g : Nat → Int) (H : Heap) (locs : List Loc) (ls : Array Slot), μ2 i g < N → I1 i g → va_P D vwCl [(h0, .inl (cI, 6, .inl (fun k => iI (g k))))] H → va_D A [(h0, .inl (cI, 6, .inl (fun k => iI (g k))))] → va_S A s.heap H locs → lv_has ls 4 [(0, .ref h0), (1, .int (iI vl)), (2, .int (iI i)), (3, .int (iI 6))] → W p l e (headSpec (.code ⟨"java/util/Arrays", "fill", "([II)V"⟩ prog_26_method_103_code 4 none :: TG) { frames := 0, cells := 0, slots := 0, locals := 0 }).room s m ([Value.ref h0, Value.int (iI vl)] : List Value).toArray below meth c H locs 0 0 (MQ below (va_Qv (fun u : (Nat → Int) => post u) (fun u t => va_P D vwCl [(h0, .inl (cI, 6, .inl (fun k => iI (u k))))] t.heap ∧ va_K D vwCl (tyx cI cJ cO cZ) t ∧ va_D A [(h0, .inl (cI, 6, .inl (fun k => iI (u k))))]) A) ([Value.ref h0, Value.int (iI vl)] : List Value).toArray s 0 0 A) (F0 m 5 ls []) := by
    intro N
    induction N with
    | zero => intro i g H locs ls hN; exact absurd hN (Nat.not_lt_zero _)
    | succ N ih3 =>
      intro i g H locs ls hN4 hI hP hD hS hl
      have v := v9 i g hI
      refine lv_iload_n hx hb d_Ars_fill_5 rfl (lv_at hl 2 rfl) ?_
      refine lv_iload_n hx hb d_Ars_fill_6 rfl (lv_at hl 3 rfl) ?_
      obtain ⟨k5, v⟩ := v
      refine nv_icmp_ge (tgt := 20) hx hb d_Ars_fill_7 (by decide) k5 (by decide) (fun c6 => ?_) (fun c6 => ?_)
      · replace v := v.1 c6
        have hP9 := hP.sub (ws' := [(h0, .inl (cI, 6, .inl (fun k => iI (g k))))]) [0] rfl
        have hD9 := hD.sub (ws' := [(h0, .inl (cI, 6, .inl (fun k => iI (g k))))]) [0] (by decide) rfl
        exact W.vret hx hb hr (fun t ht hW => ⟨⟨((g)), rfl, v, by rw [ht]; exact hP9, va_K.moved hW.alike hK, hD9⟩, hS.F ht⟩) hS.2.2 d_Ars_fill_20
      · replace v := v.2 c6
        refine lv_aload_n hx hb d_Ars_fill_10 rfl (lv_at hl 0 rfl) ?_
        refine lv_iload_n hx hb d_Ars_fill_11 rfl (lv_at hl 2 rfl) ?_
        refine lv_iload_n hx hb d_Ars_fill_12 rfl (lv_at hl 1 rfl) ?_
        obtain ⟨k7, v⟩ := v
        refine nv_iast (f := g) hx hb hK hP hD hS 0 0 rfl rfl (i).toNat (Int.toNat_of_nonneg k7.1).symm (by omega) (by decide) d_Ars_fill_13 (fun H locs hP hD hS => ?_)
        have hP : va_P D vwCl [(h0, .inl (cI, 6, .inl (fun k => iI ((va_up g (i).toNat vl) k))))] H := hP
        have hD : va_D A [(h0, .inl (cI, 6, .inl (fun k => iI ((va_up g (i).toNat vl) k))))] := hD
        refine nv_iinc (k := 2) (z := i + 1) (lv' := [(2, .int (iI (i + 1))), (0, .ref h0), (1, .int (iI vl)), (3, .int (iI 6))]) hx hb d_Ars_fill_14 hl rfl (by omega) (by decide) rfl (fun ls hl => ?_)
        refine lv_goto (tgt := 5) hx hb d_Ars_fill_17 (by decide) ?_
        exact ih3 (i + 1) (va_up g (i).toNat vl) H locs ls (Nat.lt_of_lt_of_le v.2 (Nat.le_of_lt_succ hN4)) v.1 hP hD hS (lv_sub hl [1, 2, 0, 3] rfl)
  exact L10 _ 0 f H locs ls (Nat.lt_succ_self _) v8 hP hD hS (lv_sub hl [2, 3, 1, 0] rfl)

