/-! WORLDS: lists of cells by membership and up to order; pools of cells; a call's frame with a rest of any kind. -/
theorem nv_Pmem {D : va_G} {cl : List vw_C} {ws : va_W} {H : Heap} : va_P D cl ws H ↔ ∀ q ∈ ws, va_at D cl q H := by
  constructor
  · intro h q hq
    obtain ⟨k, hk, e⟩ := List.mem_iff_getElem.mp hq
    exact h k q (by rw [List.getElem?_eq_getElem hk, e])
  · intro h k q hq
    exact h q (List.mem_of_getElem? hq)
theorem nv_one {D : va_G} {cl : List vw_C} {q : Nat × va_E} {H : Heap} (h : va_at D cl q H) : va_P D cl [q] H := nv_Pmem.mpr (fun x hx => by
  rw [List.mem_singleton] at hx; rw [hx]; exact h)
theorem nv_Dmem {A : Nat → Prop} {ws : va_W} : va_D A ws ↔ (ws.map Prod.fst).Nodup ∧ ∀ q ∈ ws, A q.1 := by
  constructor
  · intro h
    refine ⟨?_, fun q hq => ?_⟩
    · rw [List.Nodup, List.pairwise_iff_getElem]
      intro i j hi hj hij heq
      simp only [List.length_map] at hi hj
      simp only [List.getElem_map] at heq
      have := h.1 i j ws[i] ws[j] (List.getElem?_eq_getElem hi) (List.getElem?_eq_getElem hj) heq
      omega
    · obtain ⟨k, hk, e⟩ := List.mem_iff_getElem.mp hq
      exact h.2 k q (by rw [List.getElem?_eq_getElem hk, e])
  · intro ⟨h1, h2⟩
    rw [List.Nodup, List.pairwise_iff_getElem] at h1
    refine ⟨fun i j p q hp hq hpq => ?_, fun k q hq => h2 q (List.mem_of_getElem? hq)⟩
    obtain ⟨hi, ei⟩ := List.getElem?_eq_some_iff.mp hp
    obtain ⟨hj, ej⟩ := List.getElem?_eq_some_iff.mp hq
    rcases Nat.lt_trichotomy i j with h | h | h
    · refine (h1 i j (by simpa using hi) (by simpa using hj) h ?_).elim
      simp only [List.getElem_map, ei, ej]; exact hpq
    · exact h
    · refine (h1 j i (by simpa using hj) (by simpa using hi) h ?_).elim
      simp only [List.getElem_map, ei, ej]; exact hpq.symm
theorem nv_Pperm {D : va_G} {cl : List vw_C} {ws ws' : va_W} {H : Heap} (h : va_P D cl ws H) (p : ws.Perm ws') : va_P D cl ws' H := nv_Pmem.mpr (fun q hq => nv_Pmem.mp h q (p.mem_iff.mpr hq))
theorem nv_Dperm {A : Nat → Prop} {ws ws' : va_W} (h : va_D A ws) (p : ws.Perm ws') : va_D A ws' := by
  obtain ⟨h1, h2⟩ := nv_Dmem.mp h
  exact nv_Dmem.mpr ⟨((p.map Prod.fst).nodup_iff).mp h1, fun q hq => h2 q (p.mem_iff.mpr hq)⟩
theorem nv_Papp {D : va_G} {cl : List vw_C} {w1 w2 : va_W} {H : Heap} : va_P D cl (w1 ++ w2) H ↔ va_P D cl w1 H ∧ va_P D cl w2 H := by
  simp only [nv_Pmem, List.mem_append]
  exact ⟨fun h => ⟨fun q hq => h q (Or.inl hq), fun q hq => h q (Or.inr hq)⟩, fun h q hq => hq.elim (h.1 q) (h.2 q)⟩
theorem nv_Dleft {A : Nat → Prop} {w1 w2 : va_W} (h : va_D A (w1 ++ w2)) : va_D A w1 := by
  obtain ⟨h1, h2⟩ := nv_Dmem.mp h
  rw [List.map_append, List.nodup_append] at h1
  exact nv_Dmem.mpr ⟨h1.1, fun q hq => h2 q (List.mem_append_left _ hq)⟩
theorem nv_Dright {A : Nat → Prop} {w1 w2 : va_W} (h : va_D A (w1 ++ w2)) : va_D A w2 := by
  obtain ⟨h1, h2⟩ := nv_Dmem.mp h
  rw [List.map_append, List.nodup_append] at h1
  exact nv_Dmem.mpr ⟨h1.2.1, fun q hq => h2 q (List.mem_append_right _ hq)⟩
/-- the cells that a world's list names, and those from sz on -/
theorem nv_Amem {ws : va_W} {sz q : Nat} : va_A ws sz q ↔ q ∈ ws.map Prod.fst ∨ sz ≤ q := by
  constructor
  · rintro (⟨k, e, h⟩ | h)
    · exact Or.inl (List.mem_map.mpr ⟨(q, e), List.mem_of_getElem? h, rfl⟩)
    · exact Or.inr h
  · rintro (h | h)
    · obtain ⟨x, hx, rfl⟩ := List.mem_map.mp h
      obtain ⟨k, hk, e⟩ := List.mem_iff_getElem.mp hx
      exact Or.inl ⟨k, x.2, by rw [List.getElem?_eq_getElem hk, e]⟩
    · exact Or.inr h
/-- the cells that a callee may change are the caller's own -/
theorem nv_free {A0 : Nat → Prop} {wc wr : va_W} {H0 H : Heap} {locs : List Loc} (hD : va_D A0 (wc ++ wr)) (hS : va_S A0 H0 H locs) (hA : ∀ q, H0.size ≤ q → A0 q) : ∀ q, va_A wc H.size q → A0 q := by
  intro q h
  rcases nv_Amem.mp h with h | h
  · obtain ⟨x, hx, rfl⟩ := List.mem_map.mp h
    exact (nv_Dmem.mp hD).2 x (List.mem_append_left _ hx)
  · exact hA q (Nat.le_trans hS.1 h)
/-- behind a call on the cells wc: what the callee left, and the rest as it was -/
theorem nv_join {A0 : Nat → Prop} {D : va_G} {cl : List vw_C} {wc wr w1 : va_W} {H H1 : Heap} (hP : va_P D cl (wc ++ wr) H) (hD : va_D A0 (wc ++ wr))
    (hk : ∀ q : Nat, q < H.size → ¬ va_A wc H.size q → H1[q]? = H[q]?) (hF : ∀ q, va_A wc H.size q → A0 q) (hP1 : va_P D cl w1 H1) (hD1 : va_D (va_A wc H.size) w1) : va_P D cl (w1 ++ wr) H1 ∧ va_D A0 (w1 ++ wr) := by
  obtain ⟨hn, hm⟩ := nv_Dmem.mp hD
  obtain ⟨hn1, hm1⟩ := nv_Dmem.mp hD1
  rw [List.map_append, List.nodup_append] at hn
  have hPr := (nv_Papp.mp hP).2
  have lt : ∀ q ∈ wr, q.1 < H.size := fun q hq => (nv_Pmem.mp hPr q hq).lt
  have out : ∀ q ∈ wr, ¬ va_A wc H.size q.1 := fun q hq h => by
    rcases nv_Amem.mp h with h | h
    · exact hn.2.2 q.1 h q.1 (List.mem_map.mpr ⟨q, hq, rfl⟩) rfl
    · exact absurd (lt q hq) (Nat.not_lt.mpr h)
  refine ⟨nv_Papp.mpr ⟨hP1, nv_Pmem.mpr (fun q hq => (nv_Pmem.mp hPr q hq).kept (hk q.1 (lt q hq) (out q hq)))⟩, nv_Dmem.mpr ⟨?_, fun q hq => ?_⟩⟩
  · rw [List.map_append, List.nodup_append]
    refine ⟨hn1, hn.2.1, fun a ha b hb hab => ?_⟩
    obtain ⟨x, hx, rfl⟩ := List.mem_map.mp ha
    obtain ⟨y, hy, rfl⟩ := List.mem_map.mp hb
    exact out y hy (by rw [← hab]; exact hm1 x hx)
  · rcases List.mem_append.mp hq with h | h
    · exact hF _ (hm1 q h)
    · exact hm q (List.mem_append_right _ h)
/-- a pool: the cells of n things, thing after thing -/
def pool (g : Nat → va_W) (n : Nat) : va_W := (List.range n).flatMap g
def poolBut (g : Nat → va_W) (n i : Nat) : va_W := ((List.range n).filter (fun j => decide (j ≠ i))).flatMap g
theorem pool_zero (g : Nat → va_W) : pool g 0 = [] := rfl
theorem pool_succ (g : Nat → va_W) (n : Nat) : pool g (n + 1) = pool g n ++ g n := by
  simp [pool, List.range_succ, List.flatMap_append]
theorem pool_congr {g g' : Nat → va_W} {n : Nat} (h : ∀ j, j < n → g j = g' j) : pool g n = pool g' n := by
  induction n with
  | zero => rfl
  | succ n ih => rw [pool_succ, pool_succ, ih (fun j hj => h j (by omega)), h n (by omega)]
theorem poolBut_succ (g : Nat → va_W) (n i : Nat) : poolBut g (n + 1) i = poolBut g n i ++ (if n = i then [] else g n) := by
  unfold poolBut
  rw [List.range_succ, List.filter_append, List.flatMap_append]
  by_cases h : n = i <;> simp [h]
theorem poolBut_ge (g : Nat → va_W) {n i : Nat} (h : n ≤ i) : poolBut g n i = pool g n := by
  induction n with
  | zero => rfl
  | succ n ih => rw [poolBut_succ, pool_succ, ih (by omega), if_neg (by omega)]
theorem poolBut_congr {g g' : Nat → va_W} {n i : Nat} (h : ∀ j, j < n → j ≠ i → g j = g' j) : poolBut g n i = poolBut g' n i := by
  induction n with
  | zero => rfl
  | succ n ih =>
    rw [poolBut_succ, poolBut_succ, ih (fun j hj hne => h j (by omega) hne)]
    by_cases hn : n = i
    · simp [hn]
    · simp [hn, h n (by omega) hn]
theorem pool_split (g : Nat → va_W) {n i : Nat} (h : i < n) : (pool g n).Perm (g i ++ poolBut g n i) := by
  induction n with
  | zero => omega
  | succ n ih =>
    rw [pool_succ, poolBut_succ]
    by_cases hn : n = i
    · subst hn
      rw [if_pos rfl, List.append_nil, poolBut_ge g (Nat.le_refl n)]
      exact List.perm_append_comm
    · rw [if_neg hn, ← List.append_assoc]
      exact (ih (by omega)).append_right _
theorem pool_put {g g' : Nat → va_W} {n i : Nat} (h : i < n) (hg : ∀ j, j < n → j ≠ i → g j = g' j) : (g' i ++ poolBut g n i).Perm (pool g' n) := by
  rw [poolBut_congr hg]
  exact (pool_split g' h).symm
theorem pool_mem {g : Nat → va_W} {n i : Nat} {q : Nat × va_E} (h : i < n) (hq : q ∈ g i) : q ∈ pool g n := by
  unfold pool
  exact List.mem_flatMap.mpr ⟨i, List.mem_range.mpr h, hq⟩
/-- arrays of ints and longs, their contents as integers -/
theorem nv_upd (f : Nat → Int) (i : Nat) (z : Int) : upd (fun k => iI (f k)) i (iI z) = fun k => iI (va_up f i z k) := by
  funext k
  simp only [upd, va_up]
  split <;> rfl
theorem nv_updL (f : Nat → Int) (i : Nat) (z : Int) : vp_updL (fun k => lI (f k)) i (lI z) = fun k => lI (va_up f i z k) := by
  funext k
  simp only [vp_updL, va_up]
  split <;> rfl
section NA
variable {p : Program} {l : Launch} {e : Env} {R : Room} {s : State} {m : MethodId} {args : Array Value} {below : List Frame} {meth : Method} {c : Code} {H : Heap} {locs : List Loc} {cells slots : Nat} {Q : State → Prop}
variable {cc : ByteArray} {pc : Nat} {ls : Array Slot} {rest : List Value} {D : va_G} {cl : List vw_C} {A : Nat → Prop} {a : Nat} {tys : List (ClassId × FieldType)} {ws : va_W} {H0 : Heap}
theorem nv_iald (hexec : p.tables.exec = Jvm.exec) (hb : c.code = cc) (hK : va_K D cl tys s) (t0 : Nat) {cA : ClassId} {n : Nat} {f : Nat → Int} (ha : va_at D cl (a, .inl (cA, n, .inl (fun k => iI (f k)))) H) (ht : tys[t0]? = some (cA, .int)) {z : Int} (k : Nat) (hz : z = (k : Int)) (hk : k < n) (hn : n < 2147483648) (hdg : decode cc pc = .ok (.iaload, 1))
    (kk : W p l e R s m args below meth c H locs cells slots Q (F0 m (pc + 1) ls (.int (iI (f k)) :: rest))) : W p l e R s m args below meth c H locs cells slots Q (F0 m pc ls (.int (iI z) :: .ref a :: rest)) :=
  va_iald hexec hb hK (nv_one ha) 0 t0 rfl ht (iI_in hz hk hn) hdg (by rw [iI_clamp hz (by omega)]; exact kk)
theorem nv_lald (hexec : p.tables.exec = Jvm.exec) (hb : c.code = cc) (hK : va_K D cl tys s) (t0 : Nat) {cA : ClassId} {n : Nat} {f : Nat → Int} (ha : va_at D cl (a, .inl (cA, n, .inr (.inl (fun k => lI (f k))))) H) (ht : tys[t0]? = some (cA, .long)) {z : Int} (k : Nat) (hz : z = (k : Int)) (hk : k < n) (hn : n < 2147483648) (hdg : decode cc pc = .ok (.laload, 1))
    (kk : W p l e R s m args below meth c H locs cells slots Q (F0 m (pc + 1) ls (.long (lI (f k)) :: rest))) : W p l e R s m args below meth c H locs cells slots Q (F0 m pc ls (.int (iI z) :: .ref a :: rest)) :=
  va_lald hexec hb hK (nv_one ha) 0 t0 rfl ht (iI_in hz hk hn) hdg (by rw [iI_clamp hz (by omega)]; exact kk)
theorem nv_iast (hexec : p.tables.exec = Jvm.exec) (hb : c.code = cc) (hK : va_K D cl tys s) (hP : va_P D cl ws H) (hD : va_D A ws) (hS : va_S A H0 H locs) (q0 t0 : Nat) {cA : ClassId} {n : Nat} {f : Nat → Int} (ha : ws[q0]? = some (a, .inl (cA, n, .inl (fun k => iI (f k))))) (ht : tys[t0]? = some (cA, .int)) {z x : Int} (k : Nat) (hz : z = (k : Int)) (hk : k < n) (hn : n < 2147483648) (hdg : decode cc pc = .ok (.iastore, 1))
    (kk : ∀ (H1 : Heap) (locs1 : List Loc), va_P D cl (ws.set q0 (a, .inl (cA, n, .inl (fun j => iI (va_up f k x j))))) H1 → va_D A (ws.set q0 (a, .inl (cA, n, .inl (fun j => iI (va_up f k x j))))) → va_S A H0 H1 locs1 → W p l e R s m args below meth c H1 locs1 cells slots Q (F0 m (pc + 1) ls rest)) : W p l e R s m args below meth c H locs cells slots Q (F0 m pc ls (.int (iI x) :: .int (iI z) :: .ref a :: rest)) := by
  refine va_iast hexec hb hK hP hD hS q0 t0 ha ht (iI_in hz hk hn) hdg (fun H1 locs1 h1 h2 h3 => ?_)
  rw [iI_clamp hz (by omega), nv_upd] at h1 h2
  exact kk H1 locs1 h1 h2 h3
theorem nv_last (hexec : p.tables.exec = Jvm.exec) (hb : c.code = cc) (hK : va_K D cl tys s) (hP : va_P D cl ws H) (hD : va_D A ws) (hS : va_S A H0 H locs) (q0 t0 : Nat) {cA : ClassId} {n : Nat} {f : Nat → Int} (ha : ws[q0]? = some (a, .inl (cA, n, .inr (.inl (fun k => lI (f k)))))) (ht : tys[t0]? = some (cA, .long)) {z x : Int} (k : Nat) (hz : z = (k : Int)) (hk : k < n) (hn : n < 2147483648) (hdg : decode cc pc = .ok (.lastore, 1))
    (kk : ∀ (H1 : Heap) (locs1 : List Loc), va_P D cl (ws.set q0 (a, .inl (cA, n, .inr (.inl (fun j => lI (va_up f k x j)))))) H1 → va_D A (ws.set q0 (a, .inl (cA, n, .inr (.inl (fun j => lI (va_up f k x j)))))) → va_S A H0 H1 locs1 → W p l e R s m args below meth c H1 locs1 cells slots Q (F0 m (pc + 1) ls rest)) : W p l e R s m args below meth c H locs cells slots Q (F0 m pc ls (.long (lI x) :: .int (iI z) :: .ref a :: rest)) := by
  refine va_last hexec hb hK hP hD hS q0 t0 ha ht (iI_in hz hk hn) hdg (fun H1 locs1 h1 h2 h3 => ?_)
  rw [iI_clamp hz (by omega), nv_updL] at h1 h2
  exact kk H1 locs1 h1 h2 h3
end NA
