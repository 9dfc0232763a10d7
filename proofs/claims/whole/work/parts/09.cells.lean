/-! CELLS: new arrays of one class each; booleans in arrays; Math.max and min. -/
theorem one_arr {D : va_G} {cl : List vw_C} {tys : List (ClassId × FieldType)} {s : State} {t0 : Nat} {cT cA : ClassId} {ty : FieldType} (hK : va_K D cl (tys ++ [(cA, ty)]) s) (ht : tys[t0]? = some (cT, ty)) (hp : ∀ C, ty ≠ .object C) : cA = cT := by
  have h1 := (hK.2 tys.length (cA, ty) (by simp)).2
  have hlt : t0 < tys.length := (List.getElem?_eq_some_iff.mp ht).1
  have h2 := (hK.2 t0 (cT, ty) (by rw [List.getElem?_append_left hlt]; exact ht)).2
  cases ty <;> first | exact Option.some.inj ((show s.vm.findClass _ = some cA from h1).symm.trans (show s.vm.findClass _ = some cT from h2)) | exact absurd rfl (hp _)
theorem new_i (N : Nat) (cA : ClassId) : vp_cell cA (N, .inl (fun k => iI ((fun _ => 0) k))) = arrV cA N (fun _ => defaultValue .int) := by
  show arrV cA N (fun _ => .int (iI 0)) = arrV cA N (fun _ => .int 0)
  rw [← iI_0]
theorem new_z (N : Nat) (cA : ClassId) : vp_cell cA (N, .inl (fun k => iI ((fun _ => 0) k))) = arrV cA N (fun _ => defaultValue .boolean) := by
  show arrV cA N (fun _ => .int (iI 0)) = arrV cA N (fun _ => .int 0)
  rw [← iI_0]
theorem lI_0 : (0 : Int64) = lI 0 := by decide
theorem new_l (N : Nat) (cA : ClassId) : vp_cell cA (N, .inr (.inl (fun k => lI ((fun _ => 0) k)))) = arrV cA N (fun _ => defaultValue .long) := by
  show arrV cA N (fun _ => .long (lI 0)) = arrV cA N (fun _ => .long 0)
  rw [← lI_0]
section NC
variable {p : Program} {l : Launch} {e : Env} {R : Room} {s : State} {m : MethodId} {args : Array Value} {below : List Frame} {meth : Method} {c : Code} {H : Heap} {locs : List Loc} {cells slots : Nat} {Q : State → Prop}
variable {cc : ByteArray} {pc : Nat} {ls : Array Slot} {rest : List Value} {D : va_G} {cl : List vw_C} {A : Nat → Prop} {a : Nat} {tys : List (ClassId × FieldType)} {ws : va_W} {H0 : Heap}
theorem nv_newi (hexec : p.tables.exec = Jvm.exec) (hb : c.code = cc) (harr : (Cond.arrayClass .int).before args s = true) (hK : va_K D cl tys s) (hP : va_P D cl ws H) (hD : va_D A ws) (hS : va_S A H0 H locs) (hA : ∀ q, H0.size ≤ q → A q) (t0 : Nat) {cT : ClassId} (ht : tys[t0]? = some (cT, .int))
    {z : Int} (N : Nat) (hz : z = (N : Int)) (hN : N ≤ 1000000) (hcells : cells + 1 ≤ R.cells) (hslots : slots + N ≤ R.slots) (hdg : decode cc pc = .ok (.newarray .int, 2))
    (kk : ∀ (q : Nat) (H1 : Heap), va_P D cl (ws ++ [(q, .inl (cT, N, .inl (fun k => iI ((fun _ => 0) k))))]) H1 → va_D A (ws ++ [(q, .inl (cT, N, .inl (fun k => iI ((fun _ => 0) k))))]) → va_S A H0 H1 locs →
      W p l e R s m args below meth c H1 locs (cells + 1) (slots + N) Q (F0 m (pc + 2) ls (.ref q :: rest))) : W p l e R s m args below meth c H locs cells slots Q (F0 m pc ls (.int (iI z) :: rest)) := by
  refine va_newa (a0 := (N, .inl (fun k => iI ((fun _ => 0) k)))) (N' := N) (ty := .int) (atype := .int) hexec hb harr rfl hK hP hD hS hA (new_i N) (by rw [iI_0, iI_lt ⟨by omega, by omega⟩ r0]; omega) (iI_clamp hz (by omega)) (by show N * 4 ≤ 536870912; omega) hcells hslots hdg (fun q cA H1 h1 h2 h3 h4 => ?_)
  have e := one_arr h1 ht (fun C h => by cases h)
  subst e
  exact kk q H1 h2 h3 h4
theorem nv_newl (hexec : p.tables.exec = Jvm.exec) (hb : c.code = cc) (harr : (Cond.arrayClass .long).before args s = true) (hK : va_K D cl tys s) (hP : va_P D cl ws H) (hD : va_D A ws) (hS : va_S A H0 H locs) (hA : ∀ q, H0.size ≤ q → A q) (t0 : Nat) {cT : ClassId} (ht : tys[t0]? = some (cT, .long))
    {z : Int} (N : Nat) (hz : z = (N : Int)) (hN : N ≤ 1000000) (hcells : cells + 1 ≤ R.cells) (hslots : slots + N ≤ R.slots) (hdg : decode cc pc = .ok (.newarray .long, 2))
    (kk : ∀ (q : Nat) (H1 : Heap), va_P D cl (ws ++ [(q, .inl (cT, N, .inr (.inl (fun k => lI ((fun _ => 0) k)))))]) H1 → va_D A (ws ++ [(q, .inl (cT, N, .inr (.inl (fun k => lI ((fun _ => 0) k)))))]) → va_S A H0 H1 locs →
      W p l e R s m args below meth c H1 locs (cells + 1) (slots + N) Q (F0 m (pc + 2) ls (.ref q :: rest))) : W p l e R s m args below meth c H locs cells slots Q (F0 m pc ls (.int (iI z) :: rest)) := by
  refine va_newa (a0 := (N, .inr (.inl (fun k => lI ((fun _ => 0) k))))) (N' := N) (ty := .long) (atype := .long) hexec hb harr rfl hK hP hD hS hA (new_l N) (by rw [iI_0, iI_lt ⟨by omega, by omega⟩ r0]; omega) (iI_clamp hz (by omega)) (by show N * 8 ≤ 536870912; omega) hcells hslots hdg (fun q cA H1 h1 h2 h3 h4 => ?_)
  have e := one_arr h1 ht (fun C h => by cases h)
  subst e
  exact kk q H1 h2 h3 h4
theorem nv_newz (hexec : p.tables.exec = Jvm.exec) (hb : c.code = cc) (harr : (Cond.arrayClass .boolean).before args s = true) (hK : va_K D cl tys s) (hP : va_P D cl ws H) (hD : va_D A ws) (hS : va_S A H0 H locs) (hA : ∀ q, H0.size ≤ q → A q) (t0 : Nat) {cT : ClassId} (ht : tys[t0]? = some (cT, .boolean))
    {z : Int} (N : Nat) (hz : z = (N : Int)) (hN : N ≤ 1000000) (hcells : cells + 1 ≤ R.cells) (hslots : slots + N ≤ R.slots) (hdg : decode cc pc = .ok (.newarray .boolean, 2))
    (kk : ∀ (q : Nat) (H1 : Heap), va_P D cl (ws ++ [(q, .inl (cT, N, .inl (fun k => iI ((fun _ => 0) k))))]) H1 → va_D A (ws ++ [(q, .inl (cT, N, .inl (fun k => iI ((fun _ => 0) k))))]) → va_S A H0 H1 locs →
      W p l e R s m args below meth c H1 locs (cells + 1) (slots + N) Q (F0 m (pc + 2) ls (.ref q :: rest))) : W p l e R s m args below meth c H locs cells slots Q (F0 m pc ls (.int (iI z) :: rest)) := by
  refine va_newa (a0 := (N, .inl (fun k => iI ((fun _ => 0) k)))) (N' := N) (ty := .boolean) (atype := .boolean) hexec hb harr rfl hK hP hD hS hA (new_z N) (by rw [iI_0, iI_lt ⟨by omega, by omega⟩ r0]; omega) (iI_clamp hz (by omega)) (by show N * 1 ≤ 536870912; omega) hcells hslots hdg (fun q cA H1 h1 h2 h3 h4 => ?_)
  have e := one_arr h1 ht (fun C h => by cases h)
  subst e
  exact kk q H1 h2 h3 h4
theorem nv_zald (hexec : p.tables.exec = Jvm.exec) (hb : c.code = cc) (hK : va_K D cl tys s) (t0 : Nat) {cA : ClassId} {n : Nat} {f : Nat → Int} (ha : va_at D cl (a, .inl (cA, n, .inl (fun k => iI (f k)))) H) (ht : tys[t0]? = some (cA, .boolean)) {z : Int} (k : Nat) (hz : z = (k : Int)) (hk : k < n) (hn : n < 2147483648) (hdg : decode cc pc = .ok (.baload, 1))
    (kk : W p l e R s m args below meth c H locs cells slots Q (F0 m (pc + 1) ls (.int (iI (f k)) :: rest))) : W p l e R s m args below meth c H locs cells slots Q (F0 m pc ls (.int (iI z) :: .ref a :: rest)) :=
  va_zald hexec hb hK (nv_one ha) 0 t0 rfl ht (iI_in hz hk hn) hdg (by rw [iI_clamp hz (by omega)]; exact kk)
theorem nar_z {x : Int} (h : x = 0 ∨ x = 1) : vp_nar .boolean (iI x) = iI x := by
  rcases h with rfl | rfl <;> decide
theorem nv_zast (hexec : p.tables.exec = Jvm.exec) (hb : c.code = cc) (hK : va_K D cl tys s) (hP : va_P D cl ws H) (hD : va_D A ws) (hS : va_S A H0 H locs) (q0 t0 : Nat) {cA : ClassId} {n : Nat} {f : Nat → Int} (ha : ws[q0]? = some (a, .inl (cA, n, .inl (fun k => iI (f k))))) (ht : tys[t0]? = some (cA, .boolean)) {z x : Int} (k : Nat) (hz : z = (k : Int)) (hk : k < n) (hn : n < 2147483648) (hx01 : x = 0 ∨ x = 1) (hdg : decode cc pc = .ok (.bastore, 1))
    (kk : ∀ (H1 : Heap) (locs1 : List Loc), va_P D cl (ws.set q0 (a, .inl (cA, n, .inl (fun j => iI (va_up f k x j))))) H1 → va_D A (ws.set q0 (a, .inl (cA, n, .inl (fun j => iI (va_up f k x j))))) → va_S A H0 H1 locs1 → W p l e R s m args below meth c H1 locs1 cells slots Q (F0 m (pc + 1) ls rest)) : W p l e R s m args below meth c H locs cells slots Q (F0 m pc ls (.int (iI x) :: .int (iI z) :: .ref a :: rest)) := by
  refine va_zast hexec hb hK hP hD hS q0 t0 ha ht (iI_in hz hk hn) hdg (fun H1 locs1 h1 h2 h3 => ?_)
  rw [iI_clamp hz (by omega), nar_z hx01, nv_upd] at h1 h2
  exact kk H1 locs1 h1 h2 h3
theorem nv_mmax (hexec : p.tables.exec = Jvm.exec) (hb : c.code = cc) (hml : c.maxLocals = ls.size) {own : String} {index : Nat} (hown : s.vm.findClass own = some m.cls) (hlink : (Cond.methodLink own index Lib.Math.max.name).before args s = true) (hstat : (Cond.static Lib.Math.max.name).before args s = true) (hini : (Cond.initialized "java/lang/Math").before args s = true) (hcode : (Cond.code Lib.Math.max.name Lib.Math.max.code 2 (some .int)).before args s = true)
    (hframes : 1 ≤ R.frames) (hlocals : (rest.map fun v => v.category).sum + 13 ≤ R.locals) (hc : cells ≤ R.cells) (hs : slots ≤ R.slots) {a b : Int} (ra : r32 a) (rb : r32 b) (hdg : decode cc pc = .ok (.invokestatic index, 3))
    (kk : W p l e R s m args below meth c H locs cells slots Q (F0 m (pc + 3) ls (.int (iI (max a b)) :: rest))) : W p l e R s m args below meth c H locs cells slots Q (F0 m pc ls (.int (iI b) :: .int (iI a) :: rest)) := by
  refine va_mmax hexec hb hml hown hlink hstat hini hcode hframes hlocals hc hs hdg ?_
  have e : (if iI a < iI b then iI b else iI a) = iI (max a b) := by
    by_cases h : a < b
    · rw [if_pos ((iI_lt ra rb).mpr h), show max a b = b by omega]
    · rw [if_neg (fun q => h ((iI_lt ra rb).mp q)), show max a b = a by omega]
  rw [e]; exact kk
theorem nv_mmin (hexec : p.tables.exec = Jvm.exec) (hb : c.code = cc) (hml : c.maxLocals = ls.size) {own : String} {index : Nat} (hown : s.vm.findClass own = some m.cls) (hlink : (Cond.methodLink own index Lib.Math.min.name).before args s = true) (hstat : (Cond.static Lib.Math.min.name).before args s = true) (hini : (Cond.initialized "java/lang/Math").before args s = true) (hcode : (Cond.code Lib.Math.min.name Lib.Math.min.code 2 (some .int)).before args s = true)
    (hframes : 1 ≤ R.frames) (hlocals : (rest.map fun v => v.category).sum + 13 ≤ R.locals) (hc : cells ≤ R.cells) (hs : slots ≤ R.slots) {a b : Int} (ra : r32 a) (rb : r32 b) (hdg : decode cc pc = .ok (.invokestatic index, 3))
    (kk : W p l e R s m args below meth c H locs cells slots Q (F0 m (pc + 3) ls (.int (iI (min a b)) :: rest))) : W p l e R s m args below meth c H locs cells slots Q (F0 m pc ls (.int (iI b) :: .int (iI a) :: rest)) := by
  refine va_mmin hexec hb hml hown hlink hstat hini hcode hframes hlocals hc hs hdg ?_
  have e : (if iI b < iI a then iI b else iI a) = iI (min a b) := by
    by_cases h : b < a
    · rw [if_pos ((iI_lt rb ra).mpr h), show min a b = b by omega]
    · rw [if_neg (fun q => h ((iI_lt rb ra).mp q)), show min a b = a by omega]
  rw [e]; exact kk
/-- a division by a constant above 0, the dividend of any sign -/
theorem nv_ldivT (hexec : p.tables.exec = Jvm.exec) (hb : c.code = cc) {a b z : Int} (hdg : decode cc pc = .ok (.ldiv, 1)) (ha : r64 a) (hb2 : r64 b) (h1 : 0 < b) (hz : Int.tdiv a b = z)
    (k : W p l e R s m args below meth c H locs cells slots Q (F0 m (pc + 1) ls (.long (lI z) :: rest))) : W p l e R s m args below meth c H locs cells slots Q (F0 m pc ls (.long (lI b) :: .long (lI a) :: rest)) :=
  lv_ldiv hexec hb hdg (by rw [show (0 : Int64) = lI 0 from by decide, lI_eq hb2 ⟨by omega, by omega⟩]; omega) (by rw [lI_div ha hb2 (Or.inr (by omega)), hz]; exact k)
end NC
