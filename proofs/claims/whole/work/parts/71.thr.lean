/-! CALLS WITHOUT A RESULT, THROWS out of LightDoses, and calls that throw. -/
def nv_Sv : Array Value → State → Outcome → State → Prop := fun _ st o t => o = .returned none ∧ t.heap = st.heap
theorem nv_kept {A : Nat → Prop} {D : va_G} {cl : List vw_C} {ws : va_W} {H0 H : Heap} {locs : List Loc} (hP : va_P D cl ws H0) (hn : ∀ q ∈ ws, ¬ A q.1) (hS : va_S A H0 H locs) : va_P D cl ws H :=
  nv_Pmem.mpr (fun q hq => (nv_Pmem.mp hP q hq).kept (hS.2.1 q.1 (nv_Pmem.mp hP q hq).lt (hn q hq)))
theorem th_atI : ∀ a ∈ Bundle.ownAtoms "LightDoses" 216 "java/lang/IndexOutOfBoundsException" th_up, (a ∈ lw_tbl ∧ (goodWord a = true ∨ a.ridesK = true)) ∨ a = evI1 ∨ a = evI2 := by decide +kernel
theorem th_atA : ∀ a ∈ Bundle.ownAtoms "LightDoses" 223 "java/lang/IllegalArgumentException" th_up, (a ∈ lw_tbl ∧ (goodWord a = true ∨ a.ridesK = true)) ∨ a = evI1 ∨ a = evI2 := by decide +kernel
theorem th_atS : ∀ a ∈ Bundle.ownAtoms "LightDoses" 77 "java/lang/IllegalStateException" th_up, (a ∈ lw_tbl ∧ (goodWord a = true ∨ a.ridesK = true)) ∨ a = evI1 ∨ a = evI2 := by decide +kernel
theorem th_upfit : ∀ n ∈ th_up, Bundle.fit n = true := by decide +kernel
theorem th_X_same {X : String} {a a' : Array Value} {st s t u : State} {x : Addr} (h0 : st.heap = s.heap) (h : th_X X a st x t) (e1 : u.heap = t.heap) (e2 : u.vm = t.vm) : th_X X a' s x u := by
  obtain ⟨⟨h1, h2⟩, h3, ce, h4, h5, h6⟩ := h
  rw [h0] at h1 h2 h3
  exact ⟨⟨by rw [e1]; exact h1, fun q hq => by rw [e1]; exact h2 q hq⟩, h3, ce, by rw [e1]; exact h4, h5, by rw [e2]; exact h6⟩
section TV
variable {p : Program} {l : Launch} {e : Env} {R : Room} {s : State} {m : MethodId} {args : Array Value} {below : List Frame} {meth : Method} {c : Code} {H : Heap} {locs : List Loc} {cells slots : Nat} {Q : State → Prop}
theorem nv_callSv {pc : Nat} {ls : Array Slot} {rest st0 : List Value} {a : Array Value} (hr : CallRun p l e R s m args below meth c H locs cells slots 0 0 (F0 m pc ls st0) rest (nv_Sv a) (fun _ => False))
    (kk : W p l e R s m args below meth c H locs cells slots Q (F0 m (pc + 3) ls rest)) : W p l e R s m args below meth c H locs cells slots Q (F0 m pc ls st0) := by
  intro T hT X
  obtain ⟨v, st₀, t, T', L, h0, X', hL, e1, ⟨hv, hh⟩, st⟩ := hr T hT X
  cases hv
  obtain ⟨t2, a1, b1⟩ := kk T' (by rw [e1, hh, h0]) (Stand.forget X' (fun q h => (hL q h).elim))
  exact ⟨t2, st t2 a1, b1⟩
/-- throw new X("..") in LightDoses -/
theorem nv_throw {cc : ByteArray} {pc : Nat} {ls : Array Slot} {rest : List Value} {free : Addr → Prop} {qd mi : Nat} {Z : State} (hexec : p.tables.exec = Jvm.exec) (hb : c.code = cc) (htr : e.platform.stackTraces = false) (hml : c.maxLocals = ls.size) {X tx : String} {ix ik ic : Nat}
    (hZ : EvZ qd mi Z) (hE : Ev Z s) (hts : ∀ w ∈ TG, w.before args s = true) (hown : s.vm.findClass "LightDoses" = some m.cls) (hX : Bundle.fit X = true) (hat : ∀ a ∈ Bundle.ownAtoms "LightDoses" ic X th_up, (a ∈ lw_tbl ∧ (goodWord a = true ∨ a.ridesK = true)) ∨ a = evI1 ∨ a = evI2)
    (hclink : Cond.classLink "LightDoses" ix X ∈ TG) (hini : Cond.initialized X ∈ TG) (hs : (ik, tx) ∈ evStr) (hno : c.exceptionTable.isEmpty = true) (hlocks : meth.locks = false)
    (hcells : 1 ≤ R.cells) (hslots : 6 ≤ R.slots) (hfr : 5 < R.frames) (hlo : (rest.map fun v => v.category).sum + 82 ≤ R.locals)
    (d0 : decode cc pc = .ok (.new ix, 3)) (d1 : decode cc (pc + 3) = .ok (.dup, 1)) (d2 : decode cc (pc + 4) = .ok (.ldc ik, 2)) (d3 : decode cc (pc + 6) = .ok (.invokespecial ic, 3)) (d4 : decode cc (pc + 9) = .ok (.athrow, 1)) :
    W p l e R s m args below meth c s.heap [] 0 0 (MQT below (th_X X) args s 1 6 free) (F0 m pc ls rest) := by
  obtain ⟨q, hq⟩ := hE.str hZ hs
  exact th_new (names := th_up) hexec hb htr hml hown hX th_upfit (ev_atoms hZ hE hts hat) (hts _ hclink) (hts _ hini) hq hno hlocks hcells hslots hfr (by show _ + 1 + (13 * (2 + 1) + 42) ≤ _; omega) d0 d1 d2 d3 d4
/-- a call that throws is handed on, nothing written yet -/
theorem nv_out {X : String} {pc : Nat} {ls : Array Slot} {st0 rest : List Value} {a : Array Value} {free free' : Addr → Prop} (hr : th_Run p l e R s m args below meth c s.heap [] 0 0 1 6 (F0 m pc ls st0) rest (th_X X a) free) (hno : c.exceptionTable.isEmpty = true) (hf2 : ∀ q, free q → free' q) (hlocks : meth.locks = false) :
    W p l e R s m args below meth c s.heap [] 0 0 (MQT below (th_X X) args s 1 6 free') (F0 m pc ls st0) :=
  th_out hr hno (fun x st₀ t u h0 _ hq e1 e2 => th_X_same h0 hq e1 e2) (fun q h => by cases h) hf2 hlocks
end TV
theorem blE {D : va_G} {cl : List vw_C} {tys : List (ClassId × FieldType)} {ws : va_W} {av : List Value} {Z : State} : FrameBlind (va_Pc av (fun U => va_K D cl tys U ∧ va_P D cl ws U.heap ∧ Ev Z U)) := fun a U g mk q => by
  obtain ⟨q0, qK, qP, qE⟩ := q
  exact ⟨q0, va_K.moved (u := U) (U := U.calling g mk a) (Vm.Alike.refl U.vm) qK, qP, qE⟩
theorem Ev.at {Z s U : State} (h : Ev Z s) (hU : U.heap = s.heap) (hW : s.WarmedH U.vm) : Ev Z U := h.step (A := fun _ => False) (H := s.heap) (locs := []) (fun _ q => q.elim) ⟨Nat.le_refl _, fun _ _ _ => rfl, fun _ q => by cases q⟩ hU hW
section TV2
variable {p : Program} {l : Launch} {e : Env} {R : Room} {s : State} {m : MethodId} {args : Array Value} {below : List Frame} {meth : Method} {c : Code}
variable {cc bytes : ByteArray} {pc nL maxL n idx b : Nat} {ls : Array Slot} {rest As st0 : List Value} {D : va_G} {tys : List (ClassId × FieldType)} {wc : va_W} {own C : String} {y : MethodName} {ret : Option FieldType} {rm : Room} {Z : State}
/-- a call of a method that throws, out of a walk that has written nothing -/
theorem nv_thV {X : String} {f lo : Nat} {free : Addr → Prop} (S : CallFix p m c cc nL s args TG own) (hM : MetT l y (Cond.code y bytes maxL ret :: TG) { frames := f, cells := 1, slots := 6, locals := lo } (va_Pc (.ref b :: As) (fun U => va_K D vwCl tys U ∧ va_P D vwCl wc U.heap ∧ Ev Z U)) (th_X X) 1 6 (fun _ => False))
    (cw : CallW R s args own C idx y bytes maxL ret (Cond.code y bytes maxL ret :: TG) { frames := f, cells := 1, slots := 6, locals := lo } 1 6 n) (hK : va_K D vwCl tys s) (hPc : va_P D vwCl wc s.heap) (hE : Ev Z s) (hrecv : ∃ cellB : Cell, s.heap[b]? = some cellB ∧ cellB.vm.isStatics = false ∧ s.vm.findClass C = some cellB.cls)
    (hn : As.length = n) (hsize : ls.size = nL) (hst : st0 = As.reverse ++ .ref b :: rest) (hW : (rest.map fun v => v.category).sum ≤ 8) (hdg : decode cc pc = .ok (.invokevirtual idx, 3)) (hc : 0 + 1 ≤ R.cells) (hs : 0 + 6 ≤ R.slots) (hno : c.exceptionTable.isEmpty = true) (hlocks : meth.locks = false) :
    W p l e R s m args below meth c s.heap [] 0 0 (MQT below (th_X X) args s 1 6 free) (F0 m pc ls st0) :=
  nv_out (th_runV S hM cw ⟨blE, hrecv, fun U hU hW => ⟨rfl, va_K.moved hW.alike hK, by rw [hU]; exact hPc, hE.at hU hW⟩⟩ rfl hn hsize hst (lv_room hW) hdg ⟨hc, hs⟩) hno (fun _ h => h.elim) hlocks
theorem nv_thS {X : String} {f lo : Nat} {free : Addr → Prop} (S : CallFix p m c cc nL s args TG own) (hM : MetT l y (Cond.code y bytes maxL ret :: TG) { frames := f, cells := 1, slots := 6, locals := lo } (va_Pc As (fun U => va_K D vwCl tys U ∧ va_P D vwCl wc U.heap ∧ Ev Z U)) (th_X X) 1 6 (fun _ => False))
    (cw : CallB R s args own idx y bytes maxL ret (Cond.code y bytes maxL ret :: TG) { frames := f, cells := 1, slots := 6, locals := lo } 1 6 n ∧ (Cond.static y).before args s = true) (hK : va_K D vwCl tys s) (hPc : va_P D vwCl wc s.heap) (hE : Ev Z s)
    (hn : As.length = n) (hsize : ls.size = nL) (hst : st0 = As.reverse ++ rest) (hW : (rest.map fun v => v.category).sum ≤ 8) (hdg : decode cc pc = .ok (.invokestatic idx, 3)) (hc : 0 + 1 ≤ R.cells) (hs : 0 + 6 ≤ R.slots) (hno : c.exceptionTable.isEmpty = true) (hlocks : meth.locks = false) :
    W p l e R s m args below meth c s.heap [] 0 0 (MQT below (th_X X) args s 1 6 free) (F0 m pc ls st0) :=
  nv_out (th_runS S hM cw ⟨blE, fun U hU hW => ⟨rfl, va_K.moved hW.alike hK, by rw [hU]; exact hPc, hE.at hU hW⟩⟩ rfl hn hsize hst (lv_room hW) hdg ⟨hc, hs⟩) hno (fun _ h => h.elim) hlocks
end TV2
