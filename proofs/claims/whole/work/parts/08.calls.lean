/-! CALLS: the words of a call out of TG; a call that changes nothing, in one row. -/
abbrev tyx (cI cJ cO cZ : ClassId) : List (ClassId × FieldType) := [(cI, .int), (cJ, .long), (cO, .object "java/lang/Object"), (cZ, .boolean)]
theorem gdV {own C : String} {idx : Nat} {y : MethodName} {cw : Cond} (h1 : Cond.methodLink own idx y ∈ TG) (h2 : Cond.instanceMethod y ∈ TG) (h3 : Cond.selects C y y ∈ TG) (h4 : Cond.initialized C ∈ TG) (h5 : cw ∈ TG) : GoodIn TG (wsV own idx C y (cw :: TG)) := by
  intro w hw
  simp only [wsV, List.cons_append, List.nil_append, List.mem_cons] at hw
  rcases hw with rfl | rfl | rfl | rfl | rfl | hw
  · exact ⟨h1, tg_ok h1⟩
  · exact ⟨h2, tg_ok h2⟩
  · exact ⟨h3, tg_ok h3⟩
  · exact ⟨h4, tg_ok h4⟩
  · exact ⟨h5, tg_ok h5⟩
  · exact ⟨hw, tg_ok hw⟩
theorem gdS {own : String} {idx : Nat} {y : MethodName} {cw : Cond} (h1 : Cond.methodLink own idx y ∈ TG) (h2 : Cond.static y ∈ TG) (h4 : Cond.initialized own ∈ TG) (h5 : cw ∈ TG) : GoodIn TG (wsS own idx y (cw :: TG)) := by
  intro w hw
  simp only [wsS, List.cons_append, List.nil_append, List.mem_cons] at hw
  rcases hw with rfl | rfl | rfl | rfl | hw
  · exact ⟨h1, tg_ok h1⟩
  · exact ⟨h2, tg_ok h2⟩
  · exact ⟨h4, tg_ok h4⟩
  · exact ⟨h5, tg_ok h5⟩
  · exact ⟨hw, tg_ok hw⟩
theorem blR {D : va_G} {cl : List vw_C} {tys : List (ClassId × FieldType)} {ws : va_W} {av : List Value} : FrameBlind (va_Pc av (fun U => va_K D cl tys U ∧ va_P D cl ws U.heap)) := fun a U g mk q => by
  obtain ⟨q0, qK, qP⟩ := q
  exact ⟨q0, va_K.moved (u := U) (U := U.calling g mk a) (Vm.Alike.refl U.vm) qK, qP⟩
theorem blW {D : va_G} {cl : List vw_C} {tys : List (ClassId × FieldType)} {ws : va_W} {av : List Value} {sz : Nat} {A : Nat → Prop} : FrameBlind (va_Pc av (fun U => U.heap.size = sz ∧ va_P D cl ws U.heap ∧ va_K D cl tys U ∧ va_D A ws)) := fun a U g mk q => by
  obtain ⟨q0, q1, qP, qK, qD⟩ := q
  exact ⟨q0, q1, qP, va_K.moved (u := U) (U := U.calling g mk a) (Vm.Alike.refl U.vm) qK, qD⟩
section CR
variable {p : Program} {l : Launch} {e : Env} {R : Room} {s : State} {m : MethodId} {args : Array Value} {below : List Frame} {meth : Method} {c : Code} {H : Heap} {locs : List Loc} {cells slots : Nat} {Q : State → Prop}
variable {cc bytes : ByteArray} {pc nL maxL n idx b : Nat} {ls : Array Slot} {rest As st0 : List Value} {D : va_G} {tys : List (ClassId × FieldType)} {wc : va_W} {own C : String} {y : MethodName} {ret : Option FieldType} {rm : Room} {cw : Cond}
/-- the words and the room of a call on an object -/
theorem nv_cwV (hts : ∀ w ∈ TG, w.before args s = true) (h1 : Cond.methodLink own idx y ∈ TG) (h2 : Cond.instanceMethod y ∈ TG) (h3 : Cond.selects C y y ∈ TG) (h4 : Cond.initialized C ∈ TG) (h5 : Cond.code y bytes maxL ret ∈ TG)
    (hd : y.cls = C ∧ y.cls ≠ "java/lang/invoke/MethodHandle" ∧ y.cls ≠ "java/lang/invoke/VarHandle" ∧ (parseMethodDescriptor y.desc).map (fun d => d.parameters.length) = some n) (hR : rm.frames + 1 ≤ R.frames ∧ 8 + (maxL + 11) + rm.locals ≤ R.locals) :
    CallW R s args own C idx y bytes maxL ret (Cond.code y bytes maxL ret :: TG) rm rm.cells rm.slots n := cwV n hts (gdV h1 h2 h3 h4 h5) rfl rfl rfl hd hR
theorem nv_cwS (hts : ∀ w ∈ TG, w.before args s = true) (h1 : Cond.methodLink own idx y ∈ TG) (h2 : Cond.static y ∈ TG) (h4 : Cond.initialized own ∈ TG) (h5 : Cond.code y bytes maxL ret ∈ TG)
    (hd : y.cls = own ∧ y.cls ≠ "java/lang/invoke/MethodHandle" ∧ y.cls ≠ "java/lang/invoke/VarHandle" ∧ (parseMethodDescriptor y.desc).map (fun d => d.parameters.length) = some n) (hR : rm.frames + 1 ≤ R.frames ∧ 8 + (maxL + 11) + rm.locals ≤ R.locals) :
    CallB R s args own idx y bytes maxL ret (Cond.code y bytes maxL ret :: TG) rm rm.cells rm.slots n ∧ (Cond.static y).before args s = true := cwS n hts (gdS h1 h2 h4 h5) rfl rfl rfl hd hR
theorem nv_runV {Qc : Array Value → State → Outcome → State → Prop} {f : Nat} {lo : Nat} (S : CallFix p m c cc nL s args TG own) (hM : Met l y (Cond.code y bytes maxL ret :: TG) { frames := f, cells := 0, slots := 0, locals := lo } (va_Pc (.ref b :: As) (fun U => va_K D vwCl tys U ∧ va_P D vwCl wc U.heap)) Qc 0 0 (fun _ => False))
    (cw : CallW R s args own C idx y bytes maxL ret (Cond.code y bytes maxL ret :: TG) { frames := f, cells := 0, slots := 0, locals := lo } 0 0 n) (hK : va_K D vwCl tys s) (hPc : va_P D vwCl wc H) (hrecv : ∃ cellB : Cell, H[b]? = some cellB ∧ cellB.vm.isStatics = false ∧ s.vm.findClass C = some cellB.cls)
    (hn : As.length = n) (hsize : ls.size = nL) (hst : st0 = As.reverse ++ .ref b :: rest) (hW : (rest.map fun v => v.category).sum ≤ 8) (hdg : decode cc pc = .ok (.invokevirtual idx, 3)) (hc : cells ≤ R.cells) (hs : slots ≤ R.slots) :
    CallRun p l e R s m args below meth c H locs cells slots 0 0 (F0 m pc ls st0) rest (Qc (Value.ref b :: As).toArray) (fun _ => False) :=
  W.runV S hM cw ⟨blR, hrecv, fun U hU hW => ⟨rfl, va_K.moved hW.alike hK, by rw [hU]; exact hPc⟩⟩ rfl hn hsize hst (lv_room hW) hdg ⟨hc, hs⟩
theorem nv_runS {Qc : Array Value → State → Outcome → State → Prop} {f : Nat} {lo : Nat} (S : CallFix p m c cc nL s args TG own) (hM : Met l y (Cond.code y bytes maxL ret :: TG) { frames := f, cells := 0, slots := 0, locals := lo } (va_Pc As (fun U => va_K D vwCl tys U ∧ va_P D vwCl wc U.heap)) Qc 0 0 (fun _ => False))
    (cw : CallB R s args own idx y bytes maxL ret (Cond.code y bytes maxL ret :: TG) { frames := f, cells := 0, slots := 0, locals := lo } 0 0 n ∧ (Cond.static y).before args s = true) (hK : va_K D vwCl tys s) (hPc : va_P D vwCl wc H)
    (hn : As.length = n) (hsize : ls.size = nL) (hst : st0 = As.reverse ++ rest) (hW : (rest.map fun v => v.category).sum ≤ 8) (hdg : decode cc pc = .ok (.invokestatic idx, 3)) (hc : cells ≤ R.cells) (hs : slots ≤ R.slots) :
    CallRun p l e R s m args below meth c H locs cells slots 0 0 (F0 m pc ls st0) rest (Qc As.toArray) (fun _ => False) :=
  W.runS S hM cw ⟨blR, fun U hU hW => ⟨rfl, va_K.moved hW.alike hK, by rw [hU]; exact hPc⟩⟩ rfl hn hsize hst (lv_room hW) hdg ⟨hc, hs⟩
end CR
