/-! ENVIRONMENT: what holds of the machine from the law's entry Z on: the words that aren't good ones, the statics, the strings. -/
def evStr : List (Nat × String) := [(217, "there is none of this number"), (75, "there are twelve objects"), (221, "the value is out of its bounds"), (94, "there are eight lamps"), (115, "the object has sixteen rows"), (224, "the end is not above the start, or too late"), (230, "twenty other hours tell this of the lamp"), (150, "there are forty flashes"), (195, "there are twelve pages"), (214, "there is no such count")]
def evI1 : Cond := .isRef (.static "java/lang/Throwable" "UNASSIGNED_STACK" "[Ljava/lang/StackTraceElement;")
def evI2 : Cond := .isRef (.static "java/lang/Throwable" "SUPPRESSED_SENTINEL" "Ljava/util/List;")
def evL : List Cond := evI1 :: evI2 :: lw_tbl.filter Cond.ridesK
def dcN : String := "DEFAULTCAPACITY_EMPTY_ELEMENTDATA"
/-- what is asked of Z -/
def EvZ (qd mi : Nat) (Z : State) : Prop := (∀ w ∈ evL, w.before #[] Z = true) ∧ (∀ x ∈ evStr, ∃ q, vk_R "LightDoses" x.1 x.2 q Z) ∧ va_Z "java/util/ArrayList" dcN "[Ljava/lang/Object;" (.ref qd) (fun q => Z.heap.size ≤ q) Z Z.heap ∧ va_T (.object "java/lang/Object") qd 0 (fun _ => .null) (fun q => Z.heap.size ≤ q) Z Z.heap ∧ va_Mi "[Ljava/lang/Object;" mi Z
/-- a state behind Z: no cell of Z has changed -/
def Ev (Z U : State) : Prop := Z.WarmedH U.vm ∧ Z.heap.size ≤ U.heap.size ∧ ∀ q : Nat, q < Z.heap.size → U.heap[q]? = Z.heap[q]?
theorem Ev.kept {Z U : State} (h : Ev Z U) : Jvm.Free.StaticsKept Z U := fun y cy hy _ => by
  rw [h.2.2 y (Array.getElem?_eq_some_iff.mp hy).1]; exact hy
theorem Ev.word {qd mi : Nat} {Z U : State} (hZ : EvZ qd mi Z) (h : Ev Z U) {w : Cond} (hw : w ∈ evL) (hr : w.ridesK = true) {a : Array Value} : w.before a U = true := Cond.rideK h.1 h.kept w hr (hZ.1 w hw)
theorem Ev.tbl {qd mi : Nat} {Z U : State} (hZ : EvZ qd mi Z) (h : Ev Z U) {w : Cond} (hw : w ∈ lw_tbl) (hr : w.ridesK = true) {a : Array Value} : w.before a U = true :=
  h.word hZ (List.mem_cons_of_mem _ (List.mem_cons_of_mem _ (List.mem_filter.mpr ⟨hw, hr⟩))) hr
theorem Ev.str {qd mi : Nat} {Z U : State} (hZ : EvZ qd mi Z) (h : Ev Z U) {k : Nat} {tx : String} (hx : (k, tx) ∈ evStr) : ∃ q, vk_R "LightDoses" k tx q U := by
  obtain ⟨q, hq⟩ := hZ.2.1 _ hx
  exact ⟨q, hq.warm h.1⟩
theorem Ev.step {Z s U : State} {A : Nat → Prop} {H : Heap} {locs : List Loc} (h : Ev Z s) (hA : ∀ q, A q → Z.heap.size ≤ q) (hS : va_S A s.heap H locs) (hU : U.heap = H) (hW : s.WarmedH U.vm) : Ev Z U := by
  refine ⟨h.1.trans hW, by rw [hU]; exact Nat.le_trans h.2.1 hS.1, fun q hq => ?_⟩
  rw [hU, hS.2.1 q (Nat.lt_of_lt_of_le hq h.2.1) (fun k => absurd (hA q k) (Nat.not_le.mpr hq))]
  exact h.2.2 q hq
theorem Ev.blind {Z : State} {a : Array Value} {U : State} {g : JFrame} {mk : MethodId} (h : Ev Z U) : Ev Z (U.calling g mk a) := h
/-- the atoms of a throw, at a method's entry -/
theorem ev_atoms {qd mi : Nat} {Z s : State} {args : Array Value} {L : List Cond} (hZ : EvZ qd mi Z) (h : Ev Z s) (hts : ∀ w ∈ TG, w.before args s = true) (hL : ∀ a ∈ L, (a ∈ lw_tbl ∧ (goodWord a = true ∨ a.ridesK = true)) ∨ a = evI1 ∨ a = evI2) : ∀ a ∈ L, a.before args s = true := by
  intro a ha
  rcases hL a ha with ⟨h1, h2 | h2⟩ | rfl | rfl
  · exact hts a (tg h1 h2)
  · exact h.tbl hZ h1 h2
  · exact h.word hZ List.mem_cons_self rfl
  · exact h.word hZ (List.mem_cons_of_mem _ List.mem_cons_self) rfl
def evOK (a : Cond) : Bool := (lw_tbl.contains a && (goodWord a || a.ridesK)) || (a == evI1 || a == evI2)
