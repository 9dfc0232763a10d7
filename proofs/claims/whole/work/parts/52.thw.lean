/-! THROW WORDS: what `throw new X("..")` in LightDoses needs, out of the tables; the two statics apart. -/
def th_up : List String := ["java/lang/RuntimeException", "java/lang/Exception"]
def th_isSt : Cond → Bool
  | .isRef _ => true
  | _ => false
theorem th_ioobe : ∀ a ∈ (Bundle.ownAtoms "LightDoses" 216 "java/lang/IndexOutOfBoundsException" th_up).filter (fun a => !th_isSt a), a ∈ lw_tbl := by decide +kernel
