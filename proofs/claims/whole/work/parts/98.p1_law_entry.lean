/-! THE LAW: its entry -/
theorem mem_lw {w : Cond} (h : w ∈ TG) : w ∈ lw_tbl := (List.mem_filter.mp h).1
theorem start_Z {s : State} {b : Nat} (hts : ∀ w ∈ lw_tbl, w.before #[Value.ref b] s = true) (hgv : (Jvm.Cond.and given_1 narrow_1).before #[Value.ref b] s = true) : ∃ qd mi, EvZ qd mi s := by
  have hs := flat_of_before _ hgv
  have hA : ∀ a : Nat, a < s.heap.size → ¬ (fun q => s.heap.size ≤ q) a := fun a h => Nat.not_le.mpr h
  obtain ⟨qd, hv, hT⟩ := va_Tof (args := #[Value.ref b]) (s := s) (tm := .static "java/util/ArrayList" "DEFAULTCAPACITY_EMPTY_ELEMENTDATA" "[Ljava/lang/Object;") (ty := .object "java/lang/Object") (N := 0) (f := fun _ => .null) (A := (fun q => s.heap.size ≤ q)) (by decide) (hs _ (by decide +kernel)) (va_eqt (hs (.eq (.length (.static "java/util/ArrayList" "DEFAULTCAPACITY_EMPTY_ELEMENTDATA" "[Ljava/lang/Object;")) (.int 0)) (by decide +kernel))) (fun j hj => absurd hj (Nat.not_lt_zero _)) hA
  obtain ⟨mi, hm⟩ := va_Mi.of (C := "[Ljava/lang/Object;") (hs _ (by decide +kernel))
  have hz := va_Zref (args := #[Value.ref b]) (s := s) (C := "java/util/ArrayList") (n := "DEFAULTCAPACITY_EMPTY_ELEMENTDATA") (d := "[Ljava/lang/Object;") (A := (fun q => s.heap.size ≤ q)) (hts _ (List.mem_append_right _ (List.mem_of_getElem? (i := 46) (by decide +kernel)))) (hts _ (mem_lw wd_4)) hv hA
  have hrf := Ev.rf s
  have ride : ∀ w : Cond, w.ridesK = true → w.before #[Value.ref b] s = true → w.before #[] s = true := fun w hr h => Cond.rideK hrf.1 hrf.kept w hr h
  refine ⟨qd, mi, fun w hw => ?_, fun x hx => ?_, hz, hT, hm⟩
  · rcases List.mem_cons.mp (show w ∈ evI1 :: evI2 :: lw_tbl.filter Cond.ridesK from hw) with rfl | hw
    · exact ride evI1 (by decide +kernel) (hs _ (by decide +kernel))
    · rcases List.mem_cons.mp hw with rfl | hw
      · exact ride evI2 (by decide +kernel) (hs _ (by decide +kernel))
      · obtain ⟨h1, h2⟩ := List.mem_filter.mp hw
        exact ride w h2 (hts w h1)
  · have hx : x ∈ ([(217, "there is none of this number"), (75, "there are twelve objects"), (221, "the value is out of its bounds"), (94, "there are eight lamps"), (115, "the object has sixteen rows"), (224, "the end is not above the start, or too late"), (230, "twenty other hours tell this of the lamp"), (150, "there are forty flashes"), (195, "there are twelve pages"), (214, "there is no such count")] : List (Nat × String)) := hx
    simp only [List.mem_cons, List.not_mem_nil, or_false] at hx
    rcases hx with rfl | rfl | rfl | rfl | rfl | rfl | rfl | rfl | rfl | rfl
    · obtain ⟨a, c, cA, kA, q1, q2, q3, q4, q5, q6, -⟩ := Cond.exactly_spec (args := #[Value.ref b]) (first := s) (o := none) (s := s) (idx := []) (t := .string "LightDoses" 217) (cls := "java/lang/String") (hs _ (by decide +kernel))
      exact ⟨a, vk_R.of (hts (.stringRef "LightDoses" 217 "there is none of this number") (List.mem_append_right _ (List.mem_of_getElem? (i := 239) (by decide +kernel)))) q1⟩
    · obtain ⟨a, c, cA, kA, q1, q2, q3, q4, q5, q6, -⟩ := Cond.exactly_spec (args := #[Value.ref b]) (first := s) (o := none) (s := s) (idx := []) (t := .string "LightDoses" 75) (cls := "java/lang/String") (hs _ (by decide +kernel))
      exact ⟨a, vk_R.of (hts (.stringRef "LightDoses" 75 "there are twelve objects") (List.mem_append_right _ (List.mem_of_getElem? (i := 342) (by decide +kernel)))) q1⟩
    · obtain ⟨a, c, cA, kA, q1, q2, q3, q4, q5, q6, -⟩ := Cond.exactly_spec (args := #[Value.ref b]) (first := s) (o := none) (s := s) (idx := []) (t := .string "LightDoses" 221) (cls := "java/lang/String") (hs _ (by decide +kernel))
      exact ⟨a, vk_R.of (hts (.stringRef "LightDoses" 221 "the value is out of its bounds") (List.mem_append_right _ (List.mem_of_getElem? (i := 452) (by decide +kernel)))) q1⟩
    · obtain ⟨a, c, cA, kA, q1, q2, q3, q4, q5, q6, -⟩ := Cond.exactly_spec (args := #[Value.ref b]) (first := s) (o := none) (s := s) (idx := []) (t := .string "LightDoses" 94) (cls := "java/lang/String") (hs _ (by decide +kernel))
      exact ⟨a, vk_R.of (hts (.stringRef "LightDoses" 94 "there are eight lamps") (List.mem_append_right _ (List.mem_of_getElem? (i := 466) (by decide +kernel)))) q1⟩
    · obtain ⟨a, c, cA, kA, q1, q2, q3, q4, q5, q6, -⟩ := Cond.exactly_spec (args := #[Value.ref b]) (first := s) (o := none) (s := s) (idx := []) (t := .string "LightDoses" 115) (cls := "java/lang/String") (hs _ (by decide +kernel))
      exact ⟨a, vk_R.of (hts (.stringRef "LightDoses" 115 "the object has sixteen rows") (List.mem_append_right _ (List.mem_of_getElem? (i := 555) (by decide +kernel)))) q1⟩
    · obtain ⟨a, c, cA, kA, q1, q2, q3, q4, q5, q6, -⟩ := Cond.exactly_spec (args := #[Value.ref b]) (first := s) (o := none) (s := s) (idx := []) (t := .string "LightDoses" 224) (cls := "java/lang/String") (hs _ (by decide +kernel))
      exact ⟨a, vk_R.of (hts (.stringRef "LightDoses" 224 "the end is not above the start, or too late") (List.mem_append_right _ (List.mem_of_getElem? (i := 559) (by decide +kernel)))) q1⟩
    · obtain ⟨a, c, cA, kA, q1, q2, q3, q4, q5, q6, -⟩ := Cond.exactly_spec (args := #[Value.ref b]) (first := s) (o := none) (s := s) (idx := []) (t := .string "LightDoses" 230) (cls := "java/lang/String") (hs _ (by decide +kernel))
      exact ⟨a, vk_R.of (hts (.stringRef "LightDoses" 230 "twenty other hours tell this of the lamp") (List.mem_append_right _ (List.mem_of_getElem? (i := 582) (by decide +kernel)))) q1⟩
    · obtain ⟨a, c, cA, kA, q1, q2, q3, q4, q5, q6, -⟩ := Cond.exactly_spec (args := #[Value.ref b]) (first := s) (o := none) (s := s) (idx := []) (t := .string "LightDoses" 150) (cls := "java/lang/String") (hs _ (by decide +kernel))
      exact ⟨a, vk_R.of (hts (.stringRef "LightDoses" 150 "there are forty flashes") (List.mem_append_right _ (List.mem_of_getElem? (i := 609) (by decide +kernel)))) q1⟩
    · obtain ⟨a, c, cA, kA, q1, q2, q3, q4, q5, q6, -⟩ := Cond.exactly_spec (args := #[Value.ref b]) (first := s) (o := none) (s := s) (idx := []) (t := .string "LightDoses" 195) (cls := "java/lang/String") (hs _ (by decide +kernel))
      exact ⟨a, vk_R.of (hts (.stringRef "LightDoses" 195 "there are twelve pages") (List.mem_append_right _ (List.mem_of_getElem? (i := 657) (by decide +kernel)))) q1⟩
    · obtain ⟨a, c, cA, kA, q1, q2, q3, q4, q5, q6, -⟩ := Cond.exactly_spec (args := #[Value.ref b]) (first := s) (o := none) (s := s) (idx := []) (t := .string "LightDoses" 214) (cls := "java/lang/String") (hs _ (by decide +kernel))
      exact ⟨a, vk_R.of (hts (.stringRef "LightDoses" 214 "there is no such count") (List.mem_append_right _ (List.mem_of_getElem? (i := 695) (by decide +kernel)))) q1⟩
theorem start_N {s : State} {b : Nat} (hgv : (Jvm.Cond.and given_1 narrow_1).before #[Value.ref b] s = true) : EvN s := by
  have hs := flat_of_before _ hgv
  intro x hx
  have hx : x ∈ ([("java/lang/IllegalStateException", "java/lang/IndexOutOfBoundsException"), ("java/lang/IllegalArgumentException", "java/lang/IndexOutOfBoundsException"), ("java/lang/IllegalArgumentException", "java/lang/IllegalStateException"), ("java/lang/IndexOutOfBoundsException", "java/lang/IllegalStateException"), ("java/lang/IndexOutOfBoundsException", "java/lang/IllegalArgumentException"), ("java/lang/IllegalStateException", "java/lang/IllegalArgumentException")] : List (String × String)) := hx
  simp only [List.mem_cons, List.not_mem_nil, or_false] at hx
  rcases hx with rfl | rfl | rfl | rfl | rfl | rfl
  · exact va_Nc.of (hs (.not (.castable "java/lang/IllegalStateException" "java/lang/IndexOutOfBoundsException")) (by decide +kernel))
  · exact va_Nc.of (hs (.not (.castable "java/lang/IllegalArgumentException" "java/lang/IndexOutOfBoundsException")) (by decide +kernel))
  · exact va_Nc.of (hs (.not (.castable "java/lang/IllegalArgumentException" "java/lang/IllegalStateException")) (by decide +kernel))
  · exact va_Nc.of (hs (.not (.castable "java/lang/IndexOutOfBoundsException" "java/lang/IllegalStateException")) (by decide +kernel))
  · exact va_Nc.of (hs (.not (.castable "java/lang/IndexOutOfBoundsException" "java/lang/IllegalArgumentException")) (by decide +kernel))
  · exact va_Nc.of (hs (.not (.castable "java/lang/IllegalStateException" "java/lang/IllegalArgumentException")) (by decide +kernel))
theorem arr_K {s : State} {A : Array Value} {ty : FieldType} (h : (Cond.arrayClass ty).before A s = true) : ∃ cA, ArrOfT s cA ty ∧ s.vm.findClass ("[" ++ ty.toString) = some cA := by
  obtain ⟨cA, kA, comp, hfind, hk, hkind⟩ := Cond.arrayClass_spec h
  exact ⟨cA, fun n z => ⟨fun k h => (by cases h), kA, hk, comp, hkind⟩, hfind⟩
theorem arr_O {s : State} {A : Array Value} (h : (Cond.arrayOver (.object "java/lang/Object")).before A s = true) : ∃ cA, ArrOfT s cA (.object "java/lang/Object") ∧ va_RA s cA (.object "java/lang/Object") := by
  obtain ⟨comp, cA, kA, h1, h2, h3, h4, h5⟩ := Cond.arrayOver_spec h
  exact ⟨cA, fun n z => ⟨fun k h => (by cases h), kA, h3, comp, h4⟩, kA, comp, h3, h4, h1, h5⟩
theorem start_K {s : State} {b : Nat} (hts0 : ∀ w ∈ lw_tbl, w.before #[Value.ref b] s = true) : ∃ (D : va_G) (cI cJ cO cZ : ClassId), va_K D vwCl (tyx cI cJ cO cZ) s := by
  have hts : ∀ w ∈ TG, w.before #[Value.ref b] s = true := fun w h => hts0 w (mem_lw h)
  obtain ⟨c0, iS0, k0⟩ := u_known (C := "LightDoses$Book") (T := T_Bk) (N := 4) (n := 4) hts in_Bk (hts _ wd_118)
  obtain ⟨c1, iS1, k1⟩ := u_known (C := "LightDoses$Breaches") (T := T_Br) (N := 3) (n := 3) hts in_Br (hts _ wd_99)
  obtain ⟨c2, iS2, k2⟩ := u_known (C := "LightDoses$Changes") (T := T_Ch) (N := 4) (n := 4) hts in_Ch (hts _ wd_473)
  obtain ⟨c3, iS3, k3⟩ := u_known (C := "LightDoses$Day") (T := T_Dy) (N := 2) (n := 2) hts in_Dy (hts _ wd_63)
  obtain ⟨c4, iS4, k4⟩ := u_known (C := "LightDoses$Exhibit") (T := T_Ex) (N := 5) (n := 5) hts in_Ex (hts _ wd_349)
  obtain ⟨c5, iS5, k5⟩ := u_known (C := "LightDoses$Flashes") (T := T_Fl) (N := 4) (n := 4) hts in_Fl (hts _ wd_79)
  obtain ⟨c6, iS6, k6⟩ := u_known (C := "LightDoses$Lamp") (T := T_Lp) (N := 6) (n := 6) hts in_Lp (hts _ wd_467)
  obtain ⟨c7, iS7, k7⟩ := u_known (C := "LightDoses") (T := T_LD) (N := 9) (n := 9) hts in_LD (hts _ wd_26)
  obtain ⟨c8, iS8, k8⟩ := u_known (C := "LightDosesModel") (T := T_Md) (N := 32) (n := 32) hts in_Md (hts _ wd_697)
  obtain ⟨c9, iS9, k9⟩ := u_known (C := "java/util/ArrayList") (T := T_AL) (N := 3) (n := 3) hts in_AL (hts _ wd_34)
  obtain ⟨cI, aI, nI9⟩ := arr_K (hts _ wd_76)
  obtain ⟨cJ, aJ, nJ⟩ := arr_K (hts _ wd_77)
  obtain ⟨cZ, aZ, nZ⟩ := arr_K (hts _ wd_800)
  obtain ⟨cO, aO, nO⟩ := arr_O (hts0 _ (List.mem_append_right _ (List.mem_of_getElem? (i := 423) (by decide +kernel))))
  refine ⟨(fun k => if k = 0 then c0 else if k = 1 then c1 else if k = 2 then c2 else if k = 3 then c3 else if k = 4 then c4 else if k = 5 then c5 else if k = 6 then c6 else if k = 7 then c7 else if k = 8 then c8 else c9, fun k => if k = 0 then iS0 else if k = 1 then iS1 else if k = 2 then iS2 else if k = 3 then iS3 else if k = 4 then iS4 else if k = 5 then iS5 else if k = 6 then iS6 else if k = 7 then iS7 else if k = 8 then iS8 else iS9), cI, cJ, cO, cZ, ?_, ?_⟩
  · intro k q hq
    match k, hq with
    | 0, hq => cases hq; exact k0
    | 1, hq => cases hq; exact k1
    | 2, hq => cases hq; exact k2
    | 3, hq => cases hq; exact k3
    | 4, hq => cases hq; exact k4
    | 5, hq => cases hq; exact k5
    | 6, hq => cases hq; exact k6
    | 7, hq => cases hq; exact k7
    | 8, hq => cases hq; exact k8
    | 9, hq => cases hq; exact k9
    | k + 10, hq => exact absurd hq (by simp [vwCl])
  · intro k q hq
    match k, hq with
    | 0, hq => cases hq; exact ⟨aI, nI9⟩
    | 1, hq => cases hq; exact ⟨aJ, nJ⟩
    | 2, hq => cases hq; exact ⟨aO, nO⟩
    | 3, hq => cases hq; exact ⟨aZ, nZ⟩
    | k + 4, hq => exact absurd hq (by simp [tyx])
