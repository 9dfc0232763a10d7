/-! STEPS: each call keeps the relation. -/
section STEPS
variable {qd : Nat} {AA : LdA} {CC : LdC} {MM : MdC} {f : Nat → Int} {x1 x2 x3 : Int}
theorem r32_0 : r32 0 := by decide
theorem fr0 {P : Prop} {a : Int} (h : a = 0) : a = 1 → P := fun q => by omega
theorem st_allowed (h : Rl CC MM) (r1 : r32 x1) (r2 : r32 x2) : vl_allowed AA CC MM f x1 x2 x3 Rl := by
  unfold vl_allowed
  refine ⟨_, ?_, fun k f1 C1 hh => hh⟩
  unfold vw_allowed
  obtain ⟨h1, h2, h3, h4, h5, h6, h7, h8, h9, h10, h11, h12, h13⟩ := id h
  by_cases c1 : 0 ≤ x1 ∧ x1 < 6
  · by_cases c2 : -1 ≤ x2 ∧ x2 ≤ 1000000000
    · refine Or.inl ⟨_, ?_, fun z y0 y1 hh => hh⟩
      unfold vc_LD_allowed
      have b1 := h5.1 x1.toNat (by omega)
      have b2 := h5.2 x1.toNat (by omega)
      refine ⟨r1, c1, r2, c2, c1, c1, ⟨by omega, by omega⟩, by decide, ?_⟩
      refine ⟨_, ?_, fun z u0 u1 u2 hh => hh⟩
      unfold vc_Md_allowed
      refine ⟨r1, fun _ => ⟨r2, fun _ => ⟨c1, c1, rfl, fun _ => ⟨by rw [up_self, b2], ⟨by omega, by omega⟩⟩, ?_⟩, fun u => absurd c2 u⟩, fun u => by omega⟩
      refine ⟨h1, h2, ⟨Or.inl rfl, Or.inl rfl⟩, h4, ⟨fun i hi => ?_, fun i hi => ?_⟩, h6, h7, h8, h9, h10, h11, fr0 rfl, fr0 rfl⟩
      · show -1 ≤ va_up CC.ba x1.toNat x2 i ∧ va_up CC.ba x1.toNat x2 i ≤ 1000000000
        by_cases e : i = x1.toNat
        · rw [e, up_self]; exact c2
        · rw [up_ne e]; exact h5.1 i hi
      · show va_up MM.ba x1.toNat x2 i = va_up CC.ba x1.toNat x2 i
        by_cases e : i = x1.toNat
        · rw [e, up_self, up_self]
        · rw [up_ne e, up_ne e]; exact h5.2 i hi
    · refine Or.inr (Or.inr ⟨⟨r1, fun _ => ⟨r2, fun u => absurd u c2, fun _ => rfl⟩, fun u => absurd c1 u⟩, by decide, ?_⟩)
      refine ⟨_, ?_, fun z u0 u1 u2 hh => hh⟩
      exact ⟨r1, fun _ => ⟨r2, fun u => absurd u c2, fun _ => ⟨rfl, fun u => absurd u (by decide), h⟩⟩, fun u => by omega⟩
  · refine Or.inr (Or.inl ⟨⟨r1, fun u => absurd u c1, fun _ => rfl⟩, by decide, ?_⟩)
    refine ⟨_, ?_, fun z u0 u1 u2 hh => hh⟩
    exact ⟨r1, fun u => by omega, fun _ => ⟨r2, fun _ => ⟨rfl, fun u => absurd u (by decide), h⟩, fun _ => ⟨rfl, fun u => absurd u (by decide), h⟩⟩⟩
theorem st_daylight (h : Rl CC MM) (r1 : r32 x1) (r2 : r32 x2) : vl_daylight AA CC MM f x1 x2 x3 Rl := by
  unfold vl_daylight
  refine ⟨_, ?_, fun k f1 C1 hh => hh⟩
  unfold vw_daylight
  obtain ⟨h1, h2, h3, h4, h5, h6, h7, h8, h9, h10, h11, h12, h13⟩ := id h
  by_cases c1 : 0 ≤ x1 ∧ x1 < 24
  · by_cases c2 : 0 ≤ x2 ∧ x2 ≤ 5000
    · refine Or.inl ⟨_, ?_, fun z y0 y1 y2 hh => hh⟩
      unfold vc_LD_daylight
      obtain ⟨t, rfl⟩ : ∃ t : Nat, x1 = t := ⟨x1.toNat, by omega⟩
      have b1 := h6.1.1 t (by omega)
      have b2 := h6.2 t (by omega)
      refine ⟨r1, c1, r2, c2, c1, _, s_Dy_put h6.1 (by omega) c2, ?_⟩
      rintro dl' ds' ⟨rfl, hok⟩
      rw [Int.toNat_natCast]
      refine ⟨⟨by omega, by omega⟩, by decide, ?_⟩
      refine ⟨_, ?_, fun z u0 u1 u2 hh => hh⟩
      unfold vc_Md_daylight
      rw [Int.toNat_natCast]
      refine ⟨r1, fun _ => ⟨r2, fun _ => ⟨c1, c1, rfl, fun _ => ⟨by rw [up_self, b2], ⟨by omega, by omega⟩⟩, ?_⟩, fun u => absurd c2 u⟩, fun u => by omega⟩
      refine ⟨h1, h2, ⟨Or.inl rfl, Or.inl rfl⟩, h4, h5, ⟨hok, fun i hi => ?_⟩, h7, h8, h9, h10, h11, fr0 rfl, fr0 rfl⟩
      show va_up MM.da t x2 i = va_up CC.dl t x2 i
      by_cases e : i = t
      · rw [e, up_self, up_self]
      · rw [up_ne e, up_ne e]; exact h6.2 i hi
    · refine Or.inr (Or.inr ⟨⟨r1, fun _ => ⟨r2, fun u => absurd u c2, fun _ => rfl⟩, fun u => absurd c1 u⟩, by decide, ?_⟩)
      refine ⟨_, ?_, fun z u0 u1 u2 hh => hh⟩
      exact ⟨r1, fun _ => ⟨r2, fun u => absurd u c2, fun _ => ⟨rfl, fun u => absurd u (by decide), h⟩⟩, fun u => by omega⟩
  · refine Or.inr (Or.inl ⟨⟨r1, fun u => absurd u c1, fun _ => rfl⟩, by decide, ?_⟩)
    refine ⟨_, ?_, fun z u0 u1 u2 hh => hh⟩
    exact ⟨r1, fun u => by omega, fun _ => ⟨r2, fun _ => ⟨rfl, fun u => absurd u (by decide), h⟩, fun _ => ⟨rfl, fun u => absurd u (by decide), h⟩⟩⟩
theorem st_rest (h : Rl CC MM) : vl_rest AA CC MM f x1 x2 x3 Rl := by
  unfold vl_rest
  obtain ⟨h1, h2, h3, h4, h5, h6, h7, h8, h9, h10, h11, h12, h13⟩ := id h
  refine ⟨_, ?_, fun z u0 hh => hh⟩
  exact ⟨h4.1.symm, ⟨by omega, by omega⟩, h⟩
theorem st_turned (h : Rl CC MM) (r1 : r32 x1) : vl_turned AA CC MM f x1 x2 x3 Rl := by
  unfold vl_turned
  refine ⟨_, ?_, fun k f1 C1 hh => hh⟩
  unfold vw_turned
  obtain ⟨h1, h2, h3, h4, h5, h6, h7, h8, h9, h10, h11, h12, h13⟩ := id h
  obtain ⟨k1, k2, k3⟩ := h11
  by_cases c1 : 0 ≤ x1 ∧ x1 < CC.kn
  · have k4 := k3 x1.toNat (by omega)
    refine Or.inl ⟨_, ?_, fun z hh => hh⟩
    refine ⟨r1, ⟨by omega, by omega⟩, c1, ⟨by omega, by omega⟩, k4.2, by decide, ?_⟩
    refine ⟨_, ?_, fun z u0 hh => hh⟩
    exact ⟨r1, fun u => by omega, fun _ => ⟨⟨by omega, by omega⟩, fun u => by omega, fun _ => ⟨⟨by omega, by omega⟩, rfl, fun _ => ⟨by rw [up_self, k4.1], by rw [k4.1]; exact k4.2⟩, h⟩⟩⟩
  · refine Or.inr ⟨⟨r1, ⟨by omega, by omega⟩, fun u => absurd u c1, fun _ => rfl⟩, by decide, ?_⟩
    refine ⟨_, ?_, fun z u0 hh => hh⟩
    exact ⟨r1, fun _ => ⟨rfl, fun u => absurd u (by decide), h⟩, fun _ => ⟨⟨by omega, by omega⟩, fun _ => ⟨rfl, fun u => absurd u (by decide), h⟩, fun u => by omega⟩⟩
theorem st_count (h : Rl CC MM) (r1 : r32 x1) : vl_count AA CC MM f x1 x2 x3 Rl := by
  unfold vl_count
  refine ⟨_, ?_, fun k f1 C1 hh => hh⟩
  unfold vw_count
  obtain ⟨h1, h2, h3, h4, h5, h6, h7, h8, h9, h10, h11, h12, h13⟩ := id h
  obtain ⟨f1, f2, f3, f4⟩ := h7
  obtain ⟨k1, k2, k3⟩ := h11
  obtain ⟨b1, b2, b3, b4, b5⟩ := h10
  have f5 := f2.1
  have b6 := b2.1
  by_cases c1 : 0 ≤ x1 ∧ x1 ≤ 4
  · refine Or.inl ⟨fun z => (x1 = 0 → z = (CC.no : Int)) ∧ (x1 = 1 → z = (CC.nl : Int)) ∧ (x1 = 2 → z = CC.fn) ∧ (x1 = 3 → z = CC.kp) ∧ (x1 = 4 → z = CC.kn), ?_, fun z hz => ?_⟩
    · refine ⟨r1, fun u => ?_, fun u => ?_, fun u => ?_, fun u => ?_, fun u => ?_, fun u => by omega⟩ <;> refine ⟨fun v => ?_, fun v => ?_, fun v => ?_, fun v => ?_, fun v => ?_⟩ <;> first | rfl | omega
    · refine ⟨⟨by omega, by omega⟩, by decide, ?_⟩
      refine ⟨_, ?_, fun z u0 hh => hh⟩
      unfold vc_Md_count
      rw [up_self]
      refine ⟨r1, fun _ => ⟨fun u0 => ⟨fun u1 => ⟨fun u2 => ⟨fun u3 => ⟨rfl, fun _ => ⟨?_, ?_⟩, h⟩, fun u3 => ⟨rfl, fun _ => ⟨?_, ?_⟩, h⟩⟩, fun u2 => ⟨rfl, fun _ => ⟨?_, ?_⟩, h⟩⟩, fun u1 => ⟨rfl, fun _ => ⟨?_, ?_⟩, h⟩⟩, fun u0 => ⟨rfl, fun _ => ⟨?_, ?_⟩, h⟩⟩, fun u => absurd c1 u⟩ <;> (first | omega | exact ⟨by omega, by omega⟩)
  · refine Or.inr ⟨⟨r1, fun u => by omega, fun u => by omega, fun u => by omega, fun u => by omega, fun u => by omega, fun _ => rfl⟩, by decide, ?_⟩
    refine ⟨_, ?_, fun z u0 hh => hh⟩
    exact ⟨r1, fun u => absurd u c1, fun _ => ⟨rfl, fun u => absurd u (by decide), h⟩⟩
theorem st_page (h : Rl CC MM) (r1 : r32 x1) : vl_page AA CC MM f x1 x2 x3 Rl := by
  unfold vl_page
  refine ⟨_, ?_, fun k f1 C1 hh => hh⟩
  unfold vw_page
  obtain ⟨h1, h2, h3, h4, h5, h6, h7, h8, h9, h10, h11, h12, h13⟩ := id h
  obtain ⟨b1, b2, b3, b4, b5⟩ := h10
  have b6 := b2.1
  by_cases c1 : CC.kp < 12
  · by_cases c2 : 0 ≤ x1 ∧ x1 ≤ 30000
    · refine Or.inl ⟨_, ?_, fun z y0 y1 hh => hh⟩
      refine ⟨⟨by omega, by omega⟩, fun _ => ⟨r1, c2, _, ⟨⟨by omega, by omega⟩, fun _ => ⟨⟨by omega, by omega⟩, ?_⟩, fun u => by omega⟩, fun y7 y8 hh => hh⟩, fun u => by omega⟩
      refine ⟨⟨by omega, by omega⟩, by decide, ?_⟩
      refine ⟨_, ?_, fun z u0 u1 u2 hh => hh⟩
      unfold vc_Md_page
      rw [b3]
      refine ⟨⟨by omega, by omega⟩, fun u => by omega, fun _ => ⟨r1, fun _ => ⟨⟨by omega, by omega⟩, rfl, fun _ => ⟨by rw [up_self], ⟨by omega, by omega⟩⟩, ?_⟩, fun u => absurd c2 u⟩⟩
      refine ⟨h1, h2, h3, h4, h5, h6, h7, h8, h9, ?_, h11, h12, h13⟩
      show BkR (va_up CC.kh CC.kp.toNat x1) (CC.kp + 1) (va_up MM.pa CC.kp.toNat x1) (CC.kp + 1)
      have e : (CC.kp + 1).toNat = CC.kp.toNat + 1 := by omega
      refine ⟨by omega, ⟨by omega, fun i hi => ?_⟩, rfl, fun i hi => ?_, fun i i1 i2 => ?_⟩
      · by_cases e2 : i = CC.kp.toNat
        · rw [e2, up_self]; exact c2
        · rw [up_ne e2]; exact b2.2 i (by omega)
      · by_cases e2 : i = CC.kp.toNat
        · rw [e2, up_self, up_self]
        · rw [up_ne e2, up_ne e2]; exact b4 i (by omega)
      · rw [up_ne (by omega)]; exact b5 i (by omega) i2
    · refine Or.inr (Or.inr ⟨⟨⟨by omega, by omega⟩, fun _ => ⟨r1, fun u => absurd u c2, fun _ => rfl⟩, fun u => by omega⟩, by decide, ?_⟩)
      refine ⟨_, ?_, fun z u0 u1 u2 hh => hh⟩
      exact ⟨⟨by omega, by omega⟩, fun u => by omega, fun _ => ⟨r1, fun u => absurd u c2, fun _ => ⟨rfl, fun u => absurd u (by decide), h⟩⟩⟩
  · refine Or.inr (Or.inl ⟨⟨⟨by omega, by omega⟩, fun u => absurd u c1, fun _ => rfl⟩, by decide, ?_⟩)
    refine ⟨_, ?_, fun z u0 u1 u2 hh => hh⟩
    exact ⟨⟨by omega, by omega⟩, fun _ => ⟨r1, fun _ => ⟨rfl, fun u => absurd u (by decide), h⟩, fun _ => ⟨rfl, fun u => absurd u (by decide), h⟩⟩, fun u => by omega⟩
theorem st_flash (h : Rl CC MM) (r1 : r32 x1) (r2 : r32 x2) (r3 : r32 x3) : vl_flash AA CC MM f x1 x2 x3 Rl := by
  unfold vl_flash
  refine ⟨_, ?_, fun k f1 C1 hh => hh⟩
  unfold vw_flash
  obtain ⟨h1, h2, h3, h4, h5, h6, h7, h8, h9, h10, h11, h12, h13⟩ := id h
  obtain ⟨f1, f2, f3, f4⟩ := h7
  have f5 := f2.1
  by_cases c1 : 0 ≤ x1 ∧ x1 < (CC.no : Int)
  · by_cases c2 : 0 ≤ x2 ∧ x2 < 26280
    · by_cases c3 : CC.fn < 40
      · by_cases c4 : 0 ≤ x3 ∧ x3 ≤ 1000000000
        · refine Or.inl ⟨_, ?_, fun z y0 y1 y2 y3 y4 hh => hh⟩
          refine ⟨r1, ⟨by omega, by omega⟩, c1, r2, c2, ⟨by omega, by omega⟩, fun _ => ⟨r3, c4, _, ⟨⟨by omega, by omega⟩, fun _ => ⟨⟨by omega, by omega⟩, ⟨by omega, by omega⟩, ⟨by omega, by omega⟩, ?_⟩, fun u => by omega⟩, fun y12 y13 y14 y15 hh => hh⟩, fun u => by omega⟩
          refine ⟨⟨by omega, by omega⟩, by decide, ?_⟩
          refine ⟨_, ?_, fun z u0 u1 u2 u3 u4 u5 hh => hh⟩
          unfold vc_Md_flash
          rw [f3]
          refine ⟨r1, ⟨by omega, by omega⟩, fun _ => ⟨r2, fun _ => ⟨⟨by omega, by omega⟩, fun u => by omega, fun _ => ⟨r3, fun _ => ⟨⟨by omega, by omega⟩, ⟨by omega, by omega⟩, ⟨by omega, by omega⟩, rfl, fun _ => ⟨by rw [up_self], ⟨by omega, by omega⟩⟩, ?_⟩, fun u => absurd c4 u⟩⟩, fun u => absurd c2 u⟩, fun u => by omega⟩
          refine ⟨h1, h2, ⟨Or.inl rfl, Or.inl rfl⟩, h4, h5, h6, ?_, h8, h9, h10, h11, fr0 rfl, fr0 rfl⟩
          show FlR (va_up CC.fo CC.fn.toNat x1) (va_up CC.fh CC.fn.toNat x2) (va_up CC.fs CC.fn.toNat x3) (CC.fn + 1) (va_up MM.fo CC.fn.toNat x1) (va_up MM.fh CC.fn.toNat x2) (va_up MM.fs CC.fn.toNat x3) (CC.fn + 1)
          have e : (CC.fn + 1).toNat = CC.fn.toNat + 1 := by omega
          refine ⟨by omega, ⟨by omega, fun i hi => ?_⟩, rfl, fun i hi => ?_⟩
          · by_cases e2 : i = CC.fn.toNat
            · rw [e2, up_self, up_self, up_self]; omega
            · rw [up_ne e2, up_ne e2, up_ne e2]; exact f2.2 i (by omega)
          · by_cases e2 : i = CC.fn.toNat
            · rw [e2]; simp only [up_self, and_self]
            · simp only [up_ne e2]; exact f4 i (by omega)
        · refine Or.inr (Or.inr (Or.inr ⟨⟨r1, ⟨by omega, by omega⟩, fun _ => ⟨r2, fun _ => ⟨⟨by omega, by omega⟩, fun _ => ⟨r3, fun u => absurd u c4, fun _ => rfl⟩, fun u => by omega⟩, fun u => absurd c2 u⟩, fun u => absurd c1 u⟩, by decide, ?_⟩))
          refine ⟨_, ?_, fun z u0 u1 u2 u3 u4 u5 hh => hh⟩
          exact ⟨r1, ⟨by omega, by omega⟩, fun _ => ⟨r2, fun _ => ⟨⟨by omega, by omega⟩, fun u => by omega, fun _ => ⟨r3, fun u => absurd u c4, fun _ => ⟨rfl, fun u => absurd u (by decide), h⟩⟩⟩, fun u => absurd c2 u⟩, fun u => by omega⟩
      · refine Or.inr (Or.inr (Or.inl ⟨⟨r1, ⟨by omega, by omega⟩, fun _ => ⟨r2, fun _ => ⟨⟨by omega, by omega⟩, fun u => absurd u c3, fun _ => rfl⟩, fun u => absurd c2 u⟩, fun u => absurd c1 u⟩, by decide, ?_⟩))
        refine ⟨_, ?_, fun z u0 u1 u2 u3 u4 u5 hh => hh⟩
        exact ⟨r1, ⟨by omega, by omega⟩, fun _ => ⟨r2, fun _ => ⟨⟨by omega, by omega⟩, fun _ => ⟨r3, fun _ => ⟨rfl, fun u => absurd u (by decide), h⟩, fun _ => ⟨rfl, fun u => absurd u (by decide), h⟩⟩, fun u => by omega⟩, fun u => absurd c2 u⟩, fun u => by omega⟩
    · refine Or.inr (Or.inl ⟨⟨r1, ⟨by omega, by omega⟩, fun _ => ⟨r2, fun u => absurd u c2, fun _ => rfl⟩, fun u => absurd c1 u⟩, by decide, ?_⟩)
      refine ⟨_, ?_, fun z u0 u1 u2 u3 u4 u5 hh => hh⟩
      exact ⟨r1, ⟨by omega, by omega⟩, fun _ => ⟨r2, fun u => absurd u c2, fun _ => ⟨⟨by omega, by omega⟩, fun _ => ⟨r3, fun _ => ⟨rfl, fun u => absurd u (by decide), h⟩, fun _ => ⟨rfl, fun u => absurd u (by decide), h⟩⟩, fun _ => ⟨r3, fun _ => ⟨rfl, fun u => absurd u (by decide), h⟩, fun _ => ⟨rfl, fun u => absurd u (by decide), h⟩⟩⟩⟩, fun u => by omega⟩
  · refine Or.inr (Or.inl ⟨⟨r1, ⟨by omega, by omega⟩, fun u => absurd u c1, fun _ => rfl⟩, by decide, ?_⟩)
    refine ⟨_, ?_, fun z u0 u1 u2 u3 u4 u5 hh => hh⟩
    exact ⟨r1, ⟨by omega, by omega⟩, fun u => by omega, fun _ => ⟨⟨by omega, by omega⟩, fun _ => ⟨r3, fun _ => ⟨rfl, fun u => absurd u (by decide), h⟩, fun _ => ⟨rfl, fun u => absurd u (by decide), h⟩⟩, fun _ => ⟨r3, fun _ => ⟨rfl, fun u => absurd u (by decide), h⟩, fun _ => ⟨rfl, fun u => absurd u (by decide), h⟩⟩⟩⟩
end STEPS
