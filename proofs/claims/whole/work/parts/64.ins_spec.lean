/-! SPEC of Exhibit.addRow, Breaches.add, Flashes. -/
def insAt (f : Nat → Int) (N k : Nat) (x : Int) (f' : Nat → Int) : Prop := (∀ j, j < k → f' j = f j) ∧ f' k = x ∧ ∀ j, k < j → j ≤ N → f' j = f (j - 1)
theorem insAt_up {f g : Nat → Int} {N k : Nat} {x : Int} (g1 : ∀ j, j < k → g j = f j) (g2 : ∀ j, k < j → j ≤ N → g j = f (j - 1)) : insAt f N k x (va_up g k x) :=
  ⟨fun j hj => by rw [up_ne (by omega)]; exact g1 j hj, up_self, fun j h1 h2 => by rw [up_ne (by omega)]; exact g2 j h1 h2⟩
theorem insAt_eq {f f1 f2 : Nat → Int} {N k : Nat} {x : Int} (h1 : insAt f N k x f1) (h2 : insAt f N k x f2) : ∀ j, j ≤ N → f1 j = f2 j := by
  intro j hj
  rcases Nat.lt_trichotomy j k with q | q | q
  · rw [h1.1 j q, h2.1 j q]
  · rw [q, h1.2.1, h2.2.1]
  · rw [h1.2.2 j q hj, h2.2.2 j q hj]
/-- non-falling -/
def nsrt (f : Nat → Int) (n : Nat) : Prop := ∀ i j, i < j → j < n → f i ≤ f j
theorem insAt_nsrt {f f' : Nat → Int} {N k : Nat} {x : Int} (h : insAt f N k x f') (hk : k ≤ N) (hs : nsrt f N) (h1 : ∀ j, j < k → f j ≤ x) (h2 : ∀ j, k ≤ j → j < N → x ≤ f j) : nsrt f' (N + 1) := by
  obtain ⟨a1, a3, a2⟩ := h
  intro i j hij hj
  rcases Nat.lt_trichotomy i k with q | q | q
  · rcases Nat.lt_trichotomy j k with r | r | r
    · rw [a1 i q, a1 j r]; exact hs i j hij (by omega)
    · rw [a1 i q, r, a3]; exact h1 i q
    · rw [a1 i q, a2 j r (by omega)]
      rcases Nat.lt_or_ge i (j - 1) with u | u
      · exact hs i (j - 1) u (by omega)
      · omega
  · rw [q, a3, a2 j (by omega) (by omega)]; exact h2 (j - 1) (by omega) (by omega)
  · rw [a2 i q (by omega), a2 j (by omega) (by omega)]; exact hs (i - 1) (j - 1) (by omega) (by omega)
/-- what holds of each place holds of each place behind the insertion -/
theorem insAt_all {f f' g g' : Nat → Int} {N k : Nat} {x y : Int} {P : Int → Int → Prop} (h : insAt f N k x f') (h' : insAt g N k y g') (hk : k ≤ N) : (∀ j, j < N + 1 → P (f' j) (g' j)) ↔ (P x y ∧ ∀ j, j < N → P (f j) (g j)) := by
  obtain ⟨a1, a3, a2⟩ := h
  obtain ⟨b1, b3, b2⟩ := h'
  constructor
  · intro q
    refine ⟨by have := q k (by omega); rw [a3, b3] at this; exact this, fun j hj => ?_⟩
    rcases Nat.lt_or_ge j k with r | r
    · have := q j (by omega); rw [a1 j r, b1 j r] at this; exact this
    · have := q (j + 1) (by omega); rw [a2 (j + 1) (by omega) (by omega), b2 (j + 1) (by omega) (by omega)] at this; exact this
  · rintro ⟨q1, q2⟩ j hj
    rcases Nat.lt_trichotomy j k with r | r | r
    · rw [a1 j r, b1 j r]; exact q2 j (by omega)
    · rw [r, a3, b3]; exact q1
    · rw [a2 j r (by omega), b2 j r (by omega)]; exact q2 (j - 1) (by omega)
theorem insAt_ex {f f' g g' : Nat → Int} {N k : Nat} {x y : Int} (h : insAt f N k x f') (h' : insAt g N k y g') (hk : k ≤ N) (u v : Int) : chMap f' g' (N + 1) u v ↔ (u = x ∧ v = y) ∨ chMap f g N u v := by
  have := insAt_all (P := fun a b => ¬ (a = u ∧ b = v)) h h' hk
  constructor
  · rintro ⟨i, hi, e1, e2⟩
    by_cases c : (u = x ∧ v = y)
    · exact Or.inl c
    · by_cases c2 : chMap f g N u v
      · exact Or.inr c2
      · exact absurd ⟨e1, e2⟩ (this.mpr ⟨fun q => c ⟨q.1.symm, q.2.symm⟩, fun j hj q => c2 ⟨j, hj, q⟩⟩ i hi)
  · intro q
    by_cases c : chMap f' g' (N + 1) u v
    · exact c
    · obtain ⟨p1, p2⟩ := this.mp (fun j hj r => c ⟨j, hj, r⟩)
      rcases q with ⟨rfl, rfl⟩ | ⟨j, hj, r⟩
      · exact absurd ⟨rfl, rfl⟩ p1
      · exact absurd r (p2 j hj)
def insPost (f g : Nat → Int) (N : Nat) (x y : Int) (f' g' : Nat → Int) (n' : Int) : Prop := n' = (N : Int) + 1 ∧ ∃ k, k ≤ N ∧ insAt f N k x f' ∧ insAt g N k y g' ∧ (∀ j, j < k → f j ≤ x) ∧ ∀ j, k ≤ j → j < N → x < f j
theorem s_Ex_addRow {kd : Int} {es ef et : Nat → Int} {N : Nat} {x y : Int} (hN : N < 16) (hs : nsrt ef N) (hb : ∀ i, i < N → r32 (ef i)) (hx : r32 x) : vc_Ex_addRow kd es ef et N x y (insPost ef et N x y) := by
  unfold vc_Ex_addRow
  refine ⟨⟨by omega, by omega⟩, fun _ => ?_, fun q => by omega⟩
  refine ⟨fun i gf gt => ∃ m : Nat, i = m ∧ m ≤ N ∧ (∀ j, j < m → gf j = ef j ∧ gt j = et j) ∧ (∀ j, m < j → j ≤ N → gf j = ef (j - 1) ∧ gt j = et (j - 1)) ∧ ∀ j, m ≤ j → j < N → x < ef j, fun i _ _ => i.toNat, ⟨N, rfl, Nat.le_refl _, fun _ _ => ⟨rfl, rfl⟩, fun j q1 q2 => by omega, fun j q1 q2 => by omega⟩, ?_⟩
  rintro i gf gt ⟨m, rfl, hm, g1, g2, g3⟩
  rw [Int.toNat_natCast]
  have fin : (∀ j, j < m → ef j ≤ x) → insPost ef et N x y (va_up gf m x) (va_up gt m y) ((N : Int) + 1) := fun hle =>
    ⟨rfl, m, hm, insAt_up (fun j hj => (g1 j hj).1) (fun j q1 q2 => (g2 j q1 q2).1), insAt_up (fun j hj => (g1 j hj).2) (fun j q1 q2 => (g2 j q1 q2).2), hle, g3⟩
  refine ⟨⟨by omega, by omega⟩, fun q => ⟨⟨by omega, by omega⟩, ⟨by omega, by omega⟩, fin (fun j hj => by omega)⟩, fun q => ?_⟩
  have e1 : ((m : Int) - 1).toNat = m - 1 := by omega
  rw [e1]
  have hg := g1 (m - 1) (by omega)
  rw [hg.1, hg.2]
  refine ⟨⟨by omega, by omega⟩, hb _ (by omega), hx, fun q2 => ⟨⟨by omega, by omega⟩, ⟨by omega, by omega⟩, fin (fun j hj => ?_)⟩, fun q2 => ⟨⟨by omega, by omega⟩, ⟨by omega, by omega⟩, ⟨by omega, by omega⟩, ⟨by omega, by omega⟩, ⟨m - 1, by omega, by omega, fun j hj => ?_, fun j q3 q4 => ?_, fun j q3 q4 => ?_⟩, by dsimp only; omega⟩⟩
  · rcases Nat.lt_or_ge j (m - 1) with u | u
    · have := hs j (m - 1) u (by omega); omega
    · rw [show j = m - 1 by omega]; exact q2
  · rw [up_ne (by omega), up_ne (by omega)]; exact g1 j (by omega)
  · by_cases e : j = m
    · rw [e, up_self, up_self]; exact ⟨rfl, rfl⟩
    · rw [up_ne e, up_ne e]; exact g2 j (by omega) q4
  · by_cases e : j = m - 1
    · rw [e]; exact q2
    · exact g3 j (by omega) q4
theorem s_Br_add {bh bo : Nat → Int} {N : Nat} {x y : Int} (hN : N < 36) (hs : nsrt bh N) (hb : ∀ i, i < N → r32 (bh i)) (hx : r32 x) : vc_Br_add bh bo N x y (insPost bh bo N x y) := by
  unfold vc_Br_add
  refine ⟨⟨by omega, by omega⟩, fun _ => ?_, fun q => by omega⟩
  refine ⟨fun i gf gt => ∃ m : Nat, i = m ∧ m ≤ N ∧ (∀ j, j < m → gf j = bh j ∧ gt j = bo j) ∧ (∀ j, m < j → j ≤ N → gf j = bh (j - 1) ∧ gt j = bo (j - 1)) ∧ ∀ j, m ≤ j → j < N → x < bh j, fun i _ _ => i.toNat, ⟨N, rfl, Nat.le_refl _, fun _ _ => ⟨rfl, rfl⟩, fun j q1 q2 => by omega, fun j q1 q2 => by omega⟩, ?_⟩
  rintro i gf gt ⟨m, rfl, hm, g1, g2, g3⟩
  rw [Int.toNat_natCast]
  have fin : (∀ j, j < m → bh j ≤ x) → insPost bh bo N x y (va_up gf m x) (va_up gt m y) ((N : Int) + 1) := fun hle =>
    ⟨rfl, m, hm, insAt_up (fun j hj => (g1 j hj).1) (fun j q1 q2 => (g2 j q1 q2).1), insAt_up (fun j hj => (g1 j hj).2) (fun j q1 q2 => (g2 j q1 q2).2), hle, g3⟩
  refine ⟨⟨by omega, by omega⟩, fun q => ⟨⟨by omega, by omega⟩, ⟨by omega, by omega⟩, fin (fun j hj => by omega)⟩, fun q => ?_⟩
  have e1 : ((m : Int) - 1).toNat = m - 1 := by omega
  rw [e1]
  have hg := g1 (m - 1) (by omega)
  rw [hg.1, hg.2]
  refine ⟨⟨by omega, by omega⟩, hb _ (by omega), hx, fun q2 => ⟨⟨by omega, by omega⟩, ⟨by omega, by omega⟩, fin (fun j hj => ?_)⟩, fun q2 => ⟨⟨by omega, by omega⟩, ⟨by omega, by omega⟩, ⟨by omega, by omega⟩, ⟨by omega, by omega⟩, ⟨m - 1, by omega, by omega, fun j hj => ?_, fun j q3 q4 => ?_, fun j q3 q4 => ?_⟩, by dsimp only; omega⟩⟩
  · rcases Nat.lt_or_ge j (m - 1) with u | u
    · have := hs j (m - 1) u (by omega); omega
    · rw [show j = m - 1 by omega]; exact q2
  · rw [up_ne (by omega), up_ne (by omega)]; exact g1 j (by omega)
  · by_cases e : j = m
    · rw [e, up_self, up_self]; exact ⟨rfl, rfl⟩
    · rw [up_ne e, up_ne e]; exact g2 j (by omega) q4
  · by_cases e : j = m - 1
    · rw [e]; exact q2
    · exact g3 j (by omega) q4
/-- flashes on an object in some hours: their lux seconds -/
def flSum (fo fh fs : Nat → Int) (ob a b : Int) : Nat → Int := sg (fun i => if fo i = ob ∧ a ≤ fh i ∧ fh i < b then fs i else 0)
def flOK (fo fh fs : Nat → Int) (N : Nat) : Prop := N ≤ 40 ∧ ∀ i, i < N → (0 ≤ fo i ∧ fo i < 12) ∧ (0 ≤ fh i ∧ fh i < 26280) ∧ 0 ≤ fs i ∧ fs i ≤ 1000000000
theorem s_Fl_luxSeconds {fo fh fs : Nat → Int} {N : Nat} {ob a b : Int} (h : flOK fo fh fs N) (ho : r32 ob) (ha : r32 a) (hb : r32 b) : vc_Fl_luxSeconds fo fh fs N ob a b (fun z => z = flSum fo fh fs ob a b N) := by
  unfold vc_Fl_luxSeconds
  obtain ⟨hN, hf⟩ := h
  refine ⟨fun tot i => ∃ m : Nat, i = m ∧ m ≤ N ∧ tot = flSum fo fh fs ob a b m, fun _ i => (40 - i).toNat, ⟨0, rfl, by omega, rfl⟩, ?_⟩
  rintro tot i ⟨m, rfl, hm, rfl⟩
  rw [Int.toNat_natCast]
  refine ⟨⟨by omega, by omega⟩, ⟨by omega, by omega⟩, fun q => by rw [show N = m by omega], fun q => ?_⟩
  obtain ⟨f1, f2, f3⟩ := hf m (by omega)
  have no : ¬ (fo m = ob ∧ a ≤ fh m ∧ fh m < b) → ∃ m' : Nat, (m : Int) + 1 = m' ∧ m' ≤ N ∧ flSum fo fh fs ob a b m = flSum fo fh fs ob a b m' := fun c =>
    ⟨m + 1, by omega, by omega, by unfold flSum; rw [sg_succ, if_neg c]; omega⟩
  refine ⟨⟨by omega, by omega⟩, ⟨by omega, by omega⟩, ho, fun q2 => ⟨no (fun c => q2 c.1), by dsimp only; omega⟩, fun q2 => ⟨⟨by omega, by omega⟩, ⟨by omega, by omega⟩, ha, fun q3 => ⟨no (fun c => by omega), by dsimp only; omega⟩, fun q3 => ⟨⟨by omega, by omega⟩, hb, fun q4 => ⟨no (fun c => by omega), by dsimp only; omega⟩, fun q4 => ⟨⟨by omega, by omega⟩, ⟨by omega, by omega⟩, ⟨m + 1, by omega, by omega, ?_⟩, by dsimp only; omega⟩⟩⟩⟩
  unfold flSum
  rw [sg_succ, if_pos ⟨q2, q3, q4⟩]
