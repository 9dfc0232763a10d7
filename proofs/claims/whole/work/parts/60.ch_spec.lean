/-! SPEC of Changes: the walks' questions answered. -/
/-- a list of N changes, by hours, its numbers small -/
def chOK (fh fv : Nat → Int) (N : Nat) : Prop := N ≤ 20 ∧ srt fh N ∧ (∀ i, i < N → 0 ≤ fh i ∧ fh i < 26280) ∧ ∀ i, i < N → 0 ≤ fv i ∧ fv i ≤ 5000
theorem srt_le {f : Nat → Int} {n i j : Nat} (h : srt f n) (hij : i ≤ j) (hj : j < n) : f i ≤ f j := by
  rcases Nat.lt_or_ge i j with q | q
  · exact Int.le_of_lt (h i j q hj)
  · rw [show i = j by omega]; exact Int.le_refl _
theorem s_Ch_countUpTo {fst : Int} {fh fv : Nat → Int} {N : Nat} {hour : Int} (h : chOK fh fv N) (hr : r32 hour) : vc_Ch_countUpTo fst fh fv N hour (fun z => ∃ k : Nat, z = k ∧ upTo fh N hour k) := by
  obtain ⟨hN, hs, hb, -⟩ := h
  unfold vc_Ch_countUpTo
  refine ⟨fun bf st => ∃ b w : Nat, bf = b ∧ st = (w / 2 : Nat) ∧ (w = 1 ∨ w = 2 ∨ w = 4 ∨ w = 8 ∨ w = 16 ∨ w = 32) ∧ b ≤ N ∧ (∀ i, i < b → fh i ≤ hour) ∧ ∀ i, b + w ≤ i + 1 → i < N → hour < fh i, fun _ st => st.toNat, ?_, ?_⟩
  · exact ⟨0, 32, rfl, rfl, by omega, by omega, fun i hi => by omega, fun i h1 h2 => by omega⟩
  · rintro bf st ⟨b, w, rfl, rfl, hw, hbN, h1, h2⟩
    have hv : w = 1 ∨ ∃ v : Nat, w = 2 * v ∧ (v = 1 ∨ v = 2 ∨ v = 4 ∨ v = 8 ∨ v = 16) := by
      rcases hw with h | h | h | h | h | h
      · exact Or.inl h
      · exact Or.inr ⟨1, by omega, by omega⟩
      · exact Or.inr ⟨2, by omega, by omega⟩
      · exact Or.inr ⟨4, by omega, by omega⟩
      · exact Or.inr ⟨8, by omega, by omega⟩
      · exact Or.inr ⟨16, by omega, by omega⟩
    rcases hv with rfl | ⟨v, rfl, hv⟩
    · refine ⟨by decide, fun _ => ⟨b, rfl, hbN, h1, fun i q1 q2 => h2 i (by omega) q2⟩, fun q => absurd q (by decide)⟩
    · have e : 2 * v / 2 = v := by omega
      rw [e]
      refine ⟨⟨by omega, by omega⟩, fun q => absurd q (by omega), fun _ => ⟨⟨by omega, by omega⟩, ⟨by omega, by omega⟩, fun q => ⟨by omega, ⟨b, v, rfl, by omega, by omega, hbN, h1, fun i q1 q2 => by omega⟩, by dsimp only; omega⟩, fun q => ?_⟩⟩
      have ei : ((b : Int) + v - 1).toNat = b + v - 1 := by omega
      rw [ei]
      have hbd := hb (b + v - 1) (by omega)
      refine ⟨⟨by omega, by omega⟩, ⟨by omega, by omega⟩, hr, fun q2 => ⟨by omega, ⟨b, v, rfl, by omega, by omega, hbN, h1, fun i q3 q4 => ?_⟩, by dsimp only; omega⟩, fun q2 => ⟨by omega, ⟨b + v, v, by omega, by omega, by omega, by omega, fun i q3 => ?_, fun i q3 q4 => h2 i (by omega) q4⟩, by dsimp only; omega⟩⟩
      · have := srt_le hs (show b + v - 1 ≤ i by omega) q4
        omega
      · have := srt_le hs (show i ≤ b + v - 1 by omega) (by omega)
        omega
theorem s_Ch_tells {fst : Int} {fh fv : Nat → Int} {N : Nat} {hour : Int} (h : chOK fh fv N) (hr : r32 hour) : vc_Ch_tells fst fh fv N hour (fun z => (z = 1 ∧ ∃ i, i < N ∧ fh i = hour) ∨ (z = 0 ∧ ∀ i, i < N → fh i ≠ hour)) := by
  unfold vc_Ch_tells
  refine ⟨_, s_Ch_countUpTo h hr, ?_⟩
  rintro _ ⟨k, rfl, hk, h1, h2⟩
  obtain ⟨hN, hs, hb, -⟩ := h
  refine ⟨⟨by omega, by omega⟩, fun q => Or.inr ⟨rfl, fun i hi e => ?_⟩, fun q => ?_⟩
  · have := h2 i (by omega) hi; omega
  · have ei : ((k : Int) - 1).toNat = k - 1 := by omega
    rw [ei]
    have hbd := hb (k - 1) (by omega)
    refine ⟨⟨by omega, by omega⟩, ⟨by omega, by omega⟩, hr, fun q2 => Or.inr ⟨rfl, fun i hi e => ?_⟩, fun q2 => Or.inl ⟨rfl, k - 1, by omega, q2⟩⟩
    rcases Nat.lt_or_ge i k with q3 | q3
    · rcases Nat.lt_or_ge i (k - 1) with q4 | q4
      · have := hs i (k - 1) q4 (by omega)
        have := h1 (k - 1) (by omega)
        omega
      · rw [show i = k - 1 by omega] at e; exact q2 e
    · have := h2 i q3 hi; omega
/-- what a list of changes says at an hour -/
def chAt (fst : Int) (fh fv : Nat → Int) (N : Nat) (hour : Int) (z : Int) : Prop := ∃ k : Nat, upTo fh N hour k ∧ z = if k = 0 then fst else fv (k - 1)
theorem s_Ch_valueAt {fst : Int} {fh fv : Nat → Int} {N : Nat} {hour : Int} (h : chOK fh fv N) (hr : r32 hour) : vc_Ch_valueAt fst fh fv N hour (chAt fst fh fv N hour) := by
  unfold vc_Ch_valueAt
  refine ⟨_, s_Ch_countUpTo h hr, ?_⟩
  rintro _ ⟨k, rfl, hk⟩
  have hkN := hk.1
  obtain ⟨hN, hs, hb, -⟩ := h
  refine ⟨⟨by omega, by omega⟩, fun q => ⟨k, hk, by rw [if_pos (by omega)]⟩, fun q => ⟨⟨by omega, by omega⟩, k, hk, ?_⟩⟩
  rw [if_neg (by omega), show ((k : Int) - 1).toNat = k - 1 by omega]
theorem s_Ch_nextBehind {fst : Int} {fh fv : Nat → Int} {N : Nat} {hour : Int} (h : chOK fh fv N) (hr : r32 hour) : vc_Ch_nextBehind fst fh fv N hour (fun z => ∃ k : Nat, upTo fh N hour k ∧ z = if k < N then fh k else 26280) := by
  unfold vc_Ch_nextBehind
  refine ⟨_, s_Ch_countUpTo h hr, ?_⟩
  rintro _ ⟨k, rfl, hk⟩
  have hkN := hk.1
  obtain ⟨hN, hs, hb, -⟩ := h
  refine ⟨⟨by omega, by omega⟩, ⟨by omega, by omega⟩, fun q => ⟨k, hk, by rw [if_neg (by omega)]⟩, fun q => ⟨⟨by omega, by omega⟩, k, hk, ?_⟩⟩
  rw [if_pos (by omega), Int.toNat_natCast]
