/-! SPEC of Changes.tell; changes as a relation of hours and values. -/
theorem up_ne {f : Nat → Int} {k j : Nat} {x : Int} (h : j ≠ k) : va_up f k x j = f j := if_neg h
theorem up_self {f : Nat → Int} {k : Nat} {x : Int} : va_up f k x k = x := if_pos rfl
def chMap (fh fv : Nat → Int) (N : Nat) (h v : Int) : Prop := ∃ i, i < N ∧ fh i = h ∧ fv i = v
/-- the value that was told last up to t; d, if none was -/
def lastAt (R : Int → Int → Prop) (d t z : Int) : Prop := (∃ h, R h z ∧ h ≤ t ∧ ∀ h' v', R h' v' → h' ≤ t → h' ≤ h) ∨ ((∀ h v, R h v → t < h) ∧ z = d)
theorem lastAt_one {R : Int → Int → Prop} {d t z z' : Int} (hR : ∀ h v v', R h v → R h v' → v = v') (h : lastAt R d t z) (h' : lastAt R d t z') : z = z' := by
  rcases h with ⟨a, a1, a2, a3⟩ | ⟨a1, a2⟩ <;> rcases h' with ⟨b, b1, b2, b3⟩ | ⟨b1, b2⟩
  · have e1 := a3 b z' b1 b2
    have e2 := b3 a z a1 a2
    have e : a = b := by omega
    subst e
    exact hR a z z' a1 b1
  · have := b1 a z a1; omega
  · have := a1 b z' b1; omega
  · rw [a2, b2]
theorem lastAt_congr {R R' : Int → Int → Prop} {d t z : Int} (hR : ∀ h v, R h v ↔ R' h v) (h : lastAt R d t z) : lastAt R' d t z := by
  rcases h with ⟨a, a1, a2, a3⟩ | ⟨a1, a2⟩
  · exact Or.inl ⟨a, (hR _ _).mp a1, a2, fun h' v' q => a3 h' v' ((hR _ _).mpr q)⟩
  · exact Or.inr ⟨fun h v q => a1 h v ((hR _ _).mpr q), a2⟩
theorem chMap_fun {fh fv : Nat → Int} {N : Nat} (hs : srt fh N) : ∀ h v v', chMap fh fv N h v → chMap fh fv N h v' → v = v' := by
  rintro h v v' ⟨i, hi, e1, e2⟩ ⟨j, hj, e3, e4⟩
  rcases Nat.lt_trichotomy i j with q | q | q
  · have := hs i j q hj; omega
  · subst q; omega
  · have := hs j i q hi; omega
theorem chAt_last {fst : Int} {fh fv : Nat → Int} {N : Nat} {t z : Int} (hs : srt fh N) (h : chAt fst fh fv N t z) : lastAt (chMap fh fv N) fst t z := by
  obtain ⟨k, ⟨hk, h1, h2⟩, rfl⟩ := h
  by_cases h0 : k = 0
  · subst h0
    rw [if_pos rfl]
    refine Or.inr ⟨?_, rfl⟩
    rintro h v ⟨i, hi, rfl, -⟩
    exact h2 i (by omega) hi
  · rw [if_neg h0]
    refine Or.inl ⟨fh (k - 1), ⟨k - 1, by omega, rfl, rfl⟩, h1 _ (by omega), ?_⟩
    rintro h' v' ⟨i, hi, rfl, -⟩ q
    rcases Nat.lt_or_ge i k with q3 | q3
    · exact srt_le hs (by omega) (by omega)
    · have := h2 i q3 hi; omega
/-- what is there behind a tell -/
def toldAs (fh fv : Nat → Int) (N : Nat) (hour value : Int) (fh' fv' : Nat → Int) (n' : Int) : Prop := ∃ N' : Nat, n' = N' ∧ chOK fh' fv' N' ∧ (∀ h v, chMap fh' fv' N' h v ↔ (h = hour ∧ v = value) ∨ (h ≠ hour ∧ chMap fh fv N h v)) ∧ ((∃ i, i < N ∧ fh i = hour) → N' = N) ∧ ((∀ i, i < N → fh i ≠ hour) → N' = N + 1)
theorem told_put {fh fv : Nat → Int} {N k : Nat} {hour value : Int} (h : chOK fh fv N) (hk : k < N) (he : fh k = hour) (hv : 0 ≤ value ∧ value ≤ 5000) : toldAs fh fv N hour value fh (va_up fv k value) N := by
  obtain ⟨hN, hs, hb, hvs⟩ := h
  refine ⟨N, rfl, ⟨hN, hs, hb, fun i hi => ?_⟩, fun h v => ?_, fun _ => rfl, fun q => absurd he (q k hk)⟩
  · by_cases e : i = k
    · rw [e, up_self]; exact hv
    · rw [up_ne e]; exact hvs i hi
  · constructor
    · rintro ⟨i, hi, rfl, rfl⟩
      by_cases e : i = k
      · subst e; exact Or.inl ⟨he, up_self⟩
      · refine Or.inr ⟨fun q => ?_, i, hi, rfl, (up_ne e).symm⟩
        rcases Nat.lt_trichotomy i k with q2 | q2 | q2
        · have := hs i k q2 hk; omega
        · exact e q2
        · have := hs k i q2 hi; omega
    · rintro (⟨rfl, rfl⟩ | ⟨hne, i, hi, rfl, rfl⟩)
      · exact ⟨k, hk, he, up_self⟩
      · have e : i ≠ k := fun q => hne (by rw [q]; exact he)
        exact ⟨i, hi, rfl, up_ne e⟩
theorem told_ins {fh fv gh gv : Nat → Int} {N k : Nat} {hour value : Int} (h : chOK fh fv N) (hN : N < 20) (hu : upTo fh N hour k) (hno : ∀ i, i < N → fh i ≠ hour) (hr : 0 ≤ hour ∧ hour < 26280) (hv : 0 ≤ value ∧ value ≤ 5000)
    (g1 : ∀ j, j < k → gh j = fh j ∧ gv j = fv j) (g2 : ∀ j, k < j → j ≤ N → gh j = fh (j - 1) ∧ gv j = fv (j - 1)) : toldAs fh fv N hour value (va_up gh k hour) (va_up gv k value) ((N : Int) + 1) := by
  obtain ⟨-, hs, hb, hvs⟩ := h
  obtain ⟨hk, h1, h2⟩ := hu
  have a1 : ∀ j, j < k → va_up gh k hour j = fh j ∧ va_up gv k value j = fv j := fun j hj => by
    rw [up_ne (by omega), up_ne (by omega)]; exact g1 j hj
  have a2 : ∀ j, k < j → j ≤ N → va_up gh k hour j = fh (j - 1) ∧ va_up gv k value j = fv (j - 1) := fun j hj hj2 => by
    rw [up_ne (by omega), up_ne (by omega)]; exact g2 j hj hj2
  have a3 : va_up gh k hour k = hour ∧ va_up gv k value k = value := ⟨up_self, up_self⟩
  generalize va_up gh k hour = ph at a1 a2 a3 ⊢
  generalize va_up gv k value = pv at a1 a2 a3 ⊢
  refine ⟨N + 1, by omega, ⟨by omega, fun i j hij hj => ?_, fun i hi => ?_, fun i hi => ?_⟩, fun h v => ?_, fun ⟨i, hi, e⟩ => absurd e (hno i hi), fun _ => rfl⟩
  · rcases Nat.lt_trichotomy i k with q | q | q
    · rcases Nat.lt_trichotomy j k with r | r | r
      · rw [(a1 i q).1, (a1 j r).1]; exact hs i j hij (by omega)
      · rw [(a1 i q).1, r, a3.1]
        have := h1 i q; have := hno i (by omega); omega
      · rw [(a1 i q).1, (a2 j r (by omega)).1]; exact hs i (j - 1) (by omega) (by omega)
    · rw [q, a3.1, (a2 j (by omega) (by omega)).1]; exact h2 (j - 1) (by omega) (by omega)
    · rw [(a2 i q (by omega)).1, (a2 j (by omega) (by omega)).1]; exact hs (i - 1) (j - 1) (by omega) (by omega)
  · rcases Nat.lt_trichotomy i k with q | q | q
    · rw [(a1 i q).1]; exact hb i (by omega)
    · rw [q, a3.1]; exact hr
    · rw [(a2 i q (by omega)).1]; exact hb (i - 1) (by omega)
  · rcases Nat.lt_trichotomy i k with q | q | q
    · rw [(a1 i q).2]; exact hvs i (by omega)
    · rw [q, a3.2]; exact hv
    · rw [(a2 i q (by omega)).2]; exact hvs (i - 1) (by omega)
  · constructor
    · rintro ⟨i, hi, rfl, rfl⟩
      rcases Nat.lt_trichotomy i k with q | q | q
      · rw [(a1 i q).1, (a1 i q).2]; exact Or.inr ⟨hno i (by omega), i, by omega, rfl, rfl⟩
      · rw [q, a3.1, a3.2]; exact Or.inl ⟨rfl, rfl⟩
      · rw [(a2 i q (by omega)).1, (a2 i q (by omega)).2]; exact Or.inr ⟨hno _ (by omega), i - 1, by omega, rfl, rfl⟩
    · rintro (⟨rfl, rfl⟩ | ⟨-, i, hi, rfl, rfl⟩)
      · exact ⟨k, by omega, a3.1, a3.2⟩
      · rcases Nat.lt_or_ge i k with q | q
        · exact ⟨i, by omega, (a1 i q).1, (a1 i q).2⟩
        · refine ⟨i + 1, by omega, ?_, ?_⟩
          · rw [(a2 (i + 1) (by omega) (by omega)).1]; rfl
          · rw [(a2 (i + 1) (by omega) (by omega)).2]; rfl
theorem s_Ch_tell {fst : Int} {fh fv : Nat → Int} {N : Nat} {hour value : Int} (h : chOK fh fv N) (hr : 0 ≤ hour ∧ hour < 26280) (hv : 0 ≤ value ∧ value ≤ 5000) (hroom : N < 20 ∨ ∃ i, i < N ∧ fh i = hour) :
    vc_Ch_tell fst fh fv N hour value (toldAs fh fv N hour value) := by
  unfold vc_Ch_tell
  refine ⟨_, s_Ch_countUpTo h ⟨by omega, by omega⟩, ?_⟩
  rintro _ ⟨k, rfl, hk⟩
  have hkN := hk.1
  have hN := h.1
  have hs := h.2.1
  have hb := h.2.2.1
  have ins : N < 20 → (∀ i, i < N → fh i ≠ hour) → ∃ (I : Int → (Nat → Int) → (Nat → Int) → Prop) (μ : Int → (Nat → Int) → (Nat → Int) → Nat), I N fh fv ∧ ∀ (i : Int) (gh : Nat → Int) (gv : Nat → Int), I i gh gv → (r32 i) ∧ ((i ≤ (k : Int) → (0 ≤ (k : Int) ∧ (k : Int) < 20) ∧ ((0 ≤ (k : Int) ∧ (k : Int) < 20) ∧ (toldAs fh fv N hour value (va_up gh ((k : Int)).toNat hour) (va_up gv ((k : Int)).toNat value) ((N : Int) + 1)))) ∧ ((k : Int) < i → (0 ≤ i - 1 ∧ i - 1 < 20) ∧ ((0 ≤ i ∧ i < 20) ∧ ((0 ≤ i - 1 ∧ i - 1 < 20) ∧ ((0 ≤ i ∧ i < 20) ∧ (I (i - 1) (va_up gh (i).toNat (gh (i - 1).toNat)) (va_up gv (i).toNat (gv (i - 1).toNat)) ∧ μ (i - 1) (va_up gh (i).toNat (gh (i - 1).toNat)) (va_up gv (i).toNat (gv (i - 1).toNat)) < μ i gh gv)))))) := by
    intro hN20 hno
    refine ⟨fun i gh gv => ∃ m : Nat, i = m ∧ k ≤ m ∧ m ≤ N ∧ (∀ j, j < m → gh j = fh j ∧ gv j = fv j) ∧ ∀ j, m < j → j ≤ N → gh j = fh (j - 1) ∧ gv j = fv (j - 1), fun i _ _ => i.toNat, ⟨N, rfl, hkN, Nat.le_refl _, fun _ _ => ⟨rfl, rfl⟩, fun j q1 q2 => by omega⟩, ?_⟩
    rintro i gh gv ⟨m, rfl, hm1, hm2, g1, g2⟩
    refine ⟨⟨by omega, by omega⟩, fun q => ⟨⟨by omega, by omega⟩, ⟨by omega, by omega⟩, ?_⟩, fun q => ⟨⟨by omega, by omega⟩, ⟨by omega, by omega⟩, ⟨by omega, by omega⟩, ⟨by omega, by omega⟩, ?_, by dsimp only; omega⟩⟩
    · have e : m = k := by omega
      subst e
      rw [Int.toNat_natCast]
      exact told_ins h hN20 hk hno hr hv g1 g2
    · rw [Int.toNat_natCast, show ((m : Int) - 1).toNat = m - 1 by omega]
      refine ⟨m - 1, by omega, by omega, by omega, fun j hj => ?_, fun j hj hj2 => ?_⟩
      · rw [up_ne (by omega), up_ne (by omega)]; exact g1 j (by omega)
      · by_cases e : j = m
        · subst e
          rw [up_self, up_self]; exact g1 (j - 1) (by omega)
        · rw [up_ne e, up_ne e]; exact g2 j (by omega) hj2
  have none : (k = 0 ∨ fh (k - 1) ≠ hour) → ∀ i, i < N → fh i ≠ hour := by
    intro hc i hi e
    rcases Nat.lt_or_ge i k with q | q
    · rcases hc with hc | hc
      · omega
      · rcases Nat.lt_or_ge i (k - 1) with q2 | q2
        · have := hs i (k - 1) q2 (by omega)
          have := hk.2.1 (k - 1) (by omega)
          omega
        · rw [show i = k - 1 by omega] at e; exact hc e
    · have := hk.2.2 i q hi; omega
  have full : (∀ i, i < N → fh i ≠ hour) → N < 20 := fun q => hroom.elim id (fun ⟨i, hi, e⟩ => absurd e (q i hi))
  refine ⟨⟨by omega, by omega⟩, fun q => ⟨⟨by omega, by omega⟩, fun q2 => ?_, fun q2 => ins (by omega) (none (Or.inl (by omega)))⟩, fun q => ?_⟩
  · have := full (none (Or.inl (by omega))); omega
  · have ei : ((k : Int) - 1).toNat = k - 1 := by omega
    rw [ei]
    have hbd := hb (k - 1) (by omega)
    refine ⟨⟨by omega, by omega⟩, ⟨by omega, by omega⟩, ⟨by omega, by omega⟩, fun q2 => ⟨⟨by omega, by omega⟩, fun q3 => ?_, fun q3 => ins (by omega) (none (Or.inr q2))⟩, fun q2 => ⟨⟨by omega, by omega⟩, told_put h (by omega) q2 hv⟩⟩
    have := full (none (Or.inr q2)); omega
