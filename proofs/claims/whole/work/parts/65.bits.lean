/-! BITS of small numbers. -/
theorem sh_l : ∀ n, n < 32 → ((nI n &&& 31).toBitVec.smod 32).toNat = n := by decide +kernel
theorem iI_nn (n : Nat) : iI (n : Int) = nI n := iI_nat n
theorem bs_shr {T p : Nat} (hT : T < 2147483648) (hp : p < 32) : b_shr (T : Int) (p : Int) = ((T / 2 ^ p : Nat) : Int) := by
  unfold b_shr
  rw [iI_nn, iI_nn, pk_shrN (by omega) _ p (sh_l p hp)]
  exact nI_toInt (Nat.lt_of_le_of_lt (Nat.div_le_self _ _) (by omega))
theorem bs_and1 {T : Nat} (hT : T < 2147483648) : b_and (T : Int) 1 = ((T % 2 : Nat) : Int) := by
  unfold b_and
  rw [iI_nn, show iI 1 = 1 by decide, pk_andN (by omega) 1 (by decide)]
  exact nI_toInt (by omega)
theorem bs_bit {T p : Nat} (hT : T < 2147483648) (hp : p < 32) : b_and (b_shr (T : Int) (p : Int)) 1 = if T.testBit p then 1 else 0 := by
  rw [bs_shr hT hp, bs_and1 (Nat.lt_of_le_of_lt (Nat.div_le_self _ _) hT), Nat.testBit_eq_decide_div_mod_eq]
  by_cases h : T / 2 ^ p % 2 = 1
  · rw [h, if_pos (by simp)]; rfl
  · rw [show T / 2 ^ p % 2 = 0 by omega, if_neg (by simp)]; rfl
theorem nI_or (a b : Nat) : nI a ||| nI b = nI (a ||| b) := by
  apply Int32.toBitVec_inj.mp
  show BitVec.ofNat 32 a ||| BitVec.ofNat 32 b = BitVec.ofNat 32 (a ||| b)
  exact (BitVec.ofNat_or).symm
theorem bs_or {T p : Nat} (hT : T < 4096) (hp : p < 12) : b_or (T : Int) (b_shl 1 (p : Int)) = ((T ||| 2 ^ p : Nat) : Int) ∧ T ||| 2 ^ p < 4096 := by
  have h2 : 2 ^ p < 4096 := Nat.lt_of_lt_of_le (Nat.pow_lt_pow_right (by omega) hp) (by decide)
  have h3 : T ||| 2 ^ p < 4096 := Nat.or_lt_two_pow (n := 12) hT h2
  refine ⟨?_, h3⟩
  have e : b_shl 1 (p : Int) = ((2 ^ p : Nat) : Int) := by
    unfold b_shl
    rw [show iI 1 = nI 1 by decide, iI_nn, pk_shlN _ p (sh_l p (by omega)) (by omega), Nat.one_mul]
    exact nI_toInt (by omega)
  rw [e]
  unfold b_or
  rw [iI_nn, iI_nn, nI_or]
  exact nI_toInt (by omega)
theorem bit_or {T p i : Nat} : (T ||| 2 ^ p).testBit i = (T.testBit i || decide (p = i)) := by
  rw [Nat.testBit_or, Nat.testBit_two_pow]
/-- sums over sets of places -/
theorem ct_sm (p : Nat → Bool) (n : Nat) : ctB p n = smB (fun _ => 1) p n := rfl
theorem sg_at (h : Nat → Int) (g n : Nat) : sg (fun i => if i = g then h i else 0) n = if g < n then h g else 0 := by
  induction n with
  | zero => rfl
  | succ n ih =>
    rw [sg_succ, ih]
    by_cases e : n = g
    · subst e; rw [if_neg (by omega), if_pos rfl, if_pos (by omega)]; omega
    · rw [if_neg e]
      by_cases c : g < n
      · rw [if_pos c, if_pos (by omega)]; omega
      · rw [if_neg c, if_neg (by omega)]; omega
theorem sm_set {h : Nat → Int} {p : Nat → Bool} {g n : Nat} (hg : g < n) (hp : p g = false) : smB h (fun i => p i || decide (g = i)) n = smB h p n + h g := by
  have e := sg_at h g n
  rw [if_pos hg] at e
  unfold smB
  rw [← e, ← sg_add]
  refine sg_congr (fun k hk => ?_)
  by_cases c : g = k
  · subst c; simp [hp]
  · have c2 : ¬ k = g := fun q => c q.symm
    simp [c, c2]
theorem sm_ext {h : Nat → Int} {p q : Nat → Bool} {n : Nat} (e : ∀ i, i < n → p i = q i) : smB h p n = smB h q n := sg_congr (fun k hk => by rw [e k hk])
theorem sm_none {h : Nat → Int} {p : Nat → Bool} {n : Nat} (e : ∀ i, i < n → p i = false) : smB h p n = 0 := by
  have : smB h p n = sg (fun _ => 0) n := sg_congr (fun k hk => by rw [e k hk]; rfl)
  rw [this, sg_zero]
theorem sm_nonneg {h : Nat → Int} {p : Nat → Bool} {n : Nat} (hh : ∀ i, i < n → 0 ≤ h i) : 0 ≤ smB h p n := sg_nonneg (fun k hk => by
  by_cases c : p k = true
  · rw [if_pos c]; exact hh k hk
  · rw [if_neg c]; exact Int.le_refl 0)
theorem sm_mono {h : Nat → Int} {p q : Nat → Bool} {n : Nat} (hh : ∀ i, i < n → 0 ≤ h i) (hpq : ∀ i, i < n → p i = true → q i = true) : smB h p n ≤ smB h q n := by
  induction n with
  | zero => exact Int.le_refl _
  | succ n ih =>
    have := ih (fun i hi => hh i (by omega)) (fun i hi => hpq i (by omega))
    have a := hh n (by omega)
    have b := hpq n (by omega)
    simp only [smB, sg_succ] at this ⊢
    cases hp : p n <;> cases hq : q n <;> simp [hp, hq] at b ⊢ <;> omega
/-- a set that agrees with p below g, holds g, and p holds nothing from g on: its sum in three parts -/
theorem sm_parts {h : Nat → Int} {p q : Nat → Bool} {g n : Nat} (hg : g < n) (hp : ∀ i, g ≤ i → p i = false) (hq : ∀ i, i < g → p i = q i) (hqg : q g = true) : smB h q n = smB h p n + h g + smB h (fun i => decide (g < i) && q i) n := by
  have e := sg_at h g n
  rw [if_pos hg] at e
  unfold smB
  rw [← e, ← sg_add, ← sg_add]
  refine sg_congr (fun k hk => ?_)
  rcases Nat.lt_trichotomy k g with c | c | c
  · rw [hq k c]; simp [show ¬ k = g by omega, show ¬ g < k by omega]
  · subst c; simp [hp k (Nat.le_refl _), hqg]
  · simp [hp k (by omega), show ¬ k = g by omega, c]
theorem sm_parts0 {h : Nat → Int} {p q : Nat → Bool} {g n : Nat} (hp : ∀ i, g ≤ i → p i = false) (hq : ∀ i, i < g → p i = q i) : smB h q n = smB h p n + smB h (fun i => decide (g ≤ i) && q i) n := by
  unfold smB
  rw [← sg_add]
  refine sg_congr (fun k hk => ?_)
  rcases Nat.lt_or_ge k g with c | c
  · rw [hq k c]; simp [show ¬ g ≤ k by omega]
  · simp [hp k c, c]
