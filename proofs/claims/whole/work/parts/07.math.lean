/-! MATH: sums from 0 on, searches by halving steps. -/
def sg (f : Nat → Int) : Nat → Int
  | 0 => 0
  | n + 1 => sg f n + f n
theorem sg_succ (f : Nat → Int) (n : Nat) : sg f (n + 1) = sg f n + f n := rfl
theorem sg_congr {f g : Nat → Int} {n : Nat} (h : ∀ k, k < n → f k = g k) : sg f n = sg g n := by
  induction n with
  | zero => rfl
  | succ n ih => rw [sg_succ, sg_succ, ih (fun k hk => h k (by omega)), h n (by omega)]
theorem sg_nonneg {f : Nat → Int} {n : Nat} (h : ∀ k, k < n → 0 ≤ f k) : 0 ≤ sg f n := by
  induction n with
  | zero => exact Int.le_refl 0
  | succ n ih => have := ih (fun k hk => h k (by omega)); have := h n (by omega); rw [sg_succ]; omega
theorem sg_mono {f : Nat → Int} {a b : Nat} (h : ∀ k, a ≤ k → k < b → 0 ≤ f k) (hab : a ≤ b) : sg f a ≤ sg f b := by
  induction b with
  | zero => have : a = 0 := by omega
            rw [this]; exact Int.le_refl _
  | succ b ih =>
    by_cases hb : a = b + 1
    · rw [hb]; exact Int.le_refl _
    · have := ih (fun k h1 h2 => h k h1 (by omega)) (by omega)
      have := h b (by omega) (by omega)
      rw [sg_succ]; omega
theorem sg_le {f : Nat → Int} {M : Int} {n : Nat} (h : ∀ k, k < n → f k ≤ M) : sg f n ≤ (n : Int) * M := by
  induction n with
  | zero => simp [sg]
  | succ n ih =>
    have h1 := ih (fun k hk => h k (by omega))
    have h2 := h n (by omega)
    have h3 : ((n + 1 : Nat) : Int) * M = (n : Int) * M + M := by rw [Int.natCast_add, Int.add_mul]; simp
    rw [sg_succ, h3]; omega
theorem sg_add (f g : Nat → Int) (n : Nat) : sg (fun k => f k + g k) n = sg f n + sg g n := by
  induction n with
  | zero => rfl
  | succ n ih => simp only [sg_succ, ih]; omega
theorem sg_mul (c : Int) (f : Nat → Int) (n : Nat) : sg (fun k => c * f k) n = c * sg f n := by
  induction n with
  | zero => simp [sg]
  | succ n ih => simp only [sg_succ, ih, Int.mul_add]
theorem sg_zero (n : Nat) : sg (fun _ => 0) n = 0 := by
  induction n with
  | zero => rfl
  | succ n ih => rw [sg_succ, ih]; rfl
/-- the sum of the stretch a .. b - 1 of one value -/
theorem sg_flat {f : Nat → Int} {a b : Nat} {c : Int} (hab : a ≤ b) (h : ∀ k, a ≤ k → k < b → f k = c) : sg f b = sg f a + c * ((b : Int) - a) := by
  induction b with
  | zero => have : a = 0 := by omega
            subst this; simp
  | succ b ih =>
    by_cases hb : a = b + 1
    · subst hb; simp
    · have h1 := ih (by omega) (fun k h1 h2 => h k h1 (by omega))
      rw [sg_succ, h1, h b (by omega) (by omega)]
      have h3 : c * (((b + 1 : Nat) : Int) - a) = c * ((b : Int) - a) + c := by
        rw [show (((b + 1 : Nat) : Int) - a) = ((b : Int) - a) + 1 by omega, Int.mul_add, Int.mul_one]
      rw [h3]; omega
theorem sg_split {f : Nat → Int} {a b : Nat} (hab : a ≤ b) : sg f b = sg f a + sg (fun k => f (a + k)) (b - a) := by
  induction b with
  | zero => have : a = 0 := by omega
            subst this; simp [sg]
  | succ b ih =>
    by_cases hb : a = b + 1
    · subst hb; simp [sg]
    · rw [show b + 1 - a = (b - a) + 1 by omega, sg_succ, sg_succ, ih (by omega), show a + (b - a) = b by omega]; omega
/-- the same sum over a stretch where two functions agree -/
theorem sg_stretch {f g : Nat → Int} {a b : Nat} (hab : a ≤ b) (h : ∀ k, a ≤ k → k < b → f k = g k) : sg f b - sg f a = sg g b - sg g a := by
  rw [sg_split (f := f) hab, sg_split (f := g) hab, sg_congr (f := fun k => f (a + k)) (g := fun k => g (a + k)) (fun k hk => h _ (by omega) (by omega))]
  omega
theorem sg_day (lux : Nat → Int) (n : Nat) : sg (fun h => lux (h % 24)) n = ((n / 24 : Nat) : Int) * sg lux 24 + sg lux (n % 24) := by
  induction n with
  | zero => simp [sg]
  | succ n ih =>
    rw [sg_succ, ih]
    by_cases h : n % 24 = 23
    · have e1 : (n + 1) / 24 = n / 24 + 1 := by omega
      have e2 : (n + 1) % 24 = 0 := by omega
      rw [e1, e2, h, Int.natCast_add, Int.add_mul]
      show _ + (sg lux 23) + lux 23 = _ + ((1 : Nat) : Int) * (sg lux 23 + lux 23) + 0
      omega
    · have e1 : (n + 1) / 24 = n / 24 := by omega
      have e2 : (n + 1) % 24 = n % 24 + 1 := by omega
      rw [e1, e2, sg_succ lux (n % 24)]; omega
/-- so many of the n sorted places are up to h -/
def upTo (f : Nat → Int) (n : Nat) (h : Int) (k : Nat) : Prop := k ≤ n ∧ (∀ i, i < k → f i ≤ h) ∧ ∀ i, k ≤ i → i < n → h < f i
theorem upTo_one {f : Nat → Int} {n k k' : Nat} {h : Int} (h1 : upTo f n h k) (h2 : upTo f n h k') : k = k' := by
  rcases Nat.lt_trichotomy k k' with q | q | q
  · have := h1.2.2 k (Nat.le_refl _) (by have := h2.1; omega)
    have := h2.2.1 k q
    omega
  · exact q
  · have := h2.2.2 k' (Nat.le_refl _) (by have := h1.1; omega)
    have := h1.2.1 k' q
    omega
def srt (f : Nat → Int) (n : Nat) : Prop := ∀ i j, i < j → j < n → f i < f j
theorem upTo_mono {f : Nat → Int} {n k k' : Nat} {h h' : Int} (h1 : upTo f n h k) (h2 : upTo f n h' k') (hh : h ≤ h') : k ≤ k' := by
  rcases Nat.lt_or_ge k' k with q | q
  · have := h2.2.2 k' (Nat.le_refl _) (by have := h1.1; omega)
    have := h1.2.1 k' q
    omega
  · exact q
/-! picks: a set of places as a function to Bool; its sum and its number over the places below n -/
def smB (h : Nat → Int) (p : Nat → Bool) : Nat → Int := sg (fun i => if p i then h i else 0)
def ctB (p : Nat → Bool) : Nat → Int := sg (fun i => if p i then 1 else 0)
/-- a set that holds the places of value v and more, and none but such: no other set of at most as many places has more -/
theorem topB {h : Nat → Int} {p T : Nat → Bool} {v : Int} {n : Nat} (hT : ∀ i, i < n → T i = true → v ≤ h i) (hN : ∀ i, i < n → T i = false → p i = true → h i ≤ v) :
    smB h p n - smB h T n ≤ v * (ctB p n - ctB T n) := by
  induction n with
  | zero => simp [smB, ctB, sg]
  | succ n ih =>
    have h1 := ih (fun i hi => hT i (by omega)) (fun i hi => hN i (by omega))
    simp only [smB, ctB, sg_succ] at h1 ⊢
    have a1 := hT n (by omega)
    have a2 := hN n (by omega)
    have e : ∀ x y : Int, v * (x - y) = v * x - v * y := fun x y => Int.mul_sub v x y
    rw [e] at h1 ⊢
    have e2 : ∀ x y : Int, v * (x + y) = v * x + v * y := fun x y => Int.mul_add v x y
    rw [e2, e2]
    cases hp : p n <;> cases ht : T n <;> simp [hp, ht] at a1 a2 ⊢ <;> omega
theorem topB_le {h : Nat → Int} {p T : Nat → Bool} {v : Int} {n : Nat} (hv : 0 ≤ v) (hT : ∀ i, i < n → T i = true → v ≤ h i) (hN : ∀ i, i < n → T i = false → p i = true → h i ≤ v) (hc : ctB p n ≤ ctB T n) : smB h p n ≤ smB h T n := by
  have h1 := topB hT hN
  have h2 : v * (ctB p n - ctB T n) ≤ 0 := Int.mul_nonpos_of_nonneg_of_nonpos hv (by omega)
  omega
