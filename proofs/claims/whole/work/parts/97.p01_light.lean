/-! SPEC of light: what an hour gives, which hours are shown, sums over hours. -/
/-- the light of an hour on an object: day, shares, lamps -/
def Brt (dl S : Nat → Int) (L : Nat → Nat → Int) (nl h : Nat) : Int := 3600000 * dl (h % 24) + sg (fun l => 3600 * S l * L l h) nl
/-- is an hour in one of n rows -/
def shB (f t : Nat → Int) : Nat → Nat → Bool
  | 0, _ => false
  | n + 1, h => shB f t n h || (decide (f n ≤ (h : Int)) && decide ((h : Int) < t n))
theorem shB_iff {f t : Nat → Int} {n h : Nat} : shB f t n h = true ↔ ∃ k, k < n ∧ f k ≤ (h : Int) ∧ (h : Int) < t k := by
  induction n with
  | zero => simp [shB]
  | succ n ih =>
    rw [shB, Bool.or_eq_true, ih, Bool.and_eq_true, decide_eq_true_iff, decide_eq_true_iff]
    constructor
    · rintro (⟨k, h1, h2⟩ | h2)
      · exact ⟨k, by omega, h2⟩
      · exact ⟨n, by omega, h2⟩
    · rintro ⟨k, h1, h2⟩
      by_cases e : k = n
      · subst e; exact Or.inr h2
      · exact Or.inl ⟨k, by omega, h2⟩
theorem shB_map {f t f' t' : Nat → Int} {n n' h : Nat} (e : ∀ u v, chMap f t n u v ↔ chMap f' t' n' u v) : shB f t n h = shB f' t' n' h := by
  rw [Bool.eq_iff_iff, shB_iff, shB_iff]
  constructor
  · rintro ⟨k, h1, h2, h3⟩
    obtain ⟨i, a1, a2, a3⟩ := (e _ _).mp ⟨k, h1, rfl, rfl⟩
    exact ⟨i, a1, by omega, by omega⟩
  · rintro ⟨k, h1, h2, h3⟩
    obtain ⟨i, a1, a2, a3⟩ := (e _ _).mpr ⟨k, h1, rfl, rfl⟩
    exact ⟨i, a1, by omega, by omega⟩
/-- what an hour gives that is shown -/
def Wt (B : Nat → Int) (sh : Nat → Bool) (h : Nat) : Int := if sh h = true then B h else 0
/-- all of the hours from a on, before b -/
def rg (f : Nat → Int) (a b : Nat) : Int := sg f b - sg f a
theorem rg_self {f : Nat → Int} {a : Nat} : rg f a a = 0 := by unfold rg; omega
theorem rg_next {f : Nat → Int} {a b : Nat} : rg f a (b + 1) = rg f a b + f b := by unfold rg; rw [sg_succ]; omega
theorem rg_split {f : Nat → Int} {a b c : Nat} : rg f a c = rg f a b + rg f b c := by unfold rg; omega
theorem rg_congr {f g : Nat → Int} {a b : Nat} (hab : a ≤ b) (e : ∀ h, a ≤ h → h < b → f h = g h) : rg f a b = rg g a b := by
  induction b with
  | zero => rw [show a = 0 by omega, rg_self, rg_self]
  | succ b ih =>
    by_cases q : a = b + 1
    · rw [q, rg_self, rg_self]
    · rw [rg_next, rg_next, ih (by omega) (fun h h1 h2 => e h h1 (by omega)), e b (by omega) (by omega)]
theorem rg_nonneg {f : Nat → Int} {a b : Nat} (hab : a ≤ b) (e : ∀ h, a ≤ h → h < b → 0 ≤ f h) : 0 ≤ rg f a b := by
  have := sg_mono e hab; unfold rg; omega
theorem rg_le {f : Nat → Int} {a b : Nat} {M : Int} (hab : a ≤ b) (e : ∀ h, a ≤ h → h < b → f h ≤ M) : rg f a b ≤ ((b - a : Nat) : Int) * M := by
  induction b with
  | zero => rw [show a = 0 by omega, rg_self]; simp
  | succ b ih =>
    by_cases q : a = b + 1
    · rw [q, rg_self]; simp
    · have h1 := ih (by omega) (fun h h1 h2 => e h h1 (by omega))
      have h2 := e b (by omega) (by omega)
      have h3 : ((b + 1 - a : Nat) : Int) * M = ((b - a : Nat) : Int) * M + M := by
        rw [show b + 1 - a = (b - a) + 1 by omega, Int.natCast_add, Int.add_mul]; simp
      rw [rg_next, h3]; omega
theorem rg_add {f g : Nat → Int} {a b : Nat} : rg (fun h => f h + g h) a b = rg f a b + rg g a b := by
  unfold rg; rw [sg_add, sg_add]; omega
theorem rg_zero {f : Nat → Int} {a b : Nat} (hab : a ≤ b) (e : ∀ h, a ≤ h → h < b → f h = 0) : rg f a b = 0 := by
  rw [rg_congr hab (g := fun _ => 0) e]; unfold rg; rw [sg_zero, sg_zero]; rfl
/-- a piece of the hours -/
theorem rg_piece {B : Nat → Int} {a b s e : Nat} (h1 : a ≤ s) (h2 : s ≤ e) (h3 : e ≤ b) : rg (fun h => if s ≤ h ∧ h < e then B h else 0) a b = rg B s e := by
  rw [rg_split (b := s), rg_split (a := s) (b := e)]
  rw [rg_zero h1 (fun h q1 q2 => if_neg (by omega)), rg_zero h3 (fun h q1 q2 => if_neg (by omega))]
  rw [rg_congr h2 (g := B) (fun h q1 q2 => if_pos ⟨q1, q2⟩)]
  omega
theorem Wt_nonneg {B : Nat → Int} {sh : Nat → Bool} {h : Nat} (hb : 0 ≤ B h) : 0 ≤ Wt B sh h := by unfold Wt; split <;> omega
theorem Wt_le {B : Nat → Int} {sh : Nat → Bool} {h : Nat} (hb : 0 ≤ B h) : Wt B sh h ≤ B h := by unfold Wt; split <;> omega
/-- the lamp's light at an hour -/
abbrev lxC (C : LpC) (h : Nat) : Int := lpLux C.wh C.wv C.wn.toNat C.mfst C.mh C.mv C.mn.toNat h
/-- a lamp as the class keeps it -/
def lpCOK (C : LpC) : Prop := (C.wn = (C.wn.toNat : Int)) ∧ (C.mn = (C.mn.toNat : Int)) ∧ lpOK C.wh C.wv C.wn.toNat C.mfst C.mh C.mv C.mn.toNat C.ps C.pl C.pt C.np
theorem lpLux_range {wh wv : Nat → Int} {WN : Nat} {md : Int} {mh mv : Nat → Int} {MN h : Nat} (hf : 0 ≤ md ∧ md ≤ 5000) (hm : chOK mh mv MN) : 0 ≤ lpLux wh wv WN md mh mv MN h ∧ lpLux wh wv WN md mh mv MN h ≤ 5000 := by
  unfold lpLux
  split
  · exact chv_range hf hm.2.2.2
  · omega
theorem lxC_range {C : LpC} {h : Nat} (hc : lpCOK C) : 0 ≤ lxC C h ∧ lxC C h ≤ 5000 := lpLux_range hc.2.2.2.2.1 hc.2.2.2.1
/-- bounds of the light of an hour -/
theorem Brt_range {dl S : Nat → Int} {L : Nat → Nat → Int} {nl h : Nat} (hd : ∀ t, t < 24 → 0 ≤ dl t ∧ dl t ≤ 5000) (hS : ∀ l, l < nl → 0 ≤ S l ∧ S l ≤ 1000) (hL : ∀ l, l < nl → 0 ≤ L l h ∧ L l h ≤ 5000) (hn : nl ≤ 8) : 0 ≤ Brt dl S L nl h ∧ Brt dl S L nl h ≤ 162000000000 := by
  have hd1 := hd (h % 24) (by omega)
  have m : ∀ l, l < nl → 0 ≤ 3600 * S l * L l h ∧ 3600 * S l * L l h ≤ 18000000000 := fun l hl => by
    have a := hS l hl
    have b := hL l hl
    have c1 : 0 ≤ S l * L l h := Int.mul_nonneg a.1 b.1
    have c2 : S l * L l h ≤ 1000 * 5000 := Int.mul_le_mul a.2 b.2 b.1 (by omega)
    rw [Int.mul_assoc]
    omega
  have h1 : 0 ≤ sg (fun l => 3600 * S l * L l h) nl := sg_nonneg (fun k hk => (m k hk).1)
  have h2 : sg (fun l => 3600 * S l * L l h) nl ≤ (nl : Int) * 18000000000 := sg_le (fun k hk => (m k hk).2)
  unfold Brt
  omega
theorem Brt_congr {dl S dl' S' : Nat → Int} {L L' : Nat → Nat → Int} {nl h : Nat} (hd : ∀ t, t < 24 → dl t = dl' t) (hS : ∀ l, l < nl → S l = S' l) (hL : ∀ l, l < nl → L l h = L' l h) : Brt dl S L nl h = Brt dl' S' L' nl h := by
  unfold Brt
  rw [hd _ (by omega), sg_congr (fun k hk => by rw [hS k hk, hL k hk])]
/-- sums over hours of the light, lamp by lamp -/
theorem sg_Brt {dl S : Nat → Int} {L : Nat → Nat → Int} {nl n : Nat} : sg (Brt dl S L nl) n = 3600000 * sg (fun t => dl (t % 24)) n + sg (fun l => 3600 * S l * sg (L l) n) nl := by
  induction n with
  | zero =>
    have : sg (fun l => 3600 * S l * sg (L l) 0) nl = 0 := by
      rw [sg_congr (g := fun _ => 0) (fun k _ => by simp [sg]), sg_zero]
    rw [this]; simp [sg]
  | succ n ih =>
    have e : sg (fun l => 3600 * S l * sg (L l) (n + 1)) nl = sg (fun l => 3600 * S l * sg (L l) n) nl + sg (fun l => 3600 * S l * L l n) nl := by
      rw [← sg_add]
      exact sg_congr (fun k _ => by rw [sg_succ, Int.mul_add])
    rw [sg_succ, ih, e, sg_succ]
    unfold Brt
    omega
