/-! SPEC of Book: the most hours of so many pages, the fewest pages, the lowest ones. -/
def bkOK (kh : Nat → Int) (K : Nat) : Prop := K ≤ 12 ∧ ∀ i, i < K → 0 ≤ kh i ∧ kh i ≤ 30000
def supp (p : Nat → Bool) (a b : Nat) : Prop := ∀ i, p i = true → a ≤ i ∧ i < b
/-- z is the largest sum of at most c pages of a .. K - 1 -/
def isMost (kh : Nat → Int) (a K : Nat) (c z : Int) : Prop := (∃ p, supp p a K ∧ ctB p K ≤ c ∧ smB kh p K = z) ∧ ∀ q, supp q a K → ctB q K ≤ c → smB kh q K ≤ z
theorem most_bound {kh : Nat → Int} {a K : Nat} {c z : Int} (h : bkOK kh K) (hm : isMost kh a K c z) : 0 ≤ z ∧ z ≤ 360000 := by
  obtain ⟨⟨p, -, -, rfl⟩, -⟩ := hm
  refine ⟨sm_nonneg (fun i hi => (h.2 i hi).1), ?_⟩
  have : smB kh p K ≤ (K : Int) * 30000 := sg_le (fun k hk => by
    have := h.2 k hk
    by_cases c : p k = true
    · rw [if_pos c]; omega
    · rw [if_neg c]; omega)
  have := h.1
  omega
theorem s_Bk_mostHours {kh kc : Nat → Int} {K a : Nat} {kn c : Int} (h : bkOK kh K) (ha : a ≤ 12) (hc0 : 0 ≤ c) (hc : c ≤ 12) : vc_Bk_mostHours kh kc K kn a c (isMost kh a K c) := by
  have hK := h.1
  have hh : ∀ i, i < K → 0 ≤ kh i := fun i hi => (h.2 i hi).1
  unfold vc_Bk_mostHours
  refine ⟨fun tot tk i => ∃ (T n : Nat) (v : Int), tk = T ∧ T < 4096 ∧ i = n ∧ (n : Int) ≤ c ∧ supp T.testBit a K ∧ ctB T.testBit K = n ∧ tot = smB kh T.testBit K ∧ 0 ≤ v ∧ (∀ j, j < K → T.testBit j = true → v ≤ kh j) ∧ ∀ j, a ≤ j → j < K → T.testBit j = false → kh j ≤ v, fun _ _ i => (12 - i).toNat, ?_, ?_⟩
  · refine ⟨0, 0, 30000, rfl, by omega, rfl, hc0, fun i hi => by simp at hi, ?_, ?_, by omega, fun j _ hj => by simp at hj, fun j _ hj _ => (h.2 j hj).2⟩
    · rw [ct_sm, sm_none (fun i _ => by simp)]; rfl
    · rw [sm_none (fun i _ => by simp)]
  · rintro tot tk i ⟨T, n, v, rfl, hT, rfl, hn, hs, hct, rfl, hv0, hv1, hv2⟩
    refine ⟨⟨by omega, by omega⟩, ⟨by omega, by omega⟩, fun q => ?_, fun q => ?_⟩
    · refine ⟨⟨_, hs, by omega, rfl⟩, fun p hp hpc => ?_⟩
      exact topB_le hv0 hv1 (fun j hj hTj hpj => hv2 j (hp j hpj).1 hj hTj) (by omega)
    · refine ⟨fun best pg => ∃ g : Nat, pg = g ∧ a ≤ g ∧ (g ≤ K ∨ g = a) ∧ ((best = -1 ∧ ∀ j, a ≤ j → j < g → j < K → T.testBit j = true) ∨ ∃ b : Nat, best = b ∧ a ≤ b ∧ b < g ∧ b < K ∧ T.testBit b = false ∧ ∀ j, a ≤ j → j < g → j < K → T.testBit j = false → kh j ≤ kh b), fun _ pg => (24 - pg).toNat, ⟨a, rfl, Nat.le_refl _, Or.inr rfl, Or.inl ⟨rfl, fun j q1 q2 => by omega⟩⟩, ?_⟩
      rintro best pg ⟨g, rfl, hg1, hg2, hbest⟩
      refine ⟨⟨by omega, by omega⟩, ⟨by omega, by omega⟩, fun q2 => ?_, fun q2 => ?_⟩
      · rcases hbest with ⟨rfl, hall⟩ | ⟨b, rfl, hb1, hb2, hb3, hb4, hb5⟩
        · refine ⟨by decide, fun q3 => absurd rfl q3, fun _ => ⟨⟨_, hs, by omega, rfl⟩, fun p hp _ => ?_⟩⟩
          exact sm_mono hh (fun j hj hpj => hall j (hp j hpj).1 (by omega) hj)
        · rw [Int.toNat_natCast]
          obtain ⟨e1, e2⟩ := bs_or hT (show b < 12 by omega)
          refine ⟨⟨by omega, by omega⟩, fun _ => ⟨⟨by omega, by omega⟩, ?_, by dsimp only; omega⟩, fun q3 => by omega⟩
          have ebit : ∀ j, (T ||| 2 ^ b).testBit j = (T.testBit j || decide (b = j)) := fun j => bit_or
          have efun : (T ||| 2 ^ b).testBit = fun j => T.testBit j || decide (b = j) := funext ebit
          refine ⟨T ||| 2 ^ b, n + 1, kh b, e1, e2, by omega, by omega, fun j hj => ?_, ?_, ?_, hh b hb3, fun j hj hTj => ?_, fun j hj1 hj2 hTj => ?_⟩
          · rw [ebit] at hj
            by_cases c2 : b = j
            · subst c2; exact ⟨hb1, hb3⟩
            · simp [c2] at hj; exact hs j hj
          · rw [efun, ct_sm, sm_set hb3 hb4, ← ct_sm, hct]; omega
          · rw [efun, sm_set hb3 hb4]
          · rw [ebit] at hTj
            by_cases c2 : b = j
            · subst c2; exact Int.le_refl _
            · simp [c2] at hTj
              have r1 := hv1 j hj hTj
              have r2 := hv2 b hb1 hb3 hb4
              omega
          · rw [ebit] at hTj
            simp at hTj
            exact hb5 j hj1 (by omega) hj2 hTj.1
      · have hgK : g < K := by omega
        have ebb := bs_bit (T := T) (p := g) (by omega) (by omega)
        rw [ebb]
        have nxt : ∀ best' : Int, ((best' = -1 ∧ ∀ j, a ≤ j → j < g + 1 → j < K → T.testBit j = true) ∨ ∃ b : Nat, best' = b ∧ a ≤ b ∧ b < g + 1 ∧ b < K ∧ T.testBit b = false ∧ ∀ j, a ≤ j → j < g + 1 → j < K → T.testBit j = false → kh j ≤ kh b) → (∃ g' : Nat, (g : Int) + 1 = g' ∧ a ≤ g' ∧ (g' ≤ K ∨ g' = a) ∧ ((best' = -1 ∧ ∀ j, a ≤ j → j < g' → j < K → T.testBit j = true) ∨ ∃ b : Nat, best' = b ∧ a ≤ b ∧ b < g' ∧ b < K ∧ T.testBit b = false ∧ ∀ j, a ≤ j → j < g' → j < K → T.testBit j = false → kh j ≤ kh b)) := fun best' hb' => ⟨g + 1, by omega, by omega, Or.inl (by omega), hb'⟩
        have hgb := h.2 g hgK
        cases ht : T.testBit g with
        | true =>
          refine ⟨by decide, fun _ => ⟨nxt best ?_, by dsimp only; omega⟩, fun q3 => absurd q3 (by decide)⟩
          rcases hbest with ⟨rfl, hall⟩ | ⟨b, rfl, hb1, hb2, hb3, hb4, hb5⟩
          · refine Or.inl ⟨rfl, fun j q3 q4 q5 => ?_⟩
            by_cases c2 : j = g
            · rw [c2]; exact ht
            · exact hall j q3 (by omega) q5
          · refine Or.inr ⟨b, rfl, hb1, by omega, hb3, hb4, fun j q3 q4 q5 q6 => ?_⟩
            by_cases c2 : j = g
            · rw [c2, ht] at q6; cases q6
            · exact hb5 j q3 (by omega) q5 q6
        | false =>
          refine ⟨by decide, fun q3 => absurd rfl q3, fun _ => ?_⟩
          rcases hbest with ⟨rfl, hall⟩ | ⟨b, rfl, hb1, hb2, hb3, hb4, hb5⟩
          · refine ⟨by decide, fun _ => ⟨nxt g (Or.inr ⟨g, rfl, hg1, by omega, hgK, ht, fun j q3 q4 q5 q6 => ?_⟩), by dsimp only; omega⟩, fun q3 => absurd rfl q3⟩
            by_cases c2 : j = g
            · rw [c2]; exact Int.le_refl _
            · rw [hall j q3 (by omega) q5] at q6; cases q6
          · rw [Int.toNat_natCast, Int.toNat_natCast]
            have hbb := h.2 b hb3
            refine ⟨⟨by omega, by omega⟩, fun q3 => by omega, fun _ => ⟨⟨by omega, by omega⟩, ⟨by omega, by omega⟩, ⟨by omega, by omega⟩, ⟨by omega, by omega⟩, fun q4 => ⟨nxt b (Or.inr ⟨b, rfl, hb1, by omega, hb3, hb4, fun j r1 r2 r3 r4 => ?_⟩), by dsimp only; omega⟩, fun q4 => ⟨nxt g (Or.inr ⟨g, rfl, hg1, by omega, hgK, ht, fun j r1 r2 r3 r4 => ?_⟩), by dsimp only; omega⟩⟩⟩
            · by_cases c2 : j = g
              · rw [c2]; exact q4
              · exact hb5 j r1 (by omega) r3 r4
            · by_cases c2 : j = g
              · rw [c2]; exact Int.le_refl _
              · have := hb5 j r1 (by omega) r3 r4; omega
/-- the fewest pages, and no fewer -/
def isFewest (kh : Nat → Int) (K : Nat) (need z : Int) : Prop := (z = -1 ∧ ∀ q, supp q 0 K → smB kh q K < need) ∨ ∃ c : Nat, z = c ∧ 1 ≤ c ∧ c ≤ K ∧ (∃ p, supp p 0 K ∧ ctB p K ≤ c ∧ need ≤ smB kh p K) ∧ ∀ q, supp q 0 K → ctB q K < c → smB kh q K < need
theorem ct_le {p : Nat → Bool} {n : Nat} : ctB p n ≤ n := by
  have : ctB p n ≤ (n : Int) * 1 := sg_le (fun k _ => by split <;> omega)
  omega
theorem s_Bk_fewestPages {kh kc : Nat → Int} {K : Nat} {kn need : Int} (h : bkOK kh K) (hn : 1 ≤ need ∧ need ≤ 30000) : vc_Bk_fewestPages kh kc K kn need (isFewest kh K need) := by
  have hK := h.1
  unfold vc_Bk_fewestPages
  refine ⟨fun i => ∃ c : Nat, i = c ∧ 1 ≤ c ∧ c ≤ K + 1 ∧ ∀ q, supp q 0 K → ctB q K < c → smB kh q K < need, fun i => (20 - i).toNat, ⟨1, rfl, by omega, by omega, fun q hq hc => ?_⟩, ?_⟩
  · have hz : ∀ i, i < K → q i = false := fun i hi => by
      cases hqi : q i with
      | false => rfl
      | true =>
        have h1 : smB (fun _ => 1) (fun j => decide (j = i)) K ≤ smB (fun _ => 1) q K := sm_mono (fun _ _ => by decide) (fun j _ hj => by
          have : j = i := by simpa using hj
          rw [this]; exact hqi)
        have h2 : smB (fun _ => 1) (fun j => decide (j = i)) K = 1 := by
          have := sg_at (fun _ => 1) i K
          rw [if_pos hi] at this
          refine Eq.trans (sg_congr (fun k _ => ?_)) this
          by_cases e : k = i <;> simp [e]
        rw [ct_sm] at hc
        omega
    rw [sm_none hz]; omega
  · rintro i ⟨c, rfl, hc1, hc2, hq⟩
    refine ⟨⟨by omega, by omega⟩, ⟨by omega, by omega⟩, fun q => Or.inl ⟨rfl, fun p hp => hq p hp ?_⟩, fun q => ?_⟩
    · have := ct_le (p := p) (n := K); omega
    · refine ⟨_, s_Bk_mostHours (a := 0) h (by omega) (by omega) (by omega), fun z hz => ?_⟩
      have hzb := most_bound h hz
      refine ⟨⟨by omega, by omega⟩, ⟨by omega, by omega⟩, fun q2 => ⟨⟨c + 1, by omega, by omega, by omega, fun p hp hpc => ?_⟩, by dsimp only; omega⟩, fun q2 => Or.inr ⟨c, rfl, hc1, by omega, ?_, hq⟩⟩
      · have := hz.2 p hp (by omega); omega
      · obtain ⟨⟨p, p1, p2, p3⟩, -⟩ := hz
        exact ⟨p, p1, p2, by omega⟩
/-- a set of pages that will do -/
def fitsB (kh : Nat → Int) (K : Nat) (c need : Int) (q : Nat → Bool) : Prop := supp q 0 K ∧ ctB q K ≤ c ∧ need ≤ smB kh q K
/-- p is the one with the lowest pages: at the first place where another one differs, p has the page -/
def lowB (p q : Nat → Bool) : Prop := (∀ i, p i = q i) ∨ ∃ d, (∀ i, i < d → p i = q i) ∧ p d = true ∧ q d = false
theorem lowB_anti {p q : Nat → Bool} (h : lowB p q) (h' : lowB q p) : ∀ i, p i = q i := by
  rcases h with h | ⟨d, h1, h2, h3⟩
  · exact h
  · rcases h' with h' | ⟨e, k1, k2, k3⟩
    · exact fun i => (h' i).symm
    · rcases Nat.lt_trichotomy d e with q | q | q
      · rw [k1 d q] at h3; rw [h2] at h3; cases h3
      · subst q; rw [h2] at k3; cases k3
      · rw [h1 e q] at k3; rw [k2] at k3; cases k3
/-- gc holds the places of p below g, in their order, n of them -/
def listsB (p : Nat → Bool) (gc : Nat → Int) (n : Nat) : Prop := (∀ j, j < n → ∃ i : Nat, gc j = i ∧ p i = true) ∧ (∀ j k, j < k → k < n → gc j < gc k) ∧ ∀ i, p i = true → ∃ j, j < n ∧ gc j = i
theorem listsB_ext {p q : Nat → Bool} {gc : Nat → Int} {n : Nat} (e : ∀ i, p i = q i) (h : listsB p gc n) : listsB q gc n := by
  have : p = q := funext e
  rw [← this]; exact h
theorem s_Bk_choose {kh kc : Nat → Int} {K c : Nat} {kn need : Int} (h : bkOK kh K) (hn : 1 ≤ need ∧ need ≤ 30000) (hc1 : 1 ≤ c) (hc2 : c ≤ K) (hex : ∃ p, fitsB kh K c need p) (hmin : ∀ q, supp q 0 K → ctB q K < c → smB kh q K < need) :
    vc_Bk_choose kh kc K kn c need (fun kc' kn' => kn' = c ∧ ∃ p, fitsB kh K c need p ∧ listsB p kc' c ∧ ∀ q, fitsB kh K c need q → lowB p q) := by
  have hK := h.1
  have hh : ∀ i, i < K → 0 ≤ kh i := fun i hi => (h.2 i hi).1
  unfold vc_Bk_choose
  refine ⟨fun ms pg gc gn => ∃ (g n : Nat) (p : Nat → Bool), pg = g ∧ g ≤ K ∧ gn = n ∧ n ≤ c ∧ supp p 0 g ∧ ctB p K = n ∧ ms = need - smB kh p K ∧ listsB p gc n ∧ (∃ r, supp r g K ∧ ctB r K ≤ (c : Int) - n ∧ ms ≤ smB kh r K) ∧ ∀ q, fitsB kh K c need q → (∀ i, i < g → p i = q i) ∨ ∃ d, d < g ∧ (∀ i, i < d → p i = q i) ∧ p d = true ∧ q d = false, fun _ pg _ _ => (20 - pg).toNat, ?_, ?_⟩
  · obtain ⟨p, f1, f2, f3⟩ := hex
    refine ⟨0, 0, fun _ => false, rfl, by omega, rfl, by omega, fun i hi => (by cases hi), ?_, ?_, ⟨fun j hj => (by omega), fun j k _ hk => (by omega), fun i hi => (by cases hi)⟩, ⟨p, f1, by omega, by omega⟩, fun q _ => Or.inl (fun i hi => by omega)⟩
    · rw [ct_sm, sm_none (fun _ _ => rfl)]; rfl
    · rw [sm_none (fun _ _ => rfl)]; omega
  · rintro ms pg gc gn ⟨g, n, p, rfl, hg, rfl, hnc, hs, hct, rfl, hls, ⟨r, r1, r2, r3⟩, hlow⟩
    have hp0 : ∀ i, g ≤ i → p i = false := fun i hi => by
      cases hpi : p i with
      | false => rfl
      | true => have := hs i hpi; omega
    have hsK : supp p 0 K := fun i hi => ⟨by omega, by have := hs i hi; omega⟩
    have sb : 0 ≤ smB kh p K ∧ smB kh p K ≤ 360000 := by
      refine ⟨sm_nonneg hh, ?_⟩
      have : smB kh p K ≤ (K : Int) * 30000 := sg_le (fun k hk => by
        have := h.2 k hk
        by_cases c : p k = true
        · rw [if_pos c]; omega
        · rw [if_neg c]; omega)
      omega
    -- nothing more can come: the end
    have fin : smB kh r K = 0 → (∀ q, fitsB kh K c need q → (∀ i, i < g → p i = q i) → ∀ i, p i = q i) → ((n : Int) = c ∧ ∃ p, fitsB kh K c need p ∧ listsB p gc c ∧ ∀ q, fitsB kh K c need q → lowB p q) := by
      intro hr0 hq0
      have hsum : need ≤ smB kh p K := by omega
      have hnc2 : n = c := by
        rcases Nat.lt_or_ge n c with u | u
        · have := hmin p hsK (by omega); omega
        · omega
      subst hnc2
      refine ⟨rfl, p, ⟨hsK, by omega, hsum⟩, hls, fun q hq => ?_⟩
      rcases hlow q hq with u | ⟨d, d0, d1, d2, d3⟩
      · exact Or.inl (hq0 q hq u)
      · exact Or.inr ⟨d, d1, d2, d3⟩
    refine ⟨⟨by omega, by omega⟩, ⟨by omega, by omega⟩, fun q => ?_, fun q => ⟨⟨by omega, by omega⟩, ⟨by omega, by omega⟩, fun q2 => ?_, fun q2 => ?_⟩⟩
    · refine fin (sm_none (fun i hi => ?_)) (fun q' hq' hag i => ?_)
      · cases hri : r i with
        | false => rfl
        | true => have := r1 i hri; omega
      · rcases Nat.lt_or_ge i g with u | u
        · exact hag i u
        · rw [hp0 i u]
          cases hqi : q' i with
          | false => rfl
          | true => have := hq'.1 i hqi; omega
    · have zero : ∀ (w : Nat → Bool), ctB w K ≤ 0 → ∀ i, i < K → w i = false := fun w hw i hi => by
        cases hwi : w i with
        | false => rfl
        | true =>
          have h1 : smB (fun _ => 1) (fun j => decide (j = i)) K ≤ smB (fun _ => 1) w K := sm_mono (fun _ _ => by decide) (fun j _ hj => by
            have : j = i := by simpa using hj
            rw [this]; exact hwi)
          have h2 : smB (fun _ => 1) (fun j => decide (j = i)) K = 1 := by
            have := sg_at (fun _ => 1) i K
            rw [if_pos hi] at this
            refine Eq.trans (sg_congr (fun k _ => ?_)) this
            by_cases e : k = i <;> simp [e]
          rw [ct_sm] at hw
          omega
      refine fin (sm_none (fun i hi => zero r (by omega) i hi)) (fun q' hq' hag i => ?_)
      rcases Nat.lt_or_ge i g with u | u
      · exact hag i u
      · rw [hp0 i u]
        rcases Nat.lt_or_ge i K with u2 | u2
        · have e := sm_parts0 (h := fun _ => 1) (n := K) hp0 hag
          have hq2 := hq'.2.1
          rw [ct_sm] at hq2 hct
          have := zero (fun j => decide (g ≤ j) && q' j) (by rw [ct_sm]; omega) i u2
          simp [u] at this
          exact this.symm
        · cases hqi : q' i with
          | false => rfl
          | true => have := hq'.1 i hqi; omega
    · have hgb := h.2 g (by omega)
      refine ⟨⟨by omega, by omega⟩, _, s_Bk_mostHours (a := g + 1) h (by omega) (by omega) (by omega), fun z hz => ?_⟩
      have hzb := most_bound h hz
      rw [Int.toNat_natCast]
      refine ⟨⟨by omega, by omega⟩, ⟨by omega, by omega⟩, fun q3 => ⟨⟨g + 1, n, p, by omega, by omega, rfl, hnc, fun i hi => ⟨by omega, by have := hs i hi; omega⟩, hct, rfl, hls, ⟨r, fun i hi => ?_, r2, r3⟩, fun q' hq' => ?_⟩, by dsimp only; omega⟩, fun q3 => ⟨⟨by omega, by omega⟩, ⟨by omega, by omega⟩, ?_, by dsimp only; omega⟩⟩
      · have hi0 := r1 i hi
        refine ⟨?_, hi0.2⟩
        rcases Nat.lt_or_ge g i with u | u
        · exact u
        · exfalso
          have e : i = g := by omega
          subst e
          have e1 := sm_parts (h := kh) (p := fun _ => false) (q := r) (g := i) (n := K) hi0.2 (fun _ _ => rfl) (fun j hj => by
            cases hrj : r j with
            | false => rfl
            | true => have := r1 j hrj; omega) hi
          have e2 := sm_parts (h := fun _ => 1) (p := fun _ => false) (q := r) (g := i) (n := K) hi0.2 (fun _ _ => rfl) (fun j hj => by
            cases hrj : r j with
            | false => rfl
            | true => have := r1 j hrj; omega) hi
          rw [sm_none (fun _ _ => rfl)] at e1 e2
          have := hz.2 (fun j => decide (i < j) && r j) (fun j hj => by
            simp at hj; have := r1 j hj.2; omega) (by rw [ct_sm]; rw [ct_sm] at r2; omega)
          omega
      · rcases hlow q' hq' with u | ⟨d, d0, d1, d2, d3⟩
        · cases hqg : q' g with
          | false =>
            refine Or.inl (fun i hi => ?_)
            rcases Nat.lt_or_ge i g with u2 | u2
            · exact u i u2
            · rw [show i = g by omega, hp0 g (Nat.le_refl _), hqg]
          | true =>
            exfalso
            have e1 := sm_parts (h := kh) (p := p) (q := q') (g := g) (n := K) (by omega) hp0 u hqg
            have e2 := sm_parts (h := fun _ => 1) (p := p) (q := q') (g := g) (n := K) (by omega) hp0 u hqg
            have hq2 := hq'.2.1
            have hq3 := hq'.2.2
            rw [ct_sm] at hq2 hct
            have := hz.2 (fun j => decide (g < j) && q' j) (fun j hj => by
              simp at hj; have := hq'.1 j hj.2; omega) (by rw [ct_sm]; omega)
            omega
        · exact Or.inr ⟨d, by omega, d1, d2, d3⟩
      · obtain ⟨⟨r', s1, s2, s3⟩, -⟩ := hz
        have ect : ctB (fun i => p i || decide (g = i)) K = ctB p K + 1 := by rw [ct_sm, ct_sm]; exact sm_set (by omega) (hp0 g (Nat.le_refl _))
        have esm : smB kh (fun i => p i || decide (g = i)) K = smB kh p K + kh g := sm_set (by omega) (hp0 g (Nat.le_refl _))
        refine ⟨g + 1, n + 1, fun i => p i || decide (g = i), by omega, by omega, by omega, by omega, fun i hi => ?_, by rw [ect, hct]; omega, by rw [esm]; omega, ⟨fun j hj => ?_, fun j k hjk hk => ?_, fun i hi => ?_⟩, ⟨r', s1, by omega, by omega⟩, fun q' hq' => ?_⟩
        · by_cases e : g = i
          · omega
          · simp [e] at hi; have := hs i hi; omega
        · rw [Int.toNat_natCast]
          by_cases e : j = n
          · rw [e, up_self]; exact ⟨g, rfl, by simp⟩
          · rw [up_ne e]
            obtain ⟨i, i1, i2⟩ := hls.1 j (by omega)
            exact ⟨i, i1, by simp [i2]⟩
        · rw [Int.toNat_natCast]
          by_cases e : k = n
          · rw [e, up_self, up_ne (by omega)]
            obtain ⟨i, i1, i2⟩ := hls.1 j (by omega)
            have := hs i i2
            omega
          · rw [up_ne e, up_ne (by omega)]; exact hls.2.1 j k hjk (by omega)
        · rw [Int.toNat_natCast]
          by_cases e : g = i
          · exact ⟨n, by omega, by rw [up_self, e]⟩
          · simp [e] at hi
            obtain ⟨j, j1, j2⟩ := hls.2.2 i hi
            exact ⟨j, by omega, by rw [up_ne (by omega)]; exact j2⟩
        · rcases hlow q' hq' with u | ⟨d, d0, d1, d2, d3⟩
          · cases hqg : q' g with
            | true =>
              refine Or.inl (fun i hi => ?_)
              rcases Nat.lt_or_ge i g with u2 | u2
              · have : ¬ g = i := by omega
                simp [this]; exact u i u2
              · rw [show i = g by omega, hqg]; simp
            | false =>
              refine Or.inr ⟨g, by omega, fun i hi => ?_, by simp, hqg⟩
              have : ¬ g = i := by omega
              simp [this]; exact u i hi
          · refine Or.inr ⟨d, by omega, fun i hi => ?_, by simp [d2], d3⟩
            have : ¬ g = i := by omega
            simp [this]; exact d1 i hi
