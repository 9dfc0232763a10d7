/-! SPEC of the Model: rotate. -/
abbrev bt (S i : Nat) : Bool := S.testBit i
theorem bt_hi {S i : Nat} (hS : S < 4096) (hi : 12 ≤ i) : bt S i = false := Nat.testBit_lt_two_pow (Nat.lt_of_lt_of_le hS (by
  have : 2 ^ 12 ≤ 2 ^ i := Nat.pow_le_pow_right (by omega) hi
  omega))
theorem bt_diff {S T : Nat} (hS : S < 4096) (hT : T < 4096) (h : S ≠ T) : ∃ d, d < 12 ∧ bt S d ≠ bt T d := by
  by_cases c : ∃ d, d < 12 ∧ bt S d ≠ bt T d
  · exact c
  · refine absurd (Nat.eq_of_testBit_eq (fun i => ?_)) h
    rcases Nat.lt_or_ge i 12 with u | u
    · by_cases e : bt S i = bt T i
      · exact e
      · exact absurd ⟨i, u, e⟩ c
    · exact (bt_hi hS u).trans (bt_hi hT u).symm
theorem bt_make (q : Nat → Bool) (n : Nat) : ∃ S, S < 2 ^ n ∧ ∀ i, bt S i = (decide (i < n) && q i) := by
  induction n with
  | zero => exact ⟨0, by decide, fun i => by simp [bt]⟩
  | succ n ih =>
    obtain ⟨S, h1, h2⟩ := ih
    have h3 : 2 ^ (n + 1) = 2 ^ n + 2 ^ n := by rw [Nat.pow_succ]; omega
    cases hq : q n with
    | false =>
      refine ⟨S, by omega, fun i => ?_⟩
      rw [h2 i]
      by_cases e : i = n
      · subst e; simp [hq]
      · have : (i < n) = (i < n + 1) := by apply propext; omega
        simp only [this]
    | true =>
      refine ⟨S ||| 2 ^ n, Nat.or_lt_two_pow (by omega) (Nat.pow_lt_pow_right (by omega) (by omega)), fun i => ?_⟩
      rw [bt, bit_or]
      have := h2 i
      rw [bt] at this
      rw [this]
      by_cases e : i = n
      · subst e; simp [hq]
      · have e2 : (i < n) = (i < n + 1) := by apply propext; omega
        have e3 : ¬ n = i := fun u => e u.symm
        simp [e2, e3]
theorem bt_of {q : Nat → Bool} {K : Nat} (hK : K ≤ 12) (hs : supp q 0 K) : ∃ S, S < 4096 ∧ ∀ i, bt S i = q i := by
  obtain ⟨S, h1, h2⟩ := bt_make q 12
  refine ⟨S, h1, fun i => ?_⟩
  rw [h2 i]
  cases hq : q i with
  | false => simp
  | true => have := hs i hq; simp; omega
theorem lowB_trans {p q r : Nat → Bool} (a : lowB p q) (b : lowB q r) : lowB p r := by
  rcases a with a | ⟨d, a1, a2, a3⟩
  · rcases b with b | ⟨d, b1, b2, b3⟩
    · exact Or.inl (fun i => (a i).trans (b i))
    · exact Or.inr ⟨d, fun i hi => (a i).trans (b1 i hi), (a d).trans b2, b3⟩
  · rcases b with b | ⟨e, b1, b2, b3⟩
    · exact Or.inr ⟨d, fun i hi => (a1 i hi).trans (b i), a2, (b d).symm.trans a3⟩
    · rcases Nat.lt_trichotomy d e with u | u | u
      · exact Or.inr ⟨d, fun i hi => (a1 i hi).trans (b1 i (by omega)), a2, (b1 d u).symm.trans a3⟩
      · subst u; rw [a3] at b2; cases b2
      · exact Or.inr ⟨e, fun i hi => (a1 i (by omega)).trans (b1 i hi), (a1 e u).trans b2, b3⟩
theorem s_Md_lower {S T : Nat} (hS : S < 4096) (hT : T < 4096) (hne : S ≠ T) : vc_Md_lower S T (fun z => (z = 1 ∧ lowB (bt S) (bt T)) ∨ (z = 0 ∧ lowB (bt T) (bt S))) := by
  obtain ⟨d, hd, hd2⟩ := bt_diff hS hT hne
  unfold vc_Md_lower
  refine ⟨fun k => ∃ K : Nat, k = K ∧ ∀ i, i < K → bt S i = bt T i, fun k => 12 - k.toNat, ⟨0, rfl, fun i hi => by omega⟩, ?_⟩
  rintro k ⟨K, rfl, hK⟩
  have hKd : K ≤ d := by
    rcases Nat.lt_or_ge d K with u | u
    · exact absurd (hK d u) hd2
    · exact u
  rw [bs_bit (by omega) (by omega), bs_bit (by omega) (by omega)]
  cases hs : S.testBit K <;> cases ht : T.testBit K
  · refine ⟨by decide, by decide, fun q => absurd rfl q, fun _ => ⟨⟨K + 1, by omega, fun i hi => ?_⟩, ?_⟩⟩
    · by_cases e : i = K
      · rw [e, bt, bt, hs, ht]
      · exact hK i (by omega)
    · have : K ≠ d := fun e => hd2 (by rw [← e, bt, bt, hs, ht])
      dsimp only
      omega
  · exact ⟨by decide, by decide, fun q => ⟨fun _ => Or.inr ⟨rfl, Or.inr ⟨K, fun i hi => (hK i hi).symm, ht, hs⟩⟩, fun q2 => absurd q2 (by decide)⟩, fun q => absurd q (by decide)⟩
  · exact ⟨by decide, by decide, fun q => ⟨fun q2 => absurd rfl q2, fun _ => Or.inl ⟨rfl, Or.inr ⟨K, hK, hs, ht⟩⟩⟩, fun q => absurd q (by decide)⟩
  · refine ⟨by decide, by decide, fun q => absurd rfl q, fun _ => ⟨⟨K + 1, by omega, fun i hi => ?_⟩, ?_⟩⟩
    · by_cases e : i = K
      · rw [e, bt, bt, hs, ht]
      · exact hK i (by omega)
    · have : K ≠ d := fun e => hd2 (by rw [← e, bt, bt, hs, ht])
      dsimp only
      omega
/-- pages of a set, those that are not there by hundreds -/
def siz (K S : Nat) : Nat → Int := sg (fun i => if bt S i = true then (if i < K then 1 else 100) else 0)
theorem siz_small {K S : Nat} (hK : K ≤ 12) (hs : supp (bt S) 0 K) : siz K S 12 = ctB (bt S) K := by
  have h1 : siz K S 12 = ctB (bt S) 12 := by
    rw [ct_sm]
    exact sg_congr (fun i _ => by
      by_cases c : bt S i = true
      · rw [if_pos c, if_pos c, if_pos (hs i c).2]
      · rw [if_neg c, if_neg c])
  have h2 : ∀ n, ctB (bt S) (K + n) = ctB (bt S) K := fun n => by
    induction n with
    | zero => rfl
    | succ n ih =>
      rw [ct_sm] at ih ⊢
      show smB (fun _ => 1) (bt S) (K + n) + (if bt S (K + n) = true then 1 else 0) = _
      rw [ih, if_neg (fun u => by have := hs _ u; omega)]
      rw [ct_sm]; omega
  rw [h1, ← h2 (12 - K), show K + (12 - K) = 12 by omega]
theorem siz_big {K S i : Nat} (hi : i < 12) (hb : bt S i = true) (hK : K ≤ i) : 100 ≤ siz K S 12 := by
  have h1 : sg (fun j => if j = i then 100 else 0) 12 ≤ siz K S 12 := by
    unfold siz
    have : ∀ n, sg (fun j => if j = i then (100 : Int) else 0) n ≤ sg (fun j => if bt S j = true then (if j < K then 1 else 100) else 0) n := fun n => by
      induction n with
      | zero => exact Int.le_refl _
      | succ n ih =>
        rw [sg_succ, sg_succ]
        by_cases e : n = i
        · subst e; rw [if_pos rfl, if_pos hb, if_neg (by omega)]; omega
        · rw [if_neg e]; split <;> (try split) <;> omega
    exact this 12
  have h2 := sg_at (fun _ => (100 : Int)) i 12
  rw [if_pos hi] at h2
  omega
theorem siz_supp {K S : Nat} (hS : S < 4096) (h : siz K S 12 < 100) : supp (bt S) 0 K := by
  intro i hi
  refine ⟨by omega, ?_⟩
  rcases Nat.lt_or_ge i K with u | u
  · exact u
  · rcases Nat.lt_or_ge i 12 with v | v
    · have := siz_big v hi u; omega
    · rw [bt_hi hS v] at hi; cases hi
/-- pages that are not there add nothing -/
theorem all_pages {pa : Nat → Int} {K : Nat} {p : Nat → Bool} (hK : K ≤ 12) (hz : ∀ i, K ≤ i → i < 12 → pa i = 0) : smB pa p 12 = smB pa p K := by
  have h2 : ∀ n, K + n ≤ 12 → smB pa p (K + n) = smB pa p K := fun n => by
    induction n with
    | zero => exact fun _ => rfl
    | succ n ih =>
      intro hn
      show smB pa p (K + n) + (if p (K + n) = true then pa (K + n) else 0) = _
      rw [ih (by omega), hz (K + n) (by omega) (by omega)]
      split <;> omega
  have := h2 (12 - K) (by omega)
  rw [show K + (12 - K) = 12 by omega] at this
  exact this
section MDS
variable {th no : Int} {ca ba : Nat → Int} {nl : Int} {xa sa da la ra fa ta ua uh uo ma mh ml : Nat → Int} {nf : Int} {fo fh fs : Nat → Int} {rs ic mn : Int} {bh bo ya : Nat → Int} {np : Int} {pa : Nat → Int} {nc : Int} {cp : Nat → Int}
def rotIs (pa : Nat → Int) (K : Nat) (hrs : Int) (cp : Nat → Int) (nc : Int) (z : Int) (gc : Nat → Int) (gn : Int) : Prop := (z = -1 ∧ gc = cp ∧ gn = nc ∧ ∀ q, supp q 0 K → smB pa q K < hrs) ∨ ∃ c : Nat, z = (c : Int) - 1 ∧ 1 ≤ c ∧ c ≤ 12 ∧ gn = c ∧ (∀ q, supp q 0 K → ctB q K < c → smB pa q K < hrs) ∧ ∃ p, fitsB pa K c hrs p ∧ listsB p gc c ∧ ∀ q, fitsB pa K c hrs q → lowB p q
theorem smB_ext2 {pa : Nat → Int} {p q : Nat → Bool} {n : Nat} (e : ∀ i, p i = q i) : smB pa p n = smB pa q n := sm_ext (fun i _ => e i)
theorem s_Md_rotate {K : Nat} {hrs : Int} (hnp : np = K) (hp : bkOK pa K) (hz : ∀ i, K ≤ i → i < 12 → pa i = 0) (hh : r32 hrs) :
    vc_Md_rotate th no ca ba nl xa sa da la ra fa ta ua uh uo ma mh ml nf fo fh fs rs ic mn bh bo ya np pa nc cp hrs (fun z t gc gn => (¬ (1 ≤ hrs ∧ hrs ≤ 30000) → t = 1 ∧ gc = cp ∧ gn = nc) ∧ (1 ≤ hrs ∧ hrs ≤ 30000 → t = 0 ∧ rotIs pa K hrs cp nc z gc gn)) := by
  subst hnp
  obtain ⟨hK, hb⟩ := hp
  unfold vc_Md_rotate
  refine ⟨hh, fun q => ?_, fun q => ⟨fun _ => ⟨rfl, rfl, rfl⟩, fun u => absurd u q⟩⟩
  refine ⟨fun best least set_ => ∃ S : Nat, set_ = S ∧ 1 ≤ S ∧ S ≤ 4096 ∧ ((least = 99 ∧ ∀ T, T < S → supp (bt T) 0 K → smB pa (bt T) K < hrs) ∨ ∃ B : Nat, best = B ∧ B < S ∧ supp (bt B) 0 K ∧ least = ctB (bt B) K ∧ hrs ≤ smB pa (bt B) K ∧ ∀ T, T < S → supp (bt T) 0 K → hrs ≤ smB pa (bt T) K → least ≤ ctB (bt T) K ∧ (ctB (bt T) K = least → lowB (bt B) (bt T))), fun _ _ set_ => 4096 - set_.toNat, ⟨1, rfl, by omega, by omega, Or.inl ⟨rfl, fun T hT hs => ?_⟩⟩, ?_⟩
  · rw [show T = 0 by omega, sm_none (fun i _ => by simp [bt])]; omega
  rintro best least set_ ⟨S, rfl, hS1, hS2, hc⟩
  have hl : least = 99 ∨ (0 ≤ least ∧ least ≤ 12) := by
    rcases hc with ⟨h, _⟩ | ⟨B, _, _, _, h, _⟩
    · exact Or.inl h
    · have h1 := ct_le (p := bt B) (n := K)
      have h2 : 0 ≤ ctB (bt B) K := by rw [ct_sm]; exact sm_nonneg (fun _ _ => by decide)
      omega
  refine ⟨⟨by omega, by omega⟩, fun q2 => ⟨⟨by omega, by omega⟩, fun q3 => ?_, fun q3 => ?_⟩, fun q2 => ?_⟩
  · -- the pages of the best set
    have eS : S = 4096 := by omega
    subst eS
    rcases hc with ⟨h, _⟩ | ⟨B, rfl, hB, hBs, rfl, hBf, hBm⟩
    · omega
    have h0 : 0 ≤ ctB (bt B) K := by rw [ct_sm]; exact sm_nonneg (fun _ _ => by decide)
    obtain ⟨c, hcc⟩ : ∃ c : Nat, ctB (bt B) K = c := ⟨(ctB (bt B) K).toNat, by omega⟩
    have hc12 : ctB (bt B) 12 = c := by
      rw [← siz_small hK hBs] at hcc
      rw [← hcc]
      have := siz_small (K := 12) (S := B) (by omega) (fun i hi => ⟨by omega, by have := hBs i hi; omega⟩)
      rw [← this]
      unfold siz
      exact sg_congr (fun i hi => by
        by_cases e : bt B i = true
        · rw [if_pos e, if_pos e, if_pos hi, if_pos (hBs i e).2]
        · rw [if_neg e, if_neg e])
    refine ⟨fun p_ gc gn => ∃ P n : Nat, p_ = P ∧ P ≤ 12 ∧ gn = n ∧ n ≤ P ∧ ctB (bt B) P = n ∧ listsB (fun i => decide (i < P) && bt B i) gc n, fun p_ _ _ => 12 - p_.toNat, ⟨0, 0, rfl, by omega, rfl, by omega, rfl, fun j hj => by omega, fun j k _ hk => by omega, fun i hi => by simp at hi⟩, ?_⟩
    rintro p_ gc gn ⟨P, n, rfl, hP, rfl, hnP, hct, hls⟩
    refine ⟨⟨by omega, by omega⟩, fun q4 => ⟨fun u => absurd q u, fun _ => ⟨rfl, Or.inr ⟨c, ?_, ?_, by omega, ?_, ?_, bt B, ⟨hBs, by omega, hBf⟩, ?_, ?_⟩⟩⟩, fun q4 => ?_⟩
    · have : P = 12 := by omega
      subst this; omega
    · rcases Nat.eq_zero_or_pos c with u | u
      · exfalso
        have : smB pa (bt B) K ≤ smB pa (fun _ => false) K := by
          refine sm_mono (fun i hi => (hb i hi).1) (fun i hi hbi => ?_)
          exfalso
          have h1 : smB (fun _ => 1) (fun j => decide (j = i)) K ≤ smB (fun _ => 1) (bt B) K := sm_mono (fun _ _ => by decide) (fun j _ hj => by
            have : j = i := by simpa using hj
            rw [this]; exact hbi)
          have h2 : smB (fun _ => 1) (fun j => decide (j = i)) K = 1 := by
            have := sg_at (fun _ => 1) i K
            rw [if_pos hi] at this
            refine Eq.trans (sg_congr (fun k _ => ?_)) this
            by_cases e : k = i <;> simp [e]
          rw [ct_sm] at hcc
          omega
        rw [sm_none (fun _ _ => rfl)] at this
        omega
      · exact u
    · have : P = 12 := by omega
      subst this; omega
    · intro q' hq' hlt
      rcases Int.lt_or_le (smB pa q' K) hrs with u | u
      · exact u
      · obtain ⟨T, hT, hTq⟩ := bt_of hK hq'
        have e1 : ctB (bt T) K = ctB q' K := by rw [ct_sm, ct_sm]; exact smB_ext2 hTq
        have := hBm T hT (fun i hi => hq' i (by rw [← hTq i]; exact hi)) (by rw [smB_ext2 hTq]; exact u)
        omega
    · have : P = 12 := by omega
      subst this
      have : n = c := by omega
      subst this
      refine listsB_ext (fun i => ?_) hls
      cases hbi : bt B i with
      | false => simp
      | true => have := hBs i hbi; simp; omega
    · intro q' ⟨f1, f2, f3⟩
      obtain ⟨T, hT, hTq⟩ := bt_of hK f1
      have e1 : ctB (bt T) K = ctB q' K := by rw [ct_sm, ct_sm]; exact smB_ext2 hTq
      obtain ⟨m1, m2⟩ := hBm T hT (fun i hi => f1 i (by rw [← hTq i]; exact hi)) (by rw [smB_ext2 hTq]; exact f3)
      have := m2 (by omega)
      rw [show bt T = q' from funext hTq] at this
      exact this
    · rw [bs_bit (by omega) (by omega)]
      have cts : ctB (bt B) (P + 1) = ctB (bt B) P + (if bt B P = true then 1 else 0) := rfl
      refine ⟨by split <;> decide, fun q5 => ⟨⟨P + 1, n, by omega, by omega, rfl, by omega, ?_, ?_⟩, by dsimp only; omega⟩, fun q5 => ⟨⟨by omega, by omega⟩, ⟨P + 1, n + 1, by omega, by omega, by omega, by omega, ?_, ?_⟩, by dsimp only; omega⟩⟩
      · have : ¬ bt B P = true := fun u => q5 (by rw [if_pos u])
        rw [cts, if_neg this]; omega
      · have : ¬ bt B P = true := fun u => q5 (by rw [if_pos u])
        refine listsB_ext (fun i => ?_) hls
        by_cases e : i = P
        · subst e; simp [this]
        · have e2 : (i < P) = (i < P + 1) := by apply propext; omega
          simp only [e2]
      · have : bt B P = true := by
          cases hbp : bt B P with
          | true => rfl
          | false => rw [bt] at hbp; rw [hbp] at q5; simp at q5
        rw [cts, if_pos this]; omega
      · have hbp : bt B P = true := by
          cases hbp : bt B P with
          | true => rfl
          | false => rw [bt] at hbp; rw [hbp] at q5; simp at q5
        rw [Int.toNat_natCast]
        refine ⟨fun j hj => ?_, fun j k hjk hk => ?_, fun i hi => ?_⟩
        · by_cases e : j = n
          · exact ⟨P, by rw [e, up_self], by simp [hbp]⟩
          · obtain ⟨i, i1, i2⟩ := hls.1 j (by omega)
            simp at i2
            exact ⟨i, by rw [up_ne e]; exact i1, by simp [i2.2]; omega⟩
        · by_cases e : k = n
          · obtain ⟨i, i1, i2⟩ := hls.1 j (by omega)
            simp at i2
            rw [e, up_self, up_ne (by omega), i1]; omega
          · rw [up_ne e, up_ne (by omega)]; exact hls.2.1 j k hjk (by omega)
        · simp at hi
          by_cases e : i = P
          · exact ⟨n, by omega, by rw [up_self, e]⟩
          · obtain ⟨j, j1, j2⟩ := hls.2.2 i (by simp [hi.2]; omega)
            exact ⟨j, by omega, by rw [up_ne (by omega)]; exact j2⟩
  · refine ⟨fun u => absurd q u, fun _ => ⟨rfl, Or.inl ⟨rfl, rfl, rfl, fun q' hq' => ?_⟩⟩⟩
    rcases hc with ⟨_, h⟩ | ⟨B, _, _, hBs, h, _⟩
    · obtain ⟨T, hT, hTq⟩ := bt_of hK hq'
      have := h T (by omega) (fun i hi => hq' i (by rw [← hTq i]; exact hi))
      rw [smB_ext2 hTq] at this; exact this
    · have := ct_le (p := bt B) (n := K); omega
  · -- one set more
    refine ⟨fun size_ all_ p_ => ∃ P : Nat, p_ = P ∧ P ≤ 12 ∧ size_ = siz K S P ∧ all_ = smB pa (bt S) P, fun _ _ p_ => 12 - p_.toNat, ⟨0, rfl, by omega, rfl, rfl⟩, ?_⟩
    rintro size_ all_ p_ ⟨P, rfl, hP, rfl, rfl⟩
    have hpa : ∀ i, i < 12 → 0 ≤ pa i ∧ pa i ≤ 30000 := fun i hi => by
      rcases Nat.lt_or_ge i K with u | u
      · exact hb i u
      · rw [hz i u hi]; omega
    have hsz : 0 ≤ siz K S P ∧ siz K S P ≤ (P : Int) * 100 := ⟨sg_nonneg (fun i _ => by split <;> (try split) <;> omega), sg_le (fun i _ => by split <;> (try split) <;> omega)⟩
    have hal : 0 ≤ smB pa (bt S) P ∧ smB pa (bt S) P ≤ (P : Int) * 30000 := ⟨sm_nonneg (fun i hi => (hpa i (by omega)).1), sg_le (fun i hi => by have := hpa i (by omega); split <;> omega)⟩
    refine ⟨⟨by omega, by omega⟩, fun q3 => ⟨⟨by omega, by omega⟩, fun q4 => ⟨⟨S + 1, by omega, by omega, by omega, ?_⟩, by dsimp only; omega⟩, fun q4 => ⟨⟨by omega, by omega⟩, ⟨by omega, by omega⟩, fun q5 => ⟨⟨S + 1, by omega, by omega, by omega, ?_⟩, by dsimp only; omega⟩, fun q5 => ⟨fun q6 => ⟨⟨S + 1, by omega, by omega, by omega, ?_⟩, by dsimp only; omega⟩, fun q6 => ⟨fun q7 => ⟨⟨S + 1, by omega, by omega, by omega, ?_⟩, by dsimp only; omega⟩, fun q7 => ?_⟩⟩⟩⟩, fun q3 => ?_⟩
    · have e12 : P = 12 := by omega
      subst e12
      rw [all_pages hK hz] at q4
      rcases hc with ⟨h1, h2⟩ | ⟨B, h1, h2, h3, h4, h5, h6⟩
      · refine Or.inl ⟨h1, fun T hT hs => ?_⟩
        by_cases e : T = S
        · rw [e]; exact q4
        · exact h2 T (by omega) hs
      · refine Or.inr ⟨B, h1, by omega, h3, h4, h5, fun T hT hs hf => ?_⟩
        by_cases e : T = S
        · rw [e] at hf; omega
        · exact h6 T (by omega) hs hf
    · have e12 : P = 12 := by omega
      subst e12
      rw [all_pages hK hz] at q4
      have hsp : supp (bt S) 0 K := siz_supp (by omega) (by omega)
      rw [siz_small hK hsp] at q5 ⊢
      refine Or.inr ⟨S, rfl, by omega, hsp, rfl, q4, fun T hT hs hf => ?_⟩
      by_cases e : T = S
      · rw [e]; exact ⟨Int.le_refl _, fun _ => Or.inl (fun _ => rfl)⟩
      · rcases hc with ⟨h1, h2⟩ | ⟨B, h1, h2, h3, h4, h5, h6⟩
        · have := h2 T (by omega) hs; omega
        · have := (h6 T (by omega) hs hf).1
          exact ⟨by omega, fun u => by omega⟩
    · have e12 : P = 12 := by omega
      subst e12
      rcases hc with ⟨h1, h2⟩ | ⟨B, h1, h2, h3, h4, h5, h6⟩
      · refine Or.inl ⟨h1, fun T hT hs => ?_⟩
        by_cases e : T = S
        · rw [e] at hs
          have := siz_small hK hs
          have := ct_le (p := bt S) (n := K); omega
        · exact h2 T (by omega) hs
      · refine Or.inr ⟨B, h1, by omega, h3, h4, h5, fun T hT hs hf => ?_⟩
        by_cases e : T = S
        · rw [e] at hs ⊢
          have := siz_small hK hs
          exact ⟨by omega, fun u => by omega⟩
        · exact h6 T (by omega) hs hf
    · have e12 : P = 12 := by omega
      subst e12
      rcases hc with ⟨h1, h2⟩ | ⟨B, h1, h2, h3, h4, h5, h6⟩
      · refine Or.inl ⟨h1, fun T hT hs => ?_⟩
        by_cases e : T = S
        · rw [e] at hs
          have := siz_small hK hs
          have := ct_le (p := bt S) (n := K); omega
        · exact h2 T (by omega) hs
      · have := ct_le (p := bt B) (n := K); omega
    · have e12 : P = 12 := by omega
      subst e12
      rw [all_pages hK hz] at q4
      have hsp : supp (bt S) 0 K := siz_supp (by omega) (by omega)
      have hsc := siz_small hK hsp
      rcases hc with ⟨h1, h2⟩ | ⟨B, rfl, h2, h3, h4, h5, h6⟩
      · omega
      · refine ⟨_, s_Md_lower (S := S) (T := B) (by omega) (by omega) (by omega), ?_⟩
        rintro z (⟨rfl, hlow⟩ | ⟨rfl, hlow⟩)
        · refine ⟨by decide, fun u => absurd u (by decide), fun _ => ⟨⟨S + 1, by omega, by omega, by omega, Or.inr ⟨S, rfl, by omega, hsp, hsc, q4, fun T hT hs hf => ?_⟩⟩, by dsimp only; omega⟩⟩
          by_cases e : T = S
          · rw [e]; exact ⟨by omega, fun _ => Or.inl (fun _ => rfl)⟩
          · obtain ⟨m1, m2⟩ := h6 T (by omega) hs hf
            exact ⟨by omega, fun u => lowB_trans hlow (m2 (by omega))⟩
        · refine ⟨by decide, fun _ => ⟨⟨S + 1, by omega, by omega, by omega, Or.inr ⟨B, rfl, by omega, h3, h4, h5, fun T hT hs hf => ?_⟩⟩, by dsimp only; omega⟩, fun u => absurd rfl u⟩
          by_cases e : T = S
          · rw [e]; exact ⟨by omega, fun _ => hlow⟩
          · exact h6 T (by omega) hs hf
    · rw [bs_bit (by omega) (by omega), Int.toNat_natCast]
      have szs : siz K S (P + 1) = siz K S P + (if bt S P = true then (if P < K then 1 else 100) else 0) := rfl
      have als : smB pa (bt S) (P + 1) = smB pa (bt S) P + (if bt S P = true then pa P else 0) := rfl
      cases hbp : S.testBit P with
      | false =>
        have nb : ¬ bt S P = true := by rw [bt, hbp]; decide
        refine ⟨by decide, fun _ => ⟨⟨P + 1, by omega, by omega, by rw [szs, if_neg nb]; omega, by rw [als, if_neg nb]; omega⟩, by dsimp only; omega⟩, fun u => absurd u (by decide)⟩
      | true =>
        have nb : bt S P = true := hbp
        refine ⟨by decide, fun u => absurd rfl u, fun _ => ⟨⟨by omega, by omega⟩, fun q6 => ⟨⟨by omega, by omega⟩, ⟨P + 1, by omega, by omega, by rw [szs, if_pos nb, if_neg (by omega)], by rw [als, if_pos nb]⟩, by dsimp only; omega⟩, fun q6 => ⟨⟨by omega, by omega⟩, ⟨P + 1, by omega, by omega, by rw [szs, if_pos nb, if_pos (by omega)], by rw [als, if_pos nb]⟩, by dsimp only; omega⟩⟩⟩
/-- a set's pages in their order: one list -/
theorem listsB_one {p : Nat → Bool} {g g' : Nat → Int} {n n' : Nat} (h : listsB p g n) (h' : listsB p g' n') : n = n' ∧ ∀ j, j < n → g j = g' j := by
  have step : ∀ {p : Nat → Bool} {g g' : Nat → Int} {n n' : Nat}, listsB p g n → listsB p g' n' → ∀ j, j < n → j < n' → (∀ i, i < j → g i = g' i) → g' j ≤ g j := fun {p g g' n n'} h h' j hj hj' e => by
    obtain ⟨i, i1, i2⟩ := h.1 j hj
    obtain ⟨m, m1, m2⟩ := h'.2.2 i i2
    rcases Nat.lt_or_ge m j with u | u
    · have := h.2.1 m j u hj
      have := e m u
      omega
    · rcases Nat.lt_or_ge j m with v | v
      · have := h'.2.1 j m v m1; omega
      · have e2 : j = m := by omega
        subst e2; omega
  have all : ∀ j, j < n → j < n' → g j = g' j := fun j => by
    induction j using Nat.strongRecOn with
    | ind j ih =>
      intro h1 h2
      have a := step h h' j h1 h2 (fun i hi => ih i hi (by omega) (by omega))
      have b := step h' h j h2 h1 (fun i hi => (ih i hi (by omega) (by omega)).symm)
      omega
  have len : ∀ {g g' : Nat → Int} {n n' : Nat}, listsB p g n → listsB p g' n' → (∀ j, j < n → j < n' → g j = g' j) → n ≤ n' := fun {g g' n n'} h h' e => by
    rcases Nat.lt_or_ge n' n with u | u
    · obtain ⟨i, i1, i2⟩ := h.1 n' u
      obtain ⟨m, m1, m2⟩ := h'.2.2 i i2
      have := h.2.1 m n' m1 u
      have := e m (by omega) m1
      omega
    · exact u
  have e1 := len h h' all
  have e2 := len h' h (fun j a b => (all j b a).symm)
  exact ⟨by omega, fun j hj => all j hj (by omega)⟩
end MDS
