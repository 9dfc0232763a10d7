/-! SPEC of Day and Lamp. -/
def dyOK (dl ds : Nat → Int) : Prop := (∀ t, t < 24 → 0 ≤ dl t ∧ dl t ≤ 5000) ∧ ∀ k, k ≤ 24 → ds k = sg dl k
theorem s_Dy_luxHoursBefore {dl ds : Nat → Int} {n : Nat} (h : dyOK dl ds) (hn : n ≤ 26280) : vc_Dy_luxHoursBefore dl ds n (fun z => z = sg (fun t => dl (t % 24)) n) := by
  unfold vc_Dy_luxHoursBefore
  refine ⟨⟨by omega, by omega⟩, fun _ => ⟨by omega, ⟨by omega, by omega⟩, by omega, ⟨by omega, by omega⟩, ?_⟩, fun q => by omega⟩
  rw [show ((n : Int) % 24).toNat = n % 24 by omega, h.2 24 (Nat.le_refl _), h.2 (n % 24) (by omega), sg_day, show ((n : Int) / 24) = ((n / 24 : Nat) : Int) by omega]
theorem s_Dy_put {dl ds : Nat → Int} {t : Nat} {lux : Int} (h : dyOK dl ds) (ht : t < 24) (hl : 0 ≤ lux ∧ lux ≤ 5000) : vc_Dy_put dl ds t lux (fun dl' ds' => dl' = va_up dl t lux ∧ dyOK dl' ds') := by
  unfold vc_Dy_put
  have hd : ∀ k, k < 24 → 0 ≤ va_up dl t lux k ∧ va_up dl t lux k ≤ 5000 := fun k hk => by
    by_cases e : k = t
    · rw [e, up_self]; exact hl
    · rw [up_ne e]; exact h.1 k hk
  refine ⟨⟨by omega, by omega⟩, fun q => by omega, fun _ => ⟨fun _ => ⟨⟨by omega, by omega⟩, ?_⟩, fun q => by omega⟩⟩
  rw [Int.toNat_natCast]
  refine ⟨fun i gs => ∃ m : Nat, i = m ∧ m ≤ 24 ∧ ∀ k, k ≤ m → gs k = sg (va_up dl t lux) k, fun i _ => (24 - i).toNat, ⟨t, rfl, by omega, fun k hk => ?_⟩, ?_⟩
  · rw [h.2 k (by omega)]
    exact sg_congr (fun j hj => (up_ne (by omega)).symm)
  · rintro i gs ⟨m, rfl, hm, hg⟩
    refine ⟨⟨by omega, by omega⟩, fun q => ⟨rfl, hd, fun k hk => hg k (by omega)⟩, fun q => ?_⟩
    have hb := hd m (by omega)
    rw [Int.toNat_natCast, show ((m : Int) + 1).toNat = m + 1 by omega]
    refine ⟨⟨by omega, by omega⟩, ⟨by omega, by omega⟩, ⟨by omega, by omega⟩, ⟨by omega, by omega⟩, ⟨m + 1, by omega, by omega, fun k hk => ?_⟩, by dsimp only; omega⟩
    by_cases e : k = m + 1
    · rw [e, up_self, sg_succ, hg m (by omega)]
    · rw [up_ne e]; exact hg k (by omega)
/-- the value of the last change up to t -/
def chv (d : Int) (fh fv : Nat → Int) : Nat → Int → Int
  | 0, _ => d
  | n + 1, t => if fh n ≤ t then fv n else chv d fh fv n t
theorem chv_up {d : Int} {fh fv : Nat → Int} {N k : Nat} {t : Int} (hu : upTo fh N t k) : chv d fh fv N t = if k = 0 then d else fv (k - 1) := by
  obtain ⟨hk, h1, h2⟩ := hu
  induction N with
  | zero => rw [if_pos (by omega)]; rfl
  | succ N ih =>
    rcases Nat.lt_or_ge N k with q | q
    · have e : k = N + 1 := by omega
      rw [if_neg (by omega), e]
      exact if_pos (h1 N (by omega))
    · have := h2 N q (by omega)
      show (if fh N ≤ t then fv N else chv d fh fv N t) = _
      rw [if_neg (by omega)]
      exact ih q (fun i q1 q2 => h2 i q1 (by omega))
theorem upTo_ex {f : Nat → Int} {N : Nat} (hs : srt f N) (t : Int) : ∃ k, upTo f N t k := by
  induction N with
  | zero => exact ⟨0, Nat.le_refl _, fun i hi => by omega, fun i _ hi => by omega⟩
  | succ N ih =>
    obtain ⟨k, hk, h1, h2⟩ := ih (fun i j a b => hs i j a (by omega))
    by_cases c : f N ≤ t
    · exact ⟨N + 1, Nat.le_refl _, fun i hi => by
        rcases Nat.lt_or_ge i N with q | q
        · have := hs i N q (by omega); omega
        · rw [show i = N by omega]; exact c, fun i q1 q2 => by omega⟩
    · refine ⟨k, by omega, h1, fun i q1 q2 => ?_⟩
      rcases Nat.lt_or_ge i N with q | q
      · exact h2 i q1 q
      · rw [show i = N by omega]; omega
theorem upTo_stay {f : Nat → Int} {N k : Nat} {t t' : Int} (hs : srt f N) (hu : upTo f N t k) (h1 : t ≤ t') (h2 : k < N → t' < f k) : upTo f N t' k := by
  refine ⟨hu.1, fun i hi => Int.le_trans (hu.2.1 i hi) h1, fun i q1 q2 => ?_⟩
  have := srt_le hs q1 q2
  have := h2 (by omega)
  omega
theorem chv_range {d : Int} {fh fv : Nat → Int} {N : Nat} {t : Int} (hd : 0 ≤ d ∧ d ≤ 5000) (hv : ∀ i, i < N → 0 ≤ fv i ∧ fv i ≤ 5000) : 0 ≤ chv d fh fv N t ∧ chv d fh fv N t ≤ 5000 := by
  induction N with
  | zero => exact hd
  | succ N ih =>
    show 0 ≤ (if fh N ≤ t then fv N else chv d fh fv N t) ∧ (if fh N ≤ t then fv N else chv d fh fv N t) ≤ 5000
    split
    · exact hv N (by omega)
    · exact ih (fun i hi => hv i (by omega))
theorem chv_last {d : Int} {fh fv : Nat → Int} {N : Nat} {t : Int} (hs : srt fh N) : lastAt (chMap fh fv N) d t (chv d fh fv N t) := by
  obtain ⟨k, hk⟩ := upTo_ex hs t
  exact chAt_last hs ⟨k, hk, chv_up hk⟩
/-- a lamp's lux in an hour: of the changes of its state (1: on) and of its measures -/
def lpLux (wh wv : Nat → Int) (WN : Nat) (md : Int) (mh mv : Nat → Int) (MN : Nat) (h : Nat) : Int := if chv 1 wh wv WN h = 1 then chv md mh mv MN h else 0
/-- pieces of even light -/
def lpCut (L : Nat → Int) (gs gl gt : Nat → Int) (gn : Int) : Prop := ∃ P : Nat, gn = P ∧ 1 ≤ P ∧ P ≤ 41 ∧ gs 0 = 0 ∧ (∀ p, p + 1 < P → gs p < gs (p + 1)) ∧
  ∀ p, p < P → 0 ≤ gs p ∧ gs p < 26280 ∧ gt p = sg L (gs p).toNat ∧ (0 ≤ gl p ∧ gl p ≤ 5000) ∧ ∀ h : Nat, gs p ≤ h → (h : Int) < (if p + 1 < P then gs (p + 1) else 26280) → L h = gl p
theorem s_Lp_luxHoursBefore {wfst : Int} {wh wv : Nat → Int} {wn mfst : Int} {mh mv : Nat → Int} {mn : Int} {L ps pl pt : Nat → Int} {np : Int} {n : Nat} (h : lpCut L ps pl pt np) (hn : n ≤ 26280) :
    vc_Lp_luxHoursBefore wfst wh wv wn mfst mh mv mn ps pl pt np n (fun z => z = sg L n) := by
  obtain ⟨P, rfl, hP1, hP, h0, hinc, hp⟩ := h
  have hle : ∀ i j, i ≤ j → j < P → ps i ≤ ps j := by
    intro i j hij hj
    induction j with
    | zero => rw [show i = 0 by omega]; exact Int.le_refl _
    | succ j ih =>
      rcases Nat.lt_or_ge i (j + 1) with q | q
      · have := ih (by omega) (by omega)
        have := hinc j hj
        omega
      · rw [show i = j + 1 by omega]; exact Int.le_refl _
  unfold vc_Lp_luxHoursBefore
  refine ⟨fun bf st => ∃ b w : Nat, bf = b ∧ st = (w / 2 : Nat) ∧ (w = 1 ∨ w = 2 ∨ w = 4 ∨ w = 8 ∨ w = 16 ∨ w = 32 ∨ w = 64) ∧ b < P ∧ ps b ≤ n ∧ ∀ i, b + w ≤ i → i < P → (n : Int) < ps i, fun _ st => st.toNat, ?_, ?_⟩
  · exact ⟨0, 64, rfl, rfl, by omega, by omega, by omega, fun i h1 h2 => by omega⟩
  · rintro bf st ⟨b, w, rfl, rfl, hw, hb, h1, h2⟩
    have hv : w = 1 ∨ ∃ v : Nat, w = 2 * v ∧ (v = 1 ∨ v = 2 ∨ v = 4 ∨ v = 8 ∨ v = 16 ∨ v = 32) := by
      rcases hw with h | h | h | h | h | h | h
      · exact Or.inl h
      · exact Or.inr ⟨1, by omega, by omega⟩
      · exact Or.inr ⟨2, by omega, by omega⟩
      · exact Or.inr ⟨4, by omega, by omega⟩
      · exact Or.inr ⟨8, by omega, by omega⟩
      · exact Or.inr ⟨16, by omega, by omega⟩
      · exact Or.inr ⟨32, by omega, by omega⟩
    rcases hv with rfl | ⟨v, rfl, hv⟩
    · obtain ⟨a1, a2, a3, a4, a5⟩ := hp b hb
      refine ⟨by decide, fun _ => ⟨⟨by omega, by omega⟩, ⟨by omega, by omega⟩, ⟨?_, ?_⟩, ⟨by omega, by omega⟩, ⟨?_, ?_⟩, ?_⟩, fun q => absurd q (by decide)⟩
      · rw [Int.toNat_natCast]; omega
      · rw [Int.toNat_natCast]; omega
      · rw [Int.toNat_natCast]; omega
      · rw [Int.toNat_natCast]; omega
      · rw [Int.toNat_natCast, a3]
        have hfl := sg_flat (f := L) (a := (ps b).toNat) (b := n) (c := pl b) (by omega) (fun k q1 q2 => a5 k (by omega) (by
          split
          · have := h2 (b + 1) (by omega) (by omega); omega
          · omega))
        rw [hfl, show ((ps b).toNat : Int) = ps b by omega]
    · have e : 2 * v / 2 = v := by omega
      rw [e]
      refine ⟨⟨by omega, by omega⟩, fun q => absurd q (by omega), fun _ => ⟨⟨by omega, by omega⟩, ⟨by omega, by omega⟩, fun q => ⟨by omega, ⟨b, v, rfl, by omega, by omega, hb, h1, fun i q1 q2 => by omega⟩, by dsimp only; omega⟩, fun q => ?_⟩⟩
      have ei : ((b : Int) + v).toNat = b + v := by omega
      rw [ei]
      obtain ⟨a1, a2, -⟩ := hp (b + v) (by omega)
      refine ⟨⟨by omega, by omega⟩, ⟨by omega, by omega⟩, ⟨by omega, by omega⟩, fun q2 => ⟨by omega, ⟨b, v, rfl, by omega, by omega, hb, h1, fun i q3 q4 => ?_⟩, by dsimp only; omega⟩, fun q2 => ⟨by omega, ⟨b + v, v, by omega, by omega, by omega, by omega, q2, fun i q3 q4 => h2 i (by omega) q4⟩, by dsimp only; omega⟩⟩
      have := hle (b + v) i (by omega) q4
      omega
