/-! SPEC of the Model: light. -/
/-- of N hours, the k-th is the last up to h -/
def cov (f : Nat → Int) (N k h : Nat) : Prop := k < N ∧ f k ≤ (h : Int) ∧ ∀ i, i < N → f k < f i → (h : Int) < f i
theorem cov_one {f : Nat → Int} {N k k' h : Nat} (hd : ∀ i j, i < N → j < N → f i = f j → i = j) (a : cov f N k h) (b : cov f N k' h) : k = k' := by
  obtain ⟨a1, a2, a3⟩ := a
  obtain ⟨b1, b2, b3⟩ := b
  refine hd k k' a1 b1 ?_
  rcases Int.lt_trichotomy (f k) (f k') with q | q | q
  · have := a3 k' b1 q; omega
  · exact q
  · have := b3 k a1 q; omega
def paint (f w : Nat → Int) (N K : Nat) (d : Int) (h : Nat) (v : Int) : Prop := (∀ k, k < K → cov f N k h → v = w k) ∧ ((∀ k, k < K → ¬ cov f N k h) → v = d)
def dark (f w : Nat → Int) (N K : Nat) (h : Nat) (v r : Int) : Prop := ((∃ k, k < K ∧ cov f N k h ∧ w k = 0) → r = 0) ∧ ((¬ ∃ k, k < K ∧ cov f N k h ∧ w k = 0) → r = v)
def endTo (f : Nat → Int) (K i : Nat) (E : Int) : Prop := f K < E ∧ E ≤ 26280 ∧ (∀ j, j < i → f K < f j → E ≤ f j) ∧ (E = 26280 ∨ ∃ j, j < i ∧ f K < f j ∧ E = f j)
theorem endTo_cov {f : Nat → Int} {N K h : Nat} {E : Int} (hK : K < N) (he : endTo f K N E) (hh : h < 26280) : cov f N K h ↔ f K ≤ (h : Int) ∧ (h : Int) < E := by
  obtain ⟨e1, e2, e3, e4⟩ := he
  constructor
  · rintro ⟨_, a2, a3⟩
    refine ⟨a2, ?_⟩
    rcases e4 with e | ⟨j, j1, j2, j3⟩
    · omega
    · have := a3 j j1 j2; omega
  · rintro ⟨a2, a3⟩
    exact ⟨hK, a2, fun i hi hlt => by have := e3 i hi hlt; omega⟩
theorem endTo_no {f : Nat → Int} {K i : Nat} {E : Int} (he : endTo f K i E) (h : f K < f i → E ≤ f i) : endTo f K (i + 1) E := by
  obtain ⟨e1, e2, e3, e4⟩ := he
  refine ⟨e1, e2, fun j hj hlt => ?_, ?_⟩
  · by_cases e : j = i
    · rw [e] at hlt ⊢; exact h hlt
    · exact e3 j (by omega) hlt
  · rcases e4 with e | ⟨j, j1, j2⟩
    · exact Or.inl e
    · exact Or.inr ⟨j, by omega, j2⟩
theorem endTo_yes {f : Nat → Int} {K i : Nat} {E : Int} (he : endTo f K i E) (h1 : f K < f i) (h2 : f i < E) : endTo f K (i + 1) (f i) := by
  obtain ⟨e1, e2, e3, e4⟩ := he
  refine ⟨h1, by omega, fun j hj hlt => ?_, Or.inr ⟨i, by omega, h1, rfl⟩⟩
  by_cases e : j = i
  · rw [e]; exact Int.le_refl _
  · have := e3 j (by omega) hlt; omega
theorem paint_next {f w : Nat → Int} {N K h : Nat} {d v v' : Int} (hd : ∀ i j, i < N → j < N → f i = f j → i = j) (hp : paint f w N K d h v) (h1 : cov f N K h → v' = w K) (h2 : ¬ cov f N K h → v' = v) : paint f w N (K + 1) d h v' := by
  by_cases c : cov f N K h
  · refine ⟨fun k hk ck => ?_, fun q => absurd c (q K (by omega))⟩
    rw [cov_one hd ck c]; exact h1 c
  · rw [h2 c]
    refine ⟨fun k hk ck => ?_, fun q => hp.2 (fun k hk => q k (by omega))⟩
    by_cases e : k = K
    · rw [e] at ck; exact absurd ck c
    · exact hp.1 k (by omega) ck
theorem dark_next {f w : Nat → Int} {N K h : Nat} {v r r' : Int} (hp : dark f w N K h v r) (h1 : cov f N K h ∧ w K = 0 → r' = 0) (h2 : ¬ (cov f N K h ∧ w K = 0) → r' = r) : dark f w N (K + 1) h v r' := by
  by_cases c : cov f N K h ∧ w K = 0
  · exact ⟨fun _ => h1 c, fun q => absurd ⟨K, by omega, c⟩ q⟩
  · rw [h2 c]
    refine ⟨fun ⟨k, hk, ck⟩ => ?_, fun q => hp.2 (fun ⟨k, hk, ck⟩ => q ⟨k, by omega, ck⟩)⟩
    by_cases e : k = K
    · rw [e] at ck; exact absurd ck c
    · exact hp.1 ⟨k, by omega, ck⟩
/-- a lamp's list of changes in the Model -/
def mlOK (f w : Nat → Int) (N : Nat) : Prop := N ≤ 20 ∧ (∀ i, i < N → 0 ≤ f i ∧ f i < 26280) ∧ (∀ i j, i < N → j < N → f i = f j → i = j) ∧ ∀ i, i < N → 0 ≤ w i ∧ w i ≤ 5000
abbrev lstF (g : Nat → Int) (lp : Nat) (k : Nat) : Int := g (20 * lp + k)
section MDS
variable {th no : Int} {ca ba : Nat → Int} {nl : Int} {xa sa da la ra fa ta ua uh uo ma mh ml : Nat → Int} {nf : Int} {fo fh fs : Nat → Int} {rs ic mn : Int} {bh bo ya : Nat → Int} {np : Int} {pa : Nat → Int} {nc : Int} {cp : Nat → Int}
theorem s_Md_light {lp MN UN : Nat} (hlp : lp < 8) (hma : ma lp = MN) (hua : ua lp = UN) (hm : mlOK (lstF mh lp) (lstF ml lp) MN) (hu : mlOK (lstF uh lp) (lstF uo lp) UN) :
    vc_Md_light th no ca ba nl xa sa da la ra fa ta ua uh uo ma mh ml nf fo fh fs rs ic mn bh bo ya np pa nc cp lp (fun g r => r = 0 ∧ (∀ x, (x < 26280 * lp ∨ 26280 * lp + 26280 ≤ x) → g x = la x) ∧ ∀ h, h < 26280 → ∃ v, paint (lstF mh lp) (lstF ml lp) MN MN (xa lp) h v ∧ dark (lstF uh lp) (lstF uo lp) UN UN h v (g (26280 * lp + h))) := by
  obtain ⟨hm1, hm2, hm3, hm4⟩ := hm
  obtain ⟨hu1, hu2, hu3, hu4⟩ := hu
  unfold vc_Md_light
  rw [Int.toNat_natCast, hma, hua]
  refine ⟨fun h1 g => ∃ H : Nat, h1 = H ∧ H ≤ 26280 ∧ (∀ x, (x < 26280 * lp ∨ 26280 * lp + 26280 ≤ x) → g x = la x) ∧ ∀ h, h < H → g (26280 * lp + h) = xa lp, fun h1 _ => 26280 - h1.toNat, ⟨0, rfl, by omega, fun _ _ => rfl, fun h q => by omega⟩, ?_⟩
  rintro h1 g1 ⟨H, rfl, hH, go1, gi1⟩
  refine ⟨⟨by omega, by omega⟩, fun q => ?_, fun q => ⟨⟨by omega, by omega⟩, ⟨by omega, by omega⟩, ⟨H + 1, by omega, by omega, fun x hx => ?_, fun h hh => ?_⟩, by dsimp only; omega⟩⟩
  rotate_left
  · rw [show ((26280 : Int) * lp + H).toNat = 26280 * lp + H by omega, up_ne (by omega)]; exact go1 x hx
  · rw [show ((26280 : Int) * lp + H).toNat = 26280 * lp + H by omega]
    by_cases e : h = H
    · rw [e, up_self]
    · rw [up_ne (by omega)]; exact gi1 h (by omega)
  have gi1' : ∀ h, h < 26280 → g1 (26280 * lp + h) = xa lp := fun h hh => gi1 h (by omega)
  -- measures
  refine ⟨fun ka g => ∃ K : Nat, ka = K ∧ K ≤ MN ∧ (∀ x, (x < 26280 * lp ∨ 26280 * lp + 26280 ≤ x) → g x = la x) ∧ ∀ h, h < 26280 → paint (lstF mh lp) (lstF ml lp) MN K (xa lp) h (g (26280 * lp + h)), fun ka _ => MN - ka.toNat, ⟨0, rfl, by omega, go1, fun h hh => ⟨fun k hk => by omega, fun _ => gi1' h hh⟩⟩, ?_⟩
  clear gi1 gi1' go1 hH q
  rintro ka g2 ⟨K, rfl, hK, go2, gi2⟩
  refine ⟨⟨by omega, by omega⟩, ⟨by omega, by omega⟩, ⟨by omega, by omega⟩, fun q => ?_, fun q => ?_⟩
  · -- turns
    have eK : K = MN := by omega
    subst eK
    refine ⟨fun kb g => ∃ J : Nat, kb = J ∧ J ≤ UN ∧ (∀ x, (x < 26280 * lp ∨ 26280 * lp + 26280 ≤ x) → g x = la x) ∧ ∀ h, h < 26280 → dark (lstF uh lp) (lstF uo lp) UN J h (g2 (26280 * lp + h)) (g (26280 * lp + h)), fun kb _ => UN - kb.toNat, ⟨0, rfl, by omega, go2, fun h hh => ⟨fun ⟨k, hk, _⟩ => by omega, fun _ => rfl⟩⟩, ?_⟩
    rintro kb g4 ⟨J, rfl, hJ, go4, gi4⟩
    refine ⟨⟨by omega, by omega⟩, ⟨by omega, by omega⟩, ⟨by omega, by omega⟩, fun q2 => ⟨rfl, go4, fun h hh => ⟨_, gi2 h hh, by rw [show UN = J by omega]; rw [show UN = J by omega] at gi4; exact gi4 h hh⟩⟩, fun q2 => ?_⟩
    have fJ := hu2 J (by omega)
    refine ⟨fun en i => ∃ n : Nat, i = n ∧ n ≤ UN ∧ endTo (lstF uh lp) J n en, fun _ i => UN - i.toNat, ⟨0, rfl, by omega, by unfold lstF at fJ ⊢; omega, by omega, fun j hj => by omega, Or.inl rfl⟩, ?_⟩
    rintro en i ⟨n, rfl, hn, he⟩
    rw [show ((20 : Int) * lp + J).toNat = 20 * lp + J by omega, show ((20 : Int) * lp + n).toNat = 20 * lp + n by omega]
    refine ⟨⟨by omega, by omega⟩, ⟨by omega, by omega⟩, fun q3 => ⟨⟨by omega, by omega⟩, ?_⟩, fun q3 => ?_⟩
    · have en1 : n = UN := by omega
      subst en1
      obtain ⟨F, hF⟩ : ∃ F : Nat, uh (20 * lp + J) = F := ⟨(uh (20 * lp + J)).toNat, by unfold lstF at fJ; omega⟩
      have hF2 : lstF uh lp J = F := hF
      have hcov : ∀ h, h < 26280 → (cov (lstF uh lp) n J h ↔ F ≤ h ∧ (h : Int) < en) := fun h hh => by
        rw [endTo_cov (by omega) he hh, hF2]; omega
      have e1 := he.1
      have e2 := he.2.1
      rw [hF2] at e1 fJ
      rw [hF]
      refine ⟨fun h3 g => ∃ H : Nat, h3 = H ∧ F ≤ H ∧ (H : Int) ≤ en ∧ (lstF uo lp J ≠ 0 → g = g4) ∧ (∀ x, ¬ (26280 * lp + F ≤ x ∧ x < 26280 * lp + H) → g x = g4 x) ∧ (lstF uo lp J = 0 → ∀ x, 26280 * lp + F ≤ x → x < 26280 * lp + H → g x = 0), fun h3 _ => 26280 - h3.toNat, ⟨F, rfl, by omega, by omega, fun _ => rfl, fun _ _ => rfl, fun _ x q4 q5 => by omega⟩, ?_⟩
      rintro h3 g5 ⟨H3, rfl, hF3, hH3, p1, p2, p3⟩
      have nxt : ((H3 : Int) = en ∨ lstF uo lp J ≠ 0) → ∃ V : Nat, (J : Int) + 1 = V ∧ V ≤ n ∧ (∀ x, (x < 26280 * lp ∨ 26280 * lp + 26280 ≤ x) → g5 x = la x) ∧ ∀ h, h < 26280 → dark (lstF uh lp) (lstF uo lp) n V h (g2 (26280 * lp + h)) (g5 (26280 * lp + h)) := fun c => by
        refine ⟨J + 1, by omega, by omega, fun x hx => ?_, fun h hh => dark_next (gi4 h hh) (fun c2 => ?_) (fun c2 => ?_)⟩
        · rw [p2 x (by omega)]; exact go4 x hx
        · have := (hcov h hh).mp c2.1
          rcases c with c | c
          · exact p3 c2.2 _ (by omega) (by omega)
          · exact absurd c2.2 c
        · rcases c with c | c
          · by_cases c3 : lstF uo lp J = 0
            · refine p2 _ (fun c4 => c2 ⟨(hcov h hh).mpr ⟨by omega, by omega⟩, c3⟩)
            · rw [p1 c3]
          · rw [p1 c]
      have ux := hu4 J (by omega)
      unfold lstF at ux
      refine ⟨⟨by omega, by omega⟩, ⟨by omega, by omega⟩, fun q4 => ⟨nxt (Or.inl (by omega)), by dsimp only; omega⟩, fun q4 => ⟨⟨by omega, by omega⟩, ⟨by omega, by omega⟩, fun q5 => ⟨nxt (Or.inr q5), by dsimp only; omega⟩, fun q5 => ⟨⟨by omega, by omega⟩, ⟨H3 + 1, by omega, by omega, by omega, fun c => absurd q5 c, fun x hx => ?_, fun _ x x1 x2 => ?_⟩, by dsimp only; omega⟩⟩⟩
      · rw [show ((26280 : Int) * lp + H3).toNat = 26280 * lp + H3 by omega, up_ne (by omega)]; exact p2 x (by omega)
      · rw [show ((26280 : Int) * lp + H3).toNat = 26280 * lp + H3 by omega]
        by_cases e : x = 26280 * lp + H3
        · rw [e, up_self]
        · rw [up_ne e]; exact p3 q5 x x1 (by omega)
    · have fn := hu2 n (by omega)
      unfold lstF at fn fJ
      have he1 := he.1
      have he2 := he.2.1
      unfold lstF at he1
      refine ⟨⟨by omega, by omega⟩, ⟨by omega, by omega⟩, ⟨by omega, by omega⟩, ⟨by omega, by omega⟩, fun q4 => ⟨⟨n + 1, by omega, by omega, endTo_no he (fun c => ?_)⟩, by dsimp only; omega⟩, fun q4 => ⟨⟨by omega, by omega⟩, fun q5 => ⟨⟨n + 1, by omega, by omega, endTo_no he (fun _ => q5)⟩, by dsimp only; omega⟩, fun q5 => ⟨⟨n + 1, by omega, by omega, endTo_yes he q4 q5⟩, by dsimp only; omega⟩⟩⟩
      unfold lstF at c; omega
  · have fK := hm2 K (by omega)
    refine ⟨fun en i => ∃ n : Nat, i = n ∧ n ≤ MN ∧ endTo (lstF mh lp) K n en, fun _ i => MN - i.toNat, ⟨0, rfl, by omega, by unfold lstF at fK ⊢; omega, by omega, fun j hj => by omega, Or.inl rfl⟩, ?_⟩
    rintro en i ⟨n, rfl, hn, he⟩
    rw [show ((20 : Int) * lp + K).toNat = 20 * lp + K by omega, show ((20 : Int) * lp + n).toNat = 20 * lp + n by omega]
    refine ⟨⟨by omega, by omega⟩, ⟨by omega, by omega⟩, fun q3 => ⟨⟨by omega, by omega⟩, ?_⟩, fun q3 => ?_⟩
    · have en1 : n = MN := by omega
      subst en1
      obtain ⟨F, hF⟩ : ∃ F : Nat, mh (20 * lp + K) = F := ⟨(mh (20 * lp + K)).toNat, by unfold lstF at fK; omega⟩
      have hF2 : lstF mh lp K = F := hF
      have hcov : ∀ h, h < 26280 → (cov (lstF mh lp) n K h ↔ F ≤ h ∧ (h : Int) < en) := fun h hh => by
        rw [endTo_cov (by omega) he hh, hF2]; omega
      have e1 := he.1
      have e2 := he.2.1
      rw [hF2] at e1 fK
      rw [hF]
      refine ⟨fun h3 g => ∃ H : Nat, h3 = H ∧ F ≤ H ∧ (H : Int) ≤ en ∧ (∀ x, ¬ (26280 * lp + F ≤ x ∧ x < 26280 * lp + H) → g x = g2 x) ∧ (∀ x, 26280 * lp + F ≤ x → x < 26280 * lp + H → g x = lstF ml lp K), fun h3 _ => 26280 - h3.toNat, ⟨F, rfl, by omega, by omega, fun _ _ => rfl, fun x q4 q5 => by omega⟩, ?_⟩
      rintro h3 g3 ⟨H3, rfl, hF3, hH3, p2, p3⟩
      refine ⟨⟨by omega, by omega⟩, ⟨by omega, by omega⟩, fun q4 => ⟨⟨K + 1, by omega, by omega, fun x hx => ?_, fun h hh => paint_next hm3 (gi2 h hh) (fun c => ?_) (fun c => ?_)⟩, by dsimp only; omega⟩, fun q4 => ⟨⟨by omega, by omega⟩, ⟨by omega, by omega⟩, ⟨H3 + 1, by omega, by omega, by omega, fun x hx => ?_, fun x x1 x2 => ?_⟩, by dsimp only; omega⟩⟩
      · rw [p2 x (by omega)]; exact go2 x hx
      · have := (hcov h hh).mp c
        exact p3 _ (by omega) (by omega)
      · exact p2 _ (fun c4 => c ((hcov h hh).mpr ⟨by omega, by omega⟩))
      · rw [show ((26280 : Int) * lp + H3).toNat = 26280 * lp + H3 by omega, up_ne (by omega)]; exact p2 x (by omega)
      · rw [show ((26280 : Int) * lp + H3).toNat = 26280 * lp + H3 by omega]
        by_cases e : x = 26280 * lp + H3
        · rw [e, up_self]
        · rw [up_ne e]; exact p3 x x1 (by omega)
    · have fn := hm2 n (by omega)
      unfold lstF at fn fK
      have he1 := he.1
      have he2 := he.2.1
      unfold lstF at he1
      refine ⟨⟨by omega, by omega⟩, ⟨by omega, by omega⟩, ⟨by omega, by omega⟩, ⟨by omega, by omega⟩, fun q4 => ⟨⟨n + 1, by omega, by omega, endTo_no he (fun c => ?_)⟩, by dsimp only; omega⟩, fun q4 => ⟨⟨by omega, by omega⟩, fun q5 => ⟨⟨n + 1, by omega, by omega, endTo_no he (fun _ => q5)⟩, by dsimp only; omega⟩, fun q5 => ⟨⟨n + 1, by omega, by omega, endTo_yes he q4 q5⟩, by dsimp only; omega⟩⟩⟩
      unfold lstF at c; omega
/-- the Model's light is the lamp's -/
theorem light_is {wh wv : Nat → Int} {WN : Nat} {md : Int} {h2 v2 : Nat → Int} {MN' : Nat} {f w f2 w2 : Nat → Int} {UN MN h : Nat} {v r : Int} (hw : srt wh WN) (hm : srt h2 MN')
    (hWv : ∀ i, i < UN → w i = 0 ∨ w i = 1) (eW : ∀ a b, chMap wh wv WN a b ↔ chMap f w UN a b) (eM : ∀ a b, chMap h2 v2 MN' a b ↔ chMap f2 w2 MN a b)
    (hp : paint f2 w2 MN MN md h v) (hd : dark f w UN UN h v r) : r = lpLux wh wv WN md h2 v2 MN' h := by
  have a := chv_last (d := 1) (fv := wv) (t := (h : Int)) hw
  have b := chv_last (d := md) (fv := v2) (t := (h : Int)) hm
  -- the measured lux
  have ev : v = chv md h2 v2 MN' h := by
    rcases b with ⟨t, b1, b2, b3⟩ | ⟨b1, b2⟩
    · obtain ⟨k, k1, k2, k3⟩ := (eM _ _).mp b1
      rw [← k3]
      refine hp.1 k k1 ⟨k1, by omega, fun i hi hlt => ?_⟩
      rcases Int.lt_or_le (h : Int) (f2 i) with u | u
      · exact u
      · have := b3 _ _ ((eM _ _).mpr ⟨i, hi, rfl, rfl⟩) u; omega
    · rw [b2]
      refine hp.2 (fun k hk c => ?_)
      have := b1 _ _ ((eM _ _).mpr ⟨k, hk, rfl, rfl⟩)
      have := c.2.1; omega
  unfold lpLux
  rcases a with ⟨t, b1, b2, b3⟩ | ⟨b1, b2⟩
  · obtain ⟨k, k1, k2, k3⟩ := (eW _ _).mp b1
    have cv : cov f UN k h := ⟨k1, by omega, fun i hi hlt => by
      rcases Int.lt_or_le (h : Int) (f i) with u | u
      · exact u
      · have := b3 _ _ ((eW _ _).mpr ⟨i, hi, rfl, rfl⟩) u; omega⟩
    rcases hWv k k1 with u | u
    · rw [if_neg (by omega)]; exact hd.1 ⟨k, k1, cv, u⟩
    · rw [if_pos (by omega), ← ev]
      refine hd.2 (fun ⟨j, j1, j2, j3⟩ => ?_)
      -- j and k tell at the same hour
      have e : f j = f k := by
        rcases Int.lt_trichotomy (f j) (f k) with q | q | q
        · have := j2.2.2 k k1 q; have := cv.2.1; omega
        · exact q
        · have := cv.2.2 j j1 q; have := j2.2.1; omega
      have := chMap_fun hw _ _ _ ((eW _ _).mpr ⟨j, j1, e, rfl⟩) ((eW _ _).mpr ⟨k, k1, rfl, rfl⟩)
      omega
  · rw [if_pos b2, ← ev]
    refine hd.2 (fun ⟨j, j1, j2, j3⟩ => ?_)
    have := b1 _ _ ((eW _ _).mpr ⟨j, j1, rfl, rfl⟩)
    have := j2.2.1; omega
end MDS
