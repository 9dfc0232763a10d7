/-! SPEC of Lamp.cut, turn, measure, its constructor. -/
/-- under way: P pieces up to the hour hN -/
def cutting (L : Nat → Int) (hN : Nat) (gs gl gt : Nat → Int) (P : Nat) : Prop := (P = 0 → hN = 0) ∧ (0 < P → gs 0 = 0) ∧ (∀ p, p + 1 < P → gs p < gs (p + 1)) ∧
  ∀ p, p < P → 0 ≤ gs p ∧ gs p < hN ∧ gt p = sg L (gs p).toNat ∧ (0 ≤ gl p ∧ gl p ≤ 5000) ∧ ∀ h : Nat, gs p ≤ h → (h : Int) < (if p + 1 < P then gs (p + 1) else hN) → L h = gl p
theorem lpc_step {L gs gl gt : Nat → Int} {hN next P : Nat} {x : Int} (h : cutting L hN gs gl gt P) (hlt : hN < next) (hx : 0 ≤ x ∧ x ≤ 5000) (hL : ∀ k : Nat, hN ≤ k → k < next → L k = x) : cutting L next (va_up gs P hN) (va_up gl P x) (va_up gt P (sg L hN)) (P + 1) := by
  obtain ⟨h0, h1, h2, h3⟩ := h
  refine ⟨fun q => by omega, fun _ => ?_, fun p hp => ?_, fun p hp => ?_⟩
  · by_cases e : P = 0
    · subst e; rw [up_self, h0 rfl]; rfl
    · rw [up_ne (by omega)]; exact h1 (by omega)
  · by_cases e : p + 1 = P
    · rw [e, up_self, up_ne (by omega)]; exact (h3 p (by omega)).2.1
    · rw [up_ne (by omega), up_ne (by omega)]; exact h2 p (by omega)
  · by_cases e : p = P
    · subst e
      rw [up_self, up_self, up_self]
      refine ⟨by omega, by omega, by rw [Int.toNat_natCast], hx, fun k q1 q2 => ?_⟩
      rw [if_neg (by omega)] at q2
      exact hL k (by omega) (by omega)
    · rw [up_ne e, up_ne e, up_ne e]
      obtain ⟨a1, a2, a3, a4, a5⟩ := h3 p (by omega)
      refine ⟨a1, by omega, a3, a4, fun k q1 q2 => a5 k q1 ?_⟩
      by_cases e2 : p + 1 = P
      · rw [if_pos (by omega), e2, up_self] at q2
        rw [if_neg (by omega)]; exact q2
      · rw [if_pos (by omega), up_ne (by omega)] at q2
        rw [if_pos (by omega)]; exact q2
theorem s_Lp_cut {wh wv : Nat → Int} {WN : Nat} {mfst : Int} {mh mv : Nat → Int} {MN : Nat} {ps pl pt : Nat → Int} {np : Int} (hw : chOK wh wv WN) (hm : chOK mh mv MN) (hf : 0 ≤ mfst ∧ mfst ≤ 5000) :
    vc_Lp_cut 1 wh wv WN mfst mh mv MN ps pl pt np (lpCut (lpLux wh wv WN mfst mh mv MN)) := by
  unfold vc_Lp_cut
  obtain ⟨L, hL⟩ : ∃ L, L = lpLux wh wv WN mfst mh mv MN := ⟨_, rfl⟩
  rw [← hL]
  have fin : ∀ (gs gl gt : Nat → Int) (P : Nat), cutting L 26280 gs gl gt P → P ≤ 41 → lpCut L gs gl gt P := by
    intro gs gl gt P ⟨h0, h1, h2, h3⟩ hP
    have hP0 : 0 < P := Nat.pos_of_ne_zero (fun e => by have := h0 e; omega)
    refine ⟨P, rfl, hP0, hP, h1 hP0, h2, fun p hp => ?_⟩
    obtain ⟨a1, a2, a3, a4, a5⟩ := h3 p hp
    exact ⟨a1, by omega, a3, a4, fun k q1 q2 => a5 k q1 (by split <;> simp_all)⟩
  refine ⟨fun gat hw_ gs gl gt gn => ∃ P hN : Nat, gn = P ∧ hw_ = hN ∧ hN ≤ 26280 ∧ gat = sg L hN ∧ P ≤ WN + MN + 1 ∧ (hN < 26280 → ∀ kw km, upTo wh WN hN kw → upTo mh MN hN km → P ≤ kw + km) ∧ cutting L hN gs gl gt P, fun _ hw_ _ _ _ _ => (26280 - hw_).toNat, ?_, ?_⟩
  · exact ⟨0, 0, rfl, rfl, by omega, rfl, by omega, fun _ kw km _ _ => by omega, fun _ => rfl, fun q => by omega, fun p q => by omega, fun p q => by omega⟩
  · rintro gat hw_ gs gl gt gn ⟨P, hN, rfl, rfl, hN1, rfl, hPb, hPk, hcut⟩
    obtain ⟨kw, hkw⟩ := upTo_ex hw.2.1 (hN : Int)
    obtain ⟨km, hkm⟩ := upTo_ex hm.2.1 (hN : Int)
    have hw1 := hw.1
    have hm1 := hm.1
    have hkwN := hkw.1
    have hkmN := hkm.1
    refine ⟨⟨by omega, by omega⟩, fun q => ?_, fun q => ⟨⟨by omega, by omega⟩, fun q2 => ?_, fun q2 => ?_⟩⟩
    · have e : hN = 26280 := by
        rcases Nat.lt_or_ge hN 26280 with r | r
        · have := hPk r kw km hkw hkm; omega
        · omega
      subst e
      exact fin gs gl gt P hcut (by omega)
    · have e : hN = 26280 := by omega
      subst e
      exact fin gs gl gt P hcut (by omega)
    · have hlt : hN < 26280 := by omega
      have hPk' := hPk hlt kw km hkw hkm
      refine ⟨_, s_Ch_nextBehind hw ⟨by omega, by omega⟩, ?_⟩
      rintro _ ⟨kw', hkw', rfl⟩
      cases upTo_one hkw hkw'
      refine ⟨_, s_Ch_nextBehind hm ⟨by omega, by omega⟩, ?_⟩
      rintro _ ⟨km', hkm', rfl⟩
      cases upTo_one hkm hkm'
      -- the next hours of both
      obtain ⟨a, ha⟩ : ∃ a : Nat, (if kw < WN then wh kw else 26280) = (a : Int) ∧ hN < a ∧ a ≤ 26280 := by
        by_cases c : kw < WN
        · have := hw.2.2.1 kw c
          have := hkw.2.2 kw (Nat.le_refl _) c
          exact ⟨(wh kw).toNat, by rw [if_pos c]; omega, by omega, by omega⟩
        · exact ⟨26280, by rw [if_neg c]; rfl, by omega, by omega⟩
      obtain ⟨b, hb⟩ : ∃ b : Nat, (if km < MN then mh km else 26280) = (b : Int) ∧ hN < b ∧ b ≤ 26280 := by
        by_cases c : km < MN
        · have := hm.2.2.1 km c
          have := hkm.2.2 km (Nat.le_refl _) c
          exact ⟨(mh km).toNat, by rw [if_pos c]; omega, by omega, by omega⟩
        · exact ⟨26280, by rw [if_neg c]; rfl, by omega, by omega⟩
      have wa : kw < WN → wh kw = a := fun c => by rw [← ha.1, if_pos c]
      have mb : km < MN → mh km = b := fun c => by rw [← hb.1, if_pos c]
      rw [ha.1, hb.1]
      obtain ⟨nx, hnx⟩ : ∃ nx : Nat, nx = min a b := ⟨_, rfl⟩
      have emin : min (a : Int) (b : Int) = (nx : Int) := by omega
      rw [emin]
      have eP : ((P : Int)).toNat = P := Int.toNat_natCast P
      rw [eP, up_self]
      have stayW : ∀ k : Nat, hN ≤ k → k < nx → upTo wh WN k kw := fun k q3 q4 => upTo_stay hw.2.1 hkw (by omega) (fun c => by have := wa c; omega)
      have stayM : ∀ k : Nat, hN ≤ k → k < nx → upTo mh MN k km := fun k q3 q4 => upTo_stay hm.2.1 hkm (by omega) (fun c => by have := mb c; omega)
      have go : ∀ x : Int, 0 ≤ x ∧ x ≤ 5000 → (∀ k : Nat, hN ≤ k → k < nx → L k = x) → (∃ P' hN' : Nat, (P : Int) + 1 = P' ∧ (nx : Int) = hN' ∧ hN' ≤ 26280 ∧ sg L hN + x * ((nx : Int) - hN) = sg L hN' ∧ P' ≤ WN + MN + 1 ∧ (hN' < 26280 → ∀ kw km, upTo wh WN hN' kw → upTo mh MN hN' km → P' ≤ kw + km) ∧ cutting L hN' (va_up gs P hN) (va_up gl P x) (va_up gt P (sg L hN)) P') := by
        intro x hx hLx
        refine ⟨P + 1, nx, by omega, rfl, by omega, (sg_flat (by omega) (fun k q3 q4 => hLx k q3 q4)).symm, by omega, fun q3 kw2 km2 hk2 hm2 => ?_, lpc_step hcut (by omega) hx hLx⟩
        have g1 := upTo_mono hkw hk2 (by omega)
        have g2 := upTo_mono hkm hm2 (by omega)
        by_cases c : nx = a
        · have c2 : kw < WN := by
            rcases Nat.lt_or_ge kw WN with r | r
            · exact r
            · have : (a : Int) = 26280 := by rw [← ha.1, if_neg (by omega)]
              omega
          have : kw < kw2 := by
            rcases Nat.lt_or_ge kw kw2 with r | r
            · exact r
            · have := hk2.2.2 kw r c2
              have := wa c2
              omega
          omega
        · have c1 : nx = b := by omega
          have c2 : km < MN := by
            rcases Nat.lt_or_ge km MN with r | r
            · exact r
            · have : (b : Int) = 26280 := by rw [← hb.1, if_neg (by omega)]
              omega
          have : km < km2 := by
            rcases Nat.lt_or_ge km km2 with r | r
            · exact r
            · have := hm2.2.2 km r c2
              have := mb c2
              omega
          omega
      refine ⟨⟨by omega, by omega⟩, ⟨by omega, by omega⟩, ⟨by omega, by omega⟩, _, s_Ch_valueAt hw ⟨by omega, by omega⟩, ?_⟩
      rintro z19 ⟨kw', hkw', hz19⟩
      cases upTo_one hkw hkw'
      have ez : ∀ k : Nat, hN ≤ k → k < nx → chv 1 wh wv WN k = z19 := fun k q3 q4 => by rw [chv_up (stayW k q3 q4), hz19]
      have rz : 0 ≤ z19 ∧ z19 ≤ 5000 := by rw [← ez hN (Nat.le_refl _) (by omega)]; exact chv_range (by omega) hw.2.2.2
      refine ⟨⟨by omega, by omega⟩, fun q3 => ?_, fun q3 => ?_⟩
      · have hLx : ∀ k : Nat, hN ≤ k → k < nx → L k = 0 := fun k q4 q5 => by
          rw [hL]; unfold lpLux; rw [ez k q4 q5, if_neg q3]
        exact ⟨⟨by omega, by omega⟩, ⟨by omega, by omega⟩, ⟨by omega, by omega⟩, by decide, ⟨by omega, by omega⟩, go 0 (by omega) hLx, by dsimp only; omega⟩
      · refine ⟨_, s_Ch_valueAt hm ⟨by omega, by omega⟩, ?_⟩
        rintro z29 ⟨km', hkm', hz29⟩
        cases upTo_one hkm hkm'
        have ey : ∀ k : Nat, hN ≤ k → k < nx → chv mfst mh mv MN k = z29 := fun k q4 q5 => by rw [chv_up (stayM k q4 q5), hz29]
        have ry : 0 ≤ z29 ∧ z29 ≤ 5000 := by rw [← ey hN (Nat.le_refl _) (by omega)]; exact chv_range hf hm.2.2.2
        have hLx : ∀ k : Nat, hN ≤ k → k < nx → L k = z29 := fun k q4 q5 => by
          rw [hL]; unfold lpLux; rw [ez k q4 q5, if_pos q3, ey k q4 q5]
        rw [up_self]
        exact ⟨⟨by omega, by omega⟩, ⟨by omega, by omega⟩, ⟨by omega, by omega⟩, ⟨by omega, by omega⟩, ⟨by omega, by omega⟩, go z29 ry hLx, by dsimp only; omega⟩
/-- a lamp: its changes, its pieces -/
def lpOK (wh wv : Nat → Int) (WN : Nat) (mfst : Int) (mh mv : Nat → Int) (MN : Nat) (ps pl pt : Nat → Int) (np : Int) : Prop := chOK wh wv WN ∧ chOK mh mv MN ∧ (0 ≤ mfst ∧ mfst ≤ 5000) ∧ lpCut (lpLux wh wv WN mfst mh mv MN) ps pl pt np
theorem s_Lp_turn {wh wv : Nat → Int} {WN : Nat} {mfst : Int} {mh mv : Nat → Int} {MN : Nat} {ps pl pt : Nat → Int} {np hour on : Int} (h : lpOK wh wv WN mfst mh mv MN ps pl pt np) (hr : 0 ≤ hour ∧ hour < 26280) (ho : on = 0 ∨ on = 1) (hroom : WN < 20 ∨ ∃ i, i < WN ∧ wh i = hour) :
    vc_Lp_turn 1 wh wv WN mfst mh mv MN ps pl pt np hour on (fun wh' wv' wn' ps' pl' pt' np' => ∃ N' : Nat, wn' = N' ∧ toldAs wh wv WN hour on wh' wv' wn' ∧ lpOK wh' wv' N' mfst mh mv MN ps' pl' pt' np') := by
  obtain ⟨hw, hm, hf, -⟩ := h
  unfold vc_Lp_turn
  refine ⟨⟨by omega, by omega⟩, fun q => ?_, fun q => ?_⟩
  · refine ⟨_, s_Ch_tell hw hr (by omega) hroom, ?_⟩
    rintro y5 y6 _ ⟨N', rfl, hw', hrel, hc1, hc2⟩
    refine ⟨_, s_Lp_cut hw' hm hf, fun y10 y11 y12 y13 hc => ⟨N', rfl, ⟨N', rfl, hw', ?_, hc1, hc2⟩, hw', hm, hf, hc⟩⟩
    rw [q]; exact hrel
  · refine ⟨_, s_Ch_tell hw hr (by omega) hroom, ?_⟩
    rintro y5 y6 _ ⟨N', rfl, hw', hrel, hc1, hc2⟩
    refine ⟨_, s_Lp_cut hw' hm hf, fun y10 y11 y12 y13 hc => ⟨N', rfl, ⟨N', rfl, hw', ?_, hc1, hc2⟩, hw', hm, hf, hc⟩⟩
    rw [ho.resolve_left q]; exact hrel
theorem s_Lp_measure {wh wv : Nat → Int} {WN : Nat} {mfst : Int} {mh mv : Nat → Int} {MN : Nat} {ps pl pt : Nat → Int} {np hour lux : Int} (h : lpOK wh wv WN mfst mh mv MN ps pl pt np) (hr : 0 ≤ hour ∧ hour < 26280) (ho : 0 ≤ lux ∧ lux ≤ 5000) (hroom : MN < 20 ∨ ∃ i, i < MN ∧ mh i = hour) :
    vc_Lp_measure 1 wh wv WN mfst mh mv MN ps pl pt np hour lux (fun mh' mv' mn' ps' pl' pt' np' => ∃ N' : Nat, mn' = N' ∧ toldAs mh mv MN hour lux mh' mv' mn' ∧ lpOK wh wv WN mfst mh' mv' N' ps' pl' pt' np') := by
  obtain ⟨hw, hm, hf, -⟩ := h
  unfold vc_Lp_measure
  refine ⟨_, s_Ch_tell hm hr ho hroom, ?_⟩
  rintro y5 y6 _ ⟨N', rfl, hm', hrel, hc1, hc2⟩
  exact ⟨_, s_Lp_cut hw hm' hf, fun y10 y11 y12 y13 hc => ⟨N', rfl, ⟨N', rfl, hm', hrel, hc1, hc2⟩, hw, hm', hf, hc⟩⟩
theorem chOK_0 {fh fv : Nat → Int} : chOK fh fv 0 := ⟨by omega, fun i j _ q => by omega, fun i q => by omega, fun i q => by omega⟩
theorem s_Lp_init {lux0 : Int} (h : 0 ≤ lux0 ∧ lux0 ≤ 5000) : vc_Lp_init lux0 (fun wfst wh wv wn mfst mh mv mn ps pl pt np => wfst = 1 ∧ wn = 0 ∧ mfst = lux0 ∧ mn = 0 ∧ lpOK wh wv 0 mfst mh mv 0 ps pl pt np) := by
  unfold vc_Lp_init
  refine ⟨fun a b c d => a = 1 ∧ d = 0, by unfold vc_Ch_init; exact ⟨rfl, rfl⟩, ?_⟩
  rintro _ y5 y6 _ ⟨rfl, rfl⟩
  refine ⟨fun a b c d => a = lux0 ∧ d = 0, by unfold vc_Ch_init; exact ⟨rfl, rfl⟩, ?_⟩
  rintro _ y14 y15 _ ⟨rfl, rfl⟩
  exact ⟨_, s_Lp_cut (WN := 0) (MN := 0) chOK_0 chOK_0 h, fun y24 y25 y26 y27 hc => ⟨rfl, rfl, rfl, rfl, chOK_0, chOK_0, h, hc⟩⟩
