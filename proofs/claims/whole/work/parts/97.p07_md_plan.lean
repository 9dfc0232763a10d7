/-! SPEC of the Model: plan. -/
section MDS
variable {th no : Int} {ca ba : Nat → Int} {nl : Int} {xa sa da la ra fa ta ua uh uo ma mh ml : Nat → Int} {nf : Int} {fo fh fs : Nat → Int} {rs ic mn : Int} {bh bo ya : Nat → Int} {np : Int} {pa : Nat → Int} {nc : Int} {cp : Nat → Int}
abbrev unM (sa da la ra fa ta : Nat → Int) (NL ob : Nat) : Nat → Int := Un (mdB da sa la NL ob) (shB (rowF fa ob) (rowF ta ob) (ra ob).toNat)
theorem plan_all {B : Nat → Int} {sh : Nat → Bool} {P : Nat → Int} {a b : Nat} (hB : ∀ h, h < 26280 → 0 ≤ B h ∧ B h ≤ 162000000000) (hP : ∀ y, y < 3 → 0 ≤ P y ∧ P y ≤ 5000000000000000) (hab : a ≤ b) (hb : b ≤ 26280) : planIs B sh P (bdP (-1)) a b ((b : Int) - a) := by
  refine ⟨b - a, by omega, by omega, fun h h1 h2 => ?_, fun q => by omega⟩
  unfold planOk
  have e : bdP (-1) = 1000000000000000000 := rfl
  have p := hP (h / 8760) (by omega)
  have u : rg (Un B sh) (max a (8760 * (h / 8760))) (h + 1) ≤ ((h + 1 - max a (8760 * (h / 8760)) : Nat) : Int) * 162000000000 := rg_le (by omega) (fun k _ q => by
    have h4 := hB k (by omega)
    have := Wt_nonneg (sh := sh) h4.1
    unfold Un; omega)
  rw [e]
  omega
theorem s_Md_plan {ob a b : Int} (ok : mdAll no ca ba nl sa da la ra fa ta nf fo fh fs) (ho : r32 ob) (ha : r32 a) (hb : r32 b) :
    vc_Md_plan th no ca ba nl xa sa da la ra fa ta ua uh uo ma mh ml nf fo fh fs rs ic mn bh bo ya np pa nc cp ob a b (fun z t g => (¬ ((0 ≤ ob ∧ ob < no) ∧ 0 ≤ a ∧ a < 26280) → t = 1) ∧ ((0 ≤ ob ∧ ob < no) ∧ (0 ≤ a ∧ a < 26280) → ¬ (a < b ∧ b ≤ 26280) → t = 2) ∧ ((0 ≤ ob ∧ ob < no) ∧ (0 ≤ a ∧ a < 26280) → a < b ∧ b ≤ 26280 → t = 0 ∧ planIs (mdB da sa la nl.toNat ob.toNat) (shB (rowF fa ob.toNat) (rowF ta ob.toNat) (ra ob.toNat).toNat) (fun y => gotM sa da la ra fa ta fo fh fs nl.toNat nf.toNat ob.toNat (8760 * y) (8760 * y + 8760)) (bdP (ba (ca ob.toNat).toNat)) a.toNat b.toNat z)) := by
  have ok2 := ok
  obtain ⟨⟨h0, h1, h2⟩, hba, h3, h4, h5, h6⟩ := ok2
  unfold vc_Md_plan
  refine ⟨ho, ⟨by omega, by omega⟩, fun q => ⟨ha, fun q2 => ⟨hb, fun q3 => ?_, fun q3 => ⟨fun q4 => ?_, fun q4 => ?_⟩⟩, fun q2 => ⟨hb, fun q3 => ?_, fun q3 => ⟨fun q4 => ?_, fun q4 => ?_⟩⟩⟩, fun q => ⟨hb, ha, fun q3 => ?_, fun q3 => ⟨fun q4 => ?_, fun q4 => ?_⟩⟩⟩
  · exact ⟨fun u => absurd ⟨q, q2⟩ u, fun _ _ => rfl, fun _ u => by omega⟩
  · exact ⟨fun u => absurd ⟨q, q2⟩ u, fun _ _ => rfl, fun _ u => by omega⟩
  · obtain ⟨O, rfl⟩ : ∃ O : Nat, ob = O := ⟨ob.toNat, by omega⟩
    obtain ⟨A, rfl⟩ : ∃ A : Nat, a = A := ⟨a.toNat, by omega⟩
    obtain ⟨Bn, rfl⟩ : ∃ Bn : Nat, b = Bn := ⟨b.toNat, by omega⟩
    simp only [Int.toNat_natCast]
    obtain ⟨h9, h7, h8⟩ := h2 O q.2
    have hbb := hba (ca O).toNat (by omega)
    have hB : ∀ h, h < 26280 → 0 ≤ mdB da sa la nl.toNat O h ∧ mdB da sa la nl.toNat O h ≤ 162000000000 := fun h hh => mdB_range h5 (by omega) hh
    have hP : ∀ y, y < 3 → 0 ≤ (fun y => gotM sa da la ra fa ta fo fh fs nl.toNat nf.toNat O (8760 * y) (8760 * y + 8760)) y ∧ (fun y => gotM sa da la ra fa ta fo fh fs nl.toNat nf.toNat O (8760 * y) (8760 * y + 8760)) y ≤ 5000000000000000 := fun y hy => gotM_range ok q.2 (by omega) (by omega)
    have pts : ∀ (g : Nat → Int) (y : Nat), y < 3 → vc_Md_parts 0 no ca ba nl xa sa da la ra fa ta ua uh uo ma mh ml nf fo fh fs rs ic mn bh bo g np pa nc cp O (8760 * (y : Int)) (8760 * (y : Int) + 8760) (fun z => z = (fun y => gotM sa da la ra fa ta fo fh fs nl.toNat nf.toNat O (8760 * y) (8760 * y + 8760)) y) := fun g y hy => by
      rw [show (8760 : Int) * y = ((8760 * y : Nat) : Int) by omega, show ((8760 * y : Nat) : Int) + 8760 = ((8760 * y + 8760 : Nat) : Int) by omega]
      exact s_Md_partsA (a := 8760 * y) (b := 8760 * y + 8760) ok q.2 (by omega) (by omega)
    generalize (fun y => gotM sa da la ra fa ta fo fh fs nl.toNat nf.toNat O (8760 * y) (8760 * y + 8760)) = P at hP pts ⊢
    refine ⟨⟨by omega, by omega⟩, h9, ⟨by omega, by omega⟩, fun q5 => ?_, fun q5 => ⟨fun u => absurd ⟨q, q2⟩ u, fun _ u => absurd ⟨q3, q4⟩ u, fun _ _ => ⟨trivial, by rw [q5]; exact plan_all hB hP (by omega) (by omega)⟩⟩⟩
    have hbd : bdP (ba (ca O).toNat) = 3600000 * ba (ca O).toNat := by rw [bdP, if_neg q5]
    have bnd : ∀ g : Nat → Int, vc_Md_bound 0 no ca ba nl xa sa da la ra fa ta ua uh uo ma mh ml nf fo fh fs rs ic mn bh bo g np pa nc cp O (fun z => z = bdP (ba (ca O).toNat)) := fun g => by rw [hbd]; exact s_Md_bound (by omega) h9 hba
    have hbr := bdP_range hbb
    generalize bdP (ba (ca O).toNat) = bd at hbr bnd ⊢
    clear hbd
    refine ⟨fun y g => ∃ Y : Nat, y = Y ∧ Y ≤ 3 ∧ ∀ u, u < Y → 8760 * u < Bn → A < 8760 * u + 8760 → g u = P u, fun y _ => (3 - y).toNat, ⟨0, rfl, by omega, fun u hu => by omega⟩, ?_⟩
    rintro y g1 ⟨Y, rfl, hY, hg⟩
    refine ⟨⟨by omega, by omega⟩, fun q6 => ?_, fun q6 => ?_⟩
    · -- hour by hour
      have e3 : Y = 3 := by omega
      subst e3
      have shn : ∀ (g : Nat → Int) (H : Nat), H < 26280 → vc_Md_isShown 0 no ca ba nl xa sa da la ra fa ta ua uh uo ma mh ml nf fo fh fs rs ic mn bh bo g np pa nc cp O H (fun z => (z = 0 ∨ z = 1) ∧ (z = 1 ↔ shB (rowF fa O) (rowF ta O) (ra O).toNat H = true)) := fun g H hH => s_Md_isShown (N := (ra O).toNat) (by omega) (by omega) (by omega) (fun k hk => h8 k (by omega)) hH
      have brt : ∀ (g : Nat → Int) (H : Nat), H < 26280 → vc_Md_bright 0 no ca ba nl xa sa da la ra fa ta ua uh uo ma mh ml nf fo fh fs rs ic mn bh bo g np pa nc cp O H (fun z => z = mdB da sa la nl.toNat O H) := fun g H hH => s_Md_bright h5 h3 (by omega) hH
      have hg3 : ∀ u, u < 3 → 8760 * u < Bn → A < 8760 * u + 8760 → g1 u = P u := hg
      generalize mdB da sa la nl.toNat O = B at hB brt ⊢
      generalize shB (rowF fa O) (rowF ta O) (ra O).toNat = sh at shn ⊢
      clear hg pts h2 h5 h6 h8
      refine ⟨fun n h g => ∃ H : Nat, h = H ∧ n = (H : Int) - A ∧ A ≤ H ∧ H ≤ Bn ∧ (∀ h, A ≤ h → h < H → planOk B sh P bd A h) ∧ ∀ u, u < 3 → H / 8760 ≤ u → 8760 * u < Bn → g u = P u + rg (Un B sh) (max A (8760 * u)) (max H (max A (8760 * u))), fun _ h _ => (Bn - h.toNat), ⟨A, rfl, by omega, by omega, by omega, fun h u1 u2 => by omega, fun u u1 u2 u3 => ?_⟩, ?_⟩
      · rw [hg3 u u1 u3 (by omega), show max A (max A (8760 * u)) = max A (8760 * u) by omega, rg_self]; omega
      rintro n h g2 ⟨H, rfl, rfl, hH1, hH2, hok, hgu⟩
      refine ⟨⟨by omega, by omega⟩, fun q7 => ⟨fun u => absurd ⟨q, q2⟩ u, fun _ u => absurd ⟨q3, q4⟩ u, fun _ _ => ⟨trivial, H - A, by omega, by omega, fun h u1 u2 => hok h u1 (by omega), fun u => by omega⟩⟩, fun q7 => ⟨by omega, ?_⟩⟩
      have ey : ((H : Int) / 8760).toNat = H / 8760 := by omega
      rw [ey]
      have gy := hgu (H / 8760) (by omega) (Nat.le_refl _) (by omega)
      rw [show max H (max A (8760 * (H / 8760))) = H by omega] at gy
      have pY := hP (H / 8760) (by omega)
      have u1 : 0 ≤ rg (Un B sh) (max A (8760 * (H / 8760))) (H + 1) := rg_nonneg (by omega) (fun k _ u => by
        have := Wt_le (sh := sh) (hB k (by omega)).1; unfold Un; omega)
      have u2 : rg (Un B sh) (max A (8760 * (H / 8760))) (H + 1) ≤ ((H + 1 - max A (8760 * (H / 8760)) : Nat) : Int) * 162000000000 := rg_le (by omega) (fun k _ u => by
        have h4 := hB k (by omega)
        have := Wt_nonneg (sh := sh) h4.1
        unfold Un; omega)
      have u3 : rg (Un B sh) (max A (8760 * (H / 8760))) (H + 1) = rg (Un B sh) (max A (8760 * (H / 8760))) H + Un B sh H := rg_next
      have okH : planOk B sh P bd A H ↔ P (H / 8760) + rg (Un B sh) (max A (8760 * (H / 8760))) (H + 1) ≤ bd := Iff.rfl
      -- the next state of the years
      have next : ∀ x, x = P (H / 8760) + rg (Un B sh) (max A (8760 * (H / 8760))) (H + 1) → ∀ u, u < 3 → (H + 1) / 8760 ≤ u → 8760 * u < Bn → va_up g2 (H / 8760) x u = P u + rg (Un B sh) (max A (8760 * u)) (max (H + 1) (max A (8760 * u))) := fun x hx u v1 v2 v3 => by
        by_cases e : u = H / 8760
        · rw [e, up_self, hx, show max (H + 1) (max A (8760 * (H / 8760))) = H + 1 by omega]
        · rw [up_ne e, hgu u v1 (by omega) v3, show max H (max A (8760 * u)) = max (H + 1) (max A (8760 * u)) by omega]
      have nok : planOk B sh P bd A H → ∀ h, A ≤ h → h < H + 1 → planOk B sh P bd A h := fun c h v1 v2 => by
        by_cases e : h = H
        · rw [e]; exact c
        · exact hok h v1 (by omega)
      refine ⟨_, shn g2 H (by omega), ?_⟩
      rintro z ⟨hz, hi⟩
      refine ⟨⟨by omega, by omega⟩, fun q8 => ⟨⟨by omega, by omega⟩, _, brt g2 H (by omega), fun w hw => ⟨⟨by omega, by omega⟩, ⟨by omega, by omega⟩, _, bnd _, fun v hv => ?_⟩⟩, fun q8 => ⟨⟨by omega, by omega⟩, ⟨by omega, by omega⟩, ⟨by omega, by omega⟩, _, bnd _, fun v hv => ?_⟩⟩
      · have uH : Un B sh H = B H := by
          have : ¬ sh H = true := fun u => by have := hi.mpr u; omega
          unfold Un Wt; rw [if_neg this]; omega
        rw [up_self, hv, hw, gy]
        have ex : P (H / 8760) + rg (Un B sh) (max A (8760 * (H / 8760))) H + B H = P (H / 8760) + rg (Un B sh) (max A (8760 * (H / 8760))) (H + 1) := by omega
        rw [ex]
        refine ⟨⟨by omega, by omega⟩, ⟨by omega, by omega⟩, fun q9 => ⟨⟨H + 1, by omega, by omega, by omega, by omega, nok (okH.mpr q9), next _ rfl⟩, by dsimp only; omega⟩, fun q9 => ⟨fun u => absurd ⟨q, q2⟩ u, fun _ u => absurd ⟨q3, q4⟩ u, fun _ _ => ⟨trivial, H - A, by omega, by omega, fun h u1 u2 => hok h u1 (by omega), fun _ c => ?_⟩⟩⟩
        rw [show A + (H - A) = H by omega] at c
        have := okH.mp c; omega
      · have uH : Un B sh H = 0 := by
          have : sh H = true := hi.mp (by omega)
          unfold Un Wt; rw [if_pos this]; omega
        rw [up_self, hv, gy]
        have ex : P (H / 8760) + rg (Un B sh) (max A (8760 * (H / 8760))) H = P (H / 8760) + rg (Un B sh) (max A (8760 * (H / 8760))) (H + 1) := by omega
        rw [ex]
        refine ⟨⟨by omega, by omega⟩, ⟨by omega, by omega⟩, fun q9 => ⟨⟨H + 1, by omega, by omega, by omega, by omega, nok (okH.mpr q9), next _ rfl⟩, by dsimp only; omega⟩, fun q9 => ⟨fun u => absurd ⟨q, q2⟩ u, fun _ u => absurd ⟨q3, q4⟩ u, fun _ _ => ⟨trivial, H - A, by omega, by omega, fun h u1 u2 => hok h u1 (by omega), fun _ c => ?_⟩⟩⟩
        rw [show A + (H - A) = H by omega] at c
        have := okH.mp c; omega
    · rw [Int.toNat_natCast]
      have skip : (Bn ≤ 8760 * Y ∨ 8760 * Y + 8760 ≤ A) → ∃ V : Nat, (Y : Int) + 1 = V ∧ V ≤ 3 ∧ ∀ u, u < V → 8760 * u < Bn → A < 8760 * u + 8760 → va_up g1 Y 0 u = P u := fun c => ⟨Y + 1, by omega, by omega, fun u u1 u2 u3 => by
        have : u ≠ Y := by omega
        rw [up_ne this]; exact hg u (by omega) u2 u3⟩
      refine ⟨⟨by omega, by omega⟩, fun q7 => ⟨⟨by omega, by omega⟩, skip (by omega), by dsimp only; omega⟩, fun q7 => ⟨⟨by omega, by omega⟩, fun q8 => ⟨⟨by omega, by omega⟩, skip (by omega), by dsimp only; omega⟩, fun q8 => ?_⟩⟩
      refine ⟨_, pts g1 Y (by omega), fun z hz => ⟨⟨by omega, by omega⟩, ⟨Y + 1, by omega, by omega, fun u u1 u2 u3 => ?_⟩, by dsimp only; omega⟩⟩
      by_cases e : u = Y
      · rw [e, up_self]; exact hz
      · rw [up_ne e]; exact hg u (by omega) u2 u3
  · exact ⟨fun _ => rfl, fun u => absurd u.2 q2, fun u => absurd u.2 q2⟩
  · exact ⟨fun _ => rfl, fun u => absurd u.2 q2, fun u => absurd u.2 q2⟩
  · exact ⟨fun _ => rfl, fun u => absurd u.2 q2, fun u => absurd u.2 q2⟩
  · exact ⟨fun _ => rfl, fun u => absurd u.1 q, fun u => absurd u.1 q⟩
  · exact ⟨fun _ => rfl, fun u => absurd u.1 q, fun u => absurd u.1 q⟩
  · exact ⟨fun _ => rfl, fun u => absurd u.1 q, fun u => absurd u.1 q⟩
end MDS
