/-! SPEC of the Model: plan, breaches. -/
section MDS
variable {th no : Int} {ca ba : Nat → Int} {nl : Int} {xa sa da la ra fa ta ua uh uo ma mh ml : Nat → Int} {nf : Int} {fo fh fs : Nat → Int} {rs ic mn : Int} {bh bo ya : Nat → Int} {np : Int} {pa : Nat → Int} {nc : Int} {cp : Nat → Int}
theorem s_Md_put {n : Nat} {hour ob : Int} (hn : n < 36) (hmn : mn = n) (hs : nsrt bh n) (hb : ∀ i, i < n → r32 (bh i) ∧ r32 (bo i) ∧ bo i ≤ ob) (hh : r32 hour) (ho : r32 ob) : vc_Md_put th no ca ba nl xa sa da la ra fa ta ua uh uo ma mh ml nf fo fh fs rs ic mn bh bo ya np pa nc cp hour ob (insPost bh bo n hour ob) := by
  subst hmn
  unfold vc_Md_put
  refine ⟨fun at_ gh go => ∃ k : Nat, at_ = k ∧ k ≤ n ∧ (∀ j, j < k → gh j = bh j ∧ go j = bo j) ∧ (∀ j, k < j → j ≤ n → gh j = bh (j - 1) ∧ go j = bo (j - 1)) ∧ (∀ j, k ≤ j → j < n → hour < bh j), fun at_ _ _ => at_.toNat, ⟨n, rfl, Nat.le_refl _, fun _ _ => ⟨rfl, rfl⟩, fun j q1 q2 => by omega, fun j q1 q2 => by omega⟩, ?_⟩
  rintro at_ gh go ⟨k, rfl, hk, g1, g2, g3⟩
  have fin : (∀ j, j < k → bh j ≤ hour) → insPost bh bo n hour ob (va_up gh ((k : Int)).toNat hour) (va_up go ((k : Int)).toNat ob) ((n : Int) + 1) := fun q => by
    rw [Int.toNat_natCast]
    exact ⟨rfl, k, hk, insAt_up (fun j hj => (g1 j hj).1) (fun j q1 q2 => (g2 j q1 q2).1), insAt_up (fun j hj => (g1 j hj).2) (fun j q1 q2 => (g2 j q1 q2).2), q, g3⟩
  refine ⟨⟨by omega, by omega⟩, fun q => ⟨⟨by omega, by omega⟩, ⟨by omega, by omega⟩, fin (fun j hj => by omega)⟩, fun q => ?_⟩
  have e1 : ((k : Int) - 1).toNat = k - 1 := by omega
  have gk := g1 (k - 1) (by omega)
  have hbk := hb (k - 1) (by omega)
  rw [e1, gk.1, gk.2]
  have le : bh (k - 1) ≤ hour → ∀ j, j < k → bh j ≤ hour := fun u j hj => by
    by_cases e : j = k - 1
    · rw [e]; exact u
    · have := hs j (k - 1) (by omega) (by omega); omega
  refine ⟨⟨by omega, by omega⟩, hbk.1, hh, fun q2 => ⟨⟨by omega, by omega⟩, ⟨by omega, by omega⟩, ⟨by omega, by omega⟩, ⟨by omega, by omega⟩, ⟨k - 1, by omega, by omega, fun j hj => ?_, fun j q3 q4 => ?_, fun j q3 q4 => ?_⟩, by dsimp only; omega⟩, fun q2 => ⟨⟨by omega, by omega⟩, fun q3 => ⟨⟨by omega, by omega⟩, ⟨by omega, by omega⟩, fin (le q2)⟩, fun q3 => ⟨⟨by omega, by omega⟩, hbk.2.1, ho, fun q4 => ⟨⟨by omega, by omega⟩, ⟨by omega, by omega⟩, fin (le q2)⟩, fun q4 => by omega⟩⟩⟩
  · rw [Int.toNat_natCast, up_ne (by omega), up_ne (by omega)]; exact g1 j (by omega)
  · rw [Int.toNat_natCast]
    by_cases e : j = k
    · subst e; rw [up_self, up_self]; exact ⟨rfl, rfl⟩
    · rw [up_ne e, up_ne e]; exact g2 j (by omega) q4
  · by_cases e : j = k - 1
    · rw [e]; exact q2
    · exact g3 j (by omega) q4
abbrev gotM (sa da la ra fa ta fo fh fs : Nat → Int) (NL FN : Nat) (ob a b : Nat) : Int := got (mdB da sa la NL ob) (shB (rowF fa ob) (rowF ta ob) (ra ob).toNat) fo fh fs FN ob a b
/-- the rows and classes of the objects of the Model -/
def mrOK (no : Int) (ca ra fa ta : Nat → Int) : Prop := 0 ≤ no ∧ no ≤ 12 ∧ ∀ o : Nat, (o : Int) < no → (0 ≤ ca o ∧ ca o < 6) ∧ (0 ≤ ra o ∧ ra o ≤ 16) ∧ ∀ k : Nat, (k : Int) < ra o → r32 (rowF fa o k) ∧ r32 (rowF ta o k)
/-- all that the Model's sums need -/
def mdAll (no : Int) (ca ba : Nat → Int) (nl : Int) (sa da la ra fa ta : Nat → Int) (nf : Int) (fo fh fs : Nat → Int) : Prop := mrOK no ca ra fa ta ∧ baOK ba ∧ nl = (nl.toNat : Int) ∧ nf = (nf.toNat : Int) ∧ mdOK da sa la nl.toNat ∧ flOK fo fh fs nf.toNat
theorem s_Md_partsA {ob a b : Nat} (ok : mdAll no ca ba nl sa da la ra fa ta nf fo fh fs) (ho : (ob : Int) < no) (hab : a ≤ b) (hb : b ≤ 26280) :
    vc_Md_parts th no ca ba nl xa sa da la ra fa ta ua uh uo ma mh ml nf fo fh fs rs ic mn bh bo ya np pa nc cp ob a b (fun z => z = gotM sa da la ra fa ta fo fh fs nl.toNat nf.toNat ob a b) := by
  obtain ⟨⟨h0, h1, h2⟩, _, h3, h4, h5, h6⟩ := ok
  obtain ⟨_, h7, h8⟩ := h2 ob ho
  exact s_Md_parts h5 h3 (by omega) (by omega) (by omega) (fun k hk => h8 k (by omega)) h6 h4 hab hb
theorem gotM_range {ob a b : Nat} (ok : mdAll no ca ba nl sa da la ra fa ta nf fo fh fs) (ho : (ob : Int) < no) (hab : a ≤ b) (hb : b ≤ 26280) : 0 ≤ gotM sa da la ra fa ta fo fh fs nl.toNat nf.toNat ob a b ∧ gotM sa da la ra fa ta fo fh fs nl.toNat nf.toNat ob a b ≤ 5000000000000000 := by
  obtain ⟨⟨h0, h1, h2⟩, _, h3, h4, h5, h6⟩ := ok
  exact got_range (fun h hh => mdB_range h5 (by omega) hh) h6 hab hb
abbrev hasM (ca ba : Nat → Int) (sa da la ra fa ta fo fh fs : Nat → Int) (NL FN : Nat) (o y : Nat) : Prop := bdP (ba (ca o).toNat) < gotM sa da la ra fa ta fo fh fs NL FN o (8760 * y) (8760 * y + 8760)
abbrev hrM (ca ba : Nat → Int) (sa da la ra fa ta fo fh fs : Nat → Int) (NL FN : Nat) (o y : Nat) (z : Int) : Prop := brIs (gotM sa da la ra fa ta fo fh fs NL FN o (8760 * y)) (bdP (ba (ca o).toNat)) y z
theorem hrM_range {NL FN o y : Nat} {z : Int} (hy : y < 3) (h : hrM ca ba sa da la ra fa ta fo fh fs NL FN o y z) : 0 ≤ z ∧ z < 26280 := by
  obtain ⟨a, rfl, a1, a2, _⟩ := h; omega
theorem s_Md_breached {ob y n : Nat} (ok : mdAll no ca ba nl sa da la ra fa ta nf fo fh fs) (ho : (ob : Int) < no) (hy : y < 3) (hb1 : ba (ca ob).toNat ≠ -1) (hh : hasM ca ba sa da la ra fa ta fo fh fs nl.toNat nf.toNat ob y)
    (hn : n < 36) (hmn : mn = n) (hs : nsrt bh n) (hb : ∀ i, i < n → r32 (bh i) ∧ r32 (bo i) ∧ bo i ≤ ob) :
    vc_Md_breached th no ca ba nl xa sa da la ra fa ta ua uh uo ma mh ml nf fo fh fs rs ic mn bh bo ya np pa nc cp ob y (fun h' o' n' => ∃ x, hrM ca ba sa da la ra fa ta fo fh fs nl.toNat nf.toNat ob y x ∧ insPost bh bo n x ob h' o' n') := by
  have ok2 := ok
  obtain ⟨⟨h0, h1, h2⟩, hba, h3, h4, h5, h6⟩ := ok2
  obtain ⟨h9, h7, h8⟩ := h2 ob ho
  have hbd : bdP (ba (ca ob).toNat) = 3600000 * ba (ca ob).toNat := by rw [bdP, if_neg hb1]
  have hbr := bdP_range (hba (ca ob).toNat (by omega))
  have gr : ∀ H, 8760 * y ≤ H → H ≤ 8760 * y + 8760 → 0 ≤ gotM sa da la ra fa ta fo fh fs nl.toNat nf.toNat ob (8760 * y) H ∧ gotM sa da la ra fa ta fo fh fs nl.toNat nf.toNat ob (8760 * y) H ≤ 5000000000000000 := fun H q1 q2 => gotM_range ok ho q1 (by omega)
  have gs : gotM sa da la ra fa ta fo fh fs nl.toNat nf.toNat ob (8760 * y) (8760 * y) = 0 := got_self
  have gn : ∀ H, 8760 * y ≤ H → gotM sa da la ra fa ta fo fh fs nl.toNat nf.toNat ob (8760 * y) (H + 1) = gotM sa da la ra fa ta fo fh fs nl.toNat nf.toNat ob (8760 * y) H + 1000 * flSum fo fh fs ob H ((H : Int) + 1) nf.toNat + Wt (mdB da sa la nl.toNat ob) (shB (rowF fa ob) (rowF ta ob) (ra ob).toNat) H := fun H q1 => by
    show rg _ _ _ + 1000 * flSum fo fh fs ob ((8760 * y : Nat) : Int) ((H + 1 : Nat) : Int) nf.toNat = rg _ _ _ + 1000 * flSum fo fh fs ob ((8760 * y : Nat) : Int) (H : Int) nf.toNat + 1000 * flSum fo fh fs ob H ((H : Int) + 1) nf.toNat + _
    rw [rg_next, flSum_split (a := ((8760 * y : Nat) : Int)) (b := (H : Int)) (c := ((H + 1 : Nat) : Int)) (by omega) (by omega)]
    rw [show ((H + 1 : Nat) : Int) = (H : Int) + 1 by omega]
    omega
  have hh2 : bdP (ba (ca ob).toNat) < gotM sa da la ra fa ta fo fh fs nl.toNat nf.toNat ob (8760 * y) (8760 * y + 8760) := hh
  clear hh
  show vc_Md_breached th no ca ba nl xa sa da la ra fa ta ua uh uo ma mh ml nf fo fh fs rs ic mn bh bo ya np pa nc cp ob y (fun h' o' n' => ∃ x, brIs (gotM sa da la ra fa ta fo fh fs nl.toNat nf.toNat ob (8760 * y)) (bdP (ba (ca ob).toNat)) y x ∧ insPost bh bo n x ob h' o' n')
  generalize gotM sa da la ra fa ta fo fh fs nl.toNat nf.toNat ob (8760 * y) = G at gr gs gn hh2 ⊢
  unfold vc_Md_breached
  have init : (8760 : Int) * y = ((8760 * y : Nat) : Int) := by omega
  rw [init]
  refine ⟨fun tot h => ∃ H : Nat, h = H ∧ 8760 * y ≤ H ∧ H ≤ 8760 * y + 8760 ∧ tot = G H ∧ G H ≤ bdP (ba (ca ob).toNat), fun _ h => (8760 * y + 8760) - h.toNat, ⟨8760 * y, rfl, by omega, by omega, by rw [gs], by rw [gs]; omega⟩, ?_⟩
  rintro tot h ⟨H, rfl, H1, H2, rfl, H3⟩
  refine ⟨⟨by omega, by omega⟩, ⟨by omega, by omega⟩, fun q => ?_, fun q => ?_⟩
  · have e : H = 8760 * y + 8760 := by omega
    rw [e] at H3
    omega
  · have gH := gr (H + 1) (by omega) (by omega)
    have gH2 := gn H (by omega)
    refine ⟨_, s_Md_flashed h6 h4 ⟨by omega, by omega⟩ ⟨by omega, by omega⟩ ⟨by omega, by omega⟩, fun z9 hz9 => ?_⟩
    rw [hz9]
    refine ⟨_, s_Md_isShown (N := (ra ob).toNat) (by omega) (by omega) (by omega) (fun k hk => h8 k (by omega)) (by omega), ?_⟩
    rintro z12 ⟨hz, hi⟩
    have put := s_Md_put (th := th) (no := no) (ca := ca) (ba := ba) (nl := nl) (xa := xa) (sa := sa) (da := da) (la := la) (ra := ra) (fa := fa) (ta := ta) (ua := ua) (uh := uh) (uo := uo) (ma := ma) (mh := mh) (ml := ml) (nf := nf) (fo := fo) (fh := fh) (fs := fs) (rs := rs) (ic := ic) (ya := ya) (np := np) (pa := pa) (nc := nc) (cp := cp) (hour := (H : Int)) (ob := (ob : Int)) hn hmn hs hb ⟨by omega, by omega⟩ ⟨by omega, by omega⟩
    have fin : bdP (ba (ca ob).toNat) < G (H + 1) → brIs G (bdP (ba (ca ob).toNat)) y (H : Int) := fun u => ⟨H, rfl, H1, by omega, H3, u⟩
    refine ⟨⟨by omega, by omega⟩, fun q2 => ?_, fun q2 => ?_⟩
    · rw [Wt, if_neg (fun u => by have := hi.mpr u; omega)] at gH2
      refine ⟨_, s_Md_bound (by omega) h9 hba, fun w hw => ?_⟩
      rw [hw, ← hbd]
      refine ⟨⟨by omega, by omega⟩, ⟨by omega, by omega⟩, fun q3 => ⟨⟨H + 1, by omega, by omega, by omega, by omega, by omega⟩, by dsimp only; omega⟩, fun q3 => ⟨_, put, fun a b c hp => ⟨H, fin (by omega), hp⟩⟩⟩
    · rw [Wt, if_pos (hi.mp (by omega))] at gH2
      refine ⟨_, s_Md_bright h5 h3 (by omega) (by omega), fun z28 hz28 => ?_⟩
      rw [hz28]
      refine ⟨_, s_Md_bound (by omega) h9 hba, fun w hw => ?_⟩
      rw [hw, ← hbd]
      refine ⟨⟨by omega, by omega⟩, ⟨by omega, by omega⟩, fun q3 => ⟨⟨H + 1, by omega, by omega, by omega, by omega, by omega⟩, by dsimp only; omega⟩, fun q3 => ⟨_, put, fun a b c hp => ⟨H, fin (by omega), hp⟩⟩⟩
theorem brRun_skip {has : Nat → Nat → Prop} {hr : Nat → Nat → Int → Prop} {O Y n : Nat} {h o : Nat → Int} (hn : ∀ y, y < 3 → ¬ has O y) (hY : Y ≤ 3) (a : brRun has hr (3 * O + Y) h o n) : brRun has hr (3 * (O + 1)) h o n := by
  rw [show 3 * (O + 1) = 3 * O + 3 by omega]
  have : Y = 0 ∨ Y = 1 ∨ Y = 2 ∨ Y = 3 := by omega
  rcases this with rfl | rfl | rfl | rfl
  · exact brRun_no (by omega) (hn 2 (by omega)) (brRun_no (by omega) (hn 1 (by omega)) (brRun_no (by omega) (hn 0 (by omega)) a))
  · exact brRun_no (by omega) (hn 2 (by omega)) (brRun_no (by omega) (hn 1 (by omega)) a)
  · exact brRun_no (by omega) (hn 2 (by omega)) a
  · exact a
theorem big_helper {a c : Int} (h1 : a = 1000000000000000000) (h2 : c ≤ 5000000000000000) (h3 : a < c) : False := by omega
theorem cmp_helper {a b c : Int} (h1 : a = b) (h2 : 0 ≤ c) (h3 : c ≤ 5000000000000000) (h4 : 0 ≤ a) (h5 : a ≤ 1000000000000000000) {z : Int} (hz : z = c) {w : Int} (hw : w = b) : r64 z ∧ r64 w ∧ (w < z ↔ a < c) := by
  exact ⟨⟨by omega, by omega⟩, ⟨by omega, by omega⟩, by omega⟩
theorem s_Md_countAll (ok : mdAll no ca ba nl sa da la ra fa ta nf fo fh fs) (hic : ic = 0 ∨ ic = 1) (hbr : ic = 1 → ∃ n : Nat, mn = n ∧ brRun (hasM ca ba sa da la ra fa ta fo fh fs nl.toNat nf.toNat) (hrM ca ba sa da la ra fa ta fo fh fs nl.toNat nf.toNat) (3 * no.toNat) bh bo n) :
    vc_Md_countAll th no ca ba nl xa sa da la ra fa ta ua uh uo ma mh ml nf fo fh fs rs ic mn bh bo ya np pa nc cp (fun h o m r => r = 1 ∧ ∃ n : Nat, m = n ∧ brRun (hasM ca ba sa da la ra fa ta fo fh fs nl.toNat nf.toNat) (hrM ca ba sa da la ra fa ta fo fh fs nl.toNat nf.toNat) (3 * no.toNat) h o n) := by
  have hh : ∀ o y z, y < 3 → hrM ca ba sa da la ra fa ta fo fh fs nl.toNat nf.toNat o y z → 0 ≤ z ∧ z < 26280 := fun o y z hy h => hrM_range hy h
  have ok2 := ok
  obtain ⟨⟨h0, h1, h2⟩, hba, h3, h4, h5, h6⟩ := ok2
  have none : ∀ O : Nat, (O : Int) < no → ba (ca O).toNat = -1 → ∀ y, y < 3 → ¬ hasM ca ba sa da la ra fa ta fo fh fs nl.toNat nf.toNat O y := fun O hO hb y hy hc => by
    have g := gotM_range (a := 8760 * y) (b := 8760 * y + 8760) ok hO (by omega) (by omega)
    have hb2 : bdP (ba (ca O).toNat) = 1000000000000000000 := by rw [bdP, if_pos hb]
    exact big_helper hb2 g.2 hc
  have key : ∀ (O y : Nat) (jh jo : Nat → Int) (jn : Int), (O : Int) < no → y < 3 → ba (ca O).toNat ≠ -1 → vc_Md_parts th no ca ba nl xa sa da la ra fa ta ua uh uo ma mh ml nf fo fh fs rs ic jn jh jo ya np pa nc cp O (8760 * (y : Int)) (8760 * (y : Int) + 8760) (fun z => ∀ w, w = 3600000 * ba (ca O).toNat → r64 z ∧ r64 w ∧ (w < z ↔ hasM ca ba sa da la ra fa ta fo fh fs nl.toNat nf.toNat O y)) := fun O y jh jo jn hO hy hb => by
    have g := gotM_range (a := 8760 * y) (b := 8760 * y + 8760) ok hO (by omega) (by omega)
    have h9 := (h2 O hO).1
    have g2 := bdP_range (hba (ca O).toNat (by omega))
    have hb2 : bdP (ba (ca O).toNat) = 3600000 * ba (ca O).toNat := by rw [bdP, if_neg hb]
    have pp := s_Md_partsA (th := th) (xa := xa) (ua := ua) (uh := uh) (uo := uo) (ma := ma) (mh := mh) (ml := ml) (rs := rs) (ic := ic) (mn := jn) (bh := jh) (bo := jo) (ya := ya) (np := np) (pa := pa) (nc := nc) (cp := cp) (a := 8760 * y) (b := 8760 * y + 8760) ok hO (by omega) (by omega)
    rw [show (8760 : Int) * y = ((8760 * y : Nat) : Int) by omega, show ((8760 * y : Nat) : Int) + 8760 = ((8760 * y + 8760 : Nat) : Int) by omega]
    unfold vc_Md_parts at pp ⊢
    obtain ⟨P1, p1, p2⟩ := pp
    refine ⟨P1, p1, fun z2 hz2 => ?_⟩
    obtain ⟨I, μ, i1, i2⟩ := p2 z2 hz2
    refine ⟨I, μ, i1, fun tot hh' hI => ?_⟩
    obtain ⟨r1, r2, r3, r4⟩ := i2 tot hh' hI
    exact ⟨r1, r2, fun q w hw => cmp_helper hb2 g.1 g.2 g2.1 g2.2 (r3 q) hw, r4⟩
  have brc : ∀ (O y n : Nat) (jh jo : Nat → Int), (O : Int) < no → y < 3 → ba (ca O).toNat ≠ -1 → hasM ca ba sa da la ra fa ta fo fh fs nl.toNat nf.toNat O y → n < 36 → nsrt jh n → (∀ i, i < n → r32 (jh i) ∧ r32 (jo i) ∧ jo i ≤ O) → vc_Md_breached th no ca ba nl xa sa da la ra fa ta ua uh uo ma mh ml nf fo fh fs rs ic n jh jo ya np pa nc cp O y (fun h' o' n' => ∃ x, hrM ca ba sa da la ra fa ta fo fh fs nl.toNat nf.toNat O y x ∧ insPost jh jo n x O h' o' n') := fun O y n jh jo hO hy hb hc hn hs hbb => s_Md_breached ok hO hy hb hc hn rfl hs hbb
  generalize hasM ca ba sa da la ra fa ta fo fh fs nl.toNat nf.toNat = has at *
  generalize hrM ca ba sa da la ra fa ta fo fh fs nl.toNat nf.toNat = hrr at *
  unfold vc_Md_countAll
  refine ⟨by rcases hic with rfl | rfl <;> decide, fun q => ?_, fun q => ⟨hic.resolve_left q, hbr (hic.resolve_left q)⟩⟩
  clear hbr
  refine ⟨fun o h g m => ∃ O n : Nat, o = O ∧ (O : Int) ≤ no ∧ m = n ∧ brRun has hrr (3 * O) h g n, fun o _ _ _ => (no - o).toNat, ⟨0, 0, rfl, by omega, rfl, rfl⟩, ?_⟩
  rintro o gh go gn ⟨O, n, rfl, hO, rfl, hrun⟩
  refine ⟨⟨by omega, by omega⟩, ⟨by omega, by omega⟩, fun q2 => ⟨rfl, n, rfl, by rw [show no.toNat = O by omega]; exact hrun⟩, fun q2 => ?_⟩
  refine ⟨fun y h g m => ∃ Y n : Nat, y = Y ∧ Y ≤ 3 ∧ m = n ∧ brRun has hrr (3 * O + Y) h g n, fun y _ _ _ => (3 - y).toNat, ⟨0, n, rfl, by omega, rfl, hrun⟩, ?_⟩
  rintro y jh jo jn ⟨Y, n2, rfl, hY, rfl, hrun2⟩
  have hO2 := h2 O (by omega)
  have hbO := hba (ca O).toNat (by omega)
  rw [Int.toNat_natCast]
  refine ⟨⟨by omega, by omega⟩, fun q3 => ⟨⟨O + 1, n2, by omega, by omega, rfl, ?_⟩, by dsimp only; omega⟩, fun q3 => ⟨⟨by omega, by omega⟩, hO2.1, ⟨by omega, by omega⟩, fun q4 => ⟨⟨O + 1, n2, by omega, by omega, rfl, brRun_skip (none O (by omega) q4) hY hrun2⟩, by dsimp only; omega⟩, fun q4 => ?_⟩⟩
  · rw [show 3 * (O + 1) = 3 * O + Y by omega]; exact hrun2
  · refine ⟨_, key O Y jh jo n2 (by omega) (by omega) q4, fun z hz => ?_⟩
    refine ⟨_, s_Md_bound (by omega) hO2.1 hba, fun w hw => ?_⟩
    obtain ⟨z1, z2, z3⟩ := hz w hw
    refine ⟨z1, z2, fun q5 => ⟨⟨Y + 1, n2, by omega, by omega, rfl, brRun_no (by omega) (fun q6 => by have := z3.mpr q6; omega) hrun2⟩, by dsimp only; omega⟩, fun q5 => ?_⟩
    have hb := z3.mp q5
    obtain ⟨f1, f2, f3⟩ := brRun_facts hh hrun2
    refine ⟨_, brc O Y n2 jh jo (by omega) (by omega) q4 hb (by omega) f2 (fun i hi => by have := f3 i hi; exact ⟨⟨by omega, by omega⟩, ⟨by omega, by omega⟩, by omega⟩), ?_⟩
    rintro h' o' n' ⟨x, hx, hi⟩
    obtain ⟨e1, e2⟩ := brRun_yes (by omega) hb hrun2 hx hi
    exact ⟨⟨Y + 1, n2 + 1, by omega, by omega, e1, e2⟩, by dsimp only; omega⟩
end MDS
