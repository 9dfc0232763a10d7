/-! SPEC of LightDoses: sums over rows. -/
/-- an object's parts of the class that sums need -/
def rwOK (dl ds es : Nat → Int) (nl : Nat) (LC : Nat → LpC) : Prop := dyOK dl ds ∧ nl ≤ 8 ∧ (∀ l, l < nl → 0 ≤ es l ∧ es l ≤ 1000) ∧ ∀ l, l < nl → lpCOK (LC l)
abbrev exB (dl es : Nat → Int) (nl : Nat) (LC : Nat → LpC) : Nat → Int := Brt dl es (fun l => lxC (LC l)) nl
theorem exB_range {dl ds es : Nat → Int} {nl : Nat} {LC : Nat → LpC} {h : Nat} (ok : rwOK dl ds es nl LC) : 0 ≤ exB dl es nl LC h ∧ exB dl es nl LC h ≤ 162000000000 :=
  Brt_range ok.1.1 ok.2.2.1 (fun l hl => lxC_range (ok.2.2.2 l hl)) ok.2.1
section LDS
variable {fr po : Int} {xc : Nat} {xf : Nat → Option Nat} {kd : Int} {es ef et : Nat → Int} {en : Int} {no : Nat} {xm : Int} {nl : Nat} {ym : Int} {ba dl ds fo fh fs : Nat → Int} {fn : Int} {yc : Nat} {yf : Nat → Option Nat} {LA : Nat → LpA} {LC : Nat → LpC} {ob : Nat}
theorem s_LD_partsIfShown {a b : Nat} (ok : rwOK dl ds es nl LC) (hab : a ≤ b) (hb : b ≤ 26280) : vc_LD_partsIfShown fr po xc xf kd es ef et en no xm nl ym ba dl ds fo fh fs fn yc yf LA LC ob a b (fun z => z = rg (exB dl es nl LC) a b) := by
  obtain ⟨hd, hn, hS, hL⟩ := ok
  unfold vc_LD_partsIfShown
  refine ⟨_, s_Dy_luxHoursBefore hd hb, ?_⟩
  rintro _ rfl
  refine ⟨_, s_Dy_luxHoursBefore hd (by omega), ?_⟩
  rintro _ rfl
  refine ⟨fun tot j => ∃ k : Nat, j = k ∧ k ≤ nl ∧ tot = 3600000 * (sg (fun t => dl (t % 24)) b - sg (fun t => dl (t % 24)) a) + sg (fun l => 3600 * es l * (sg (lxC (LC l)) b - sg (lxC (LC l)) a)) k, fun _ j => (nl - j.toNat), ⟨0, rfl, by omega, by simp [sg]⟩, ?_⟩
  rintro tot j ⟨k, rfl, hk, rfl⟩
  refine ⟨⟨by omega, by omega⟩, ⟨by omega, by omega⟩, fun q => ?_, fun q => ?_⟩
  · have e : k = nl := by omega
    subst e
    unfold rg
    rw [sg_Brt, sg_Brt]
    have : sg (fun l => 3600 * es l * (sg (lxC (LC l)) b - sg (lxC (LC l)) a)) k = sg (fun l => 3600 * es l * sg (lxC (LC l)) b) k - sg (fun l => 3600 * es l * sg (lxC (LC l)) a) k := by
      have h := sg_add (fun l => 3600 * es l * (sg (lxC (LC l)) b - sg (lxC (LC l)) a)) (fun l => 3600 * es l * sg (lxC (LC l)) a) k
      rw [sg_congr (g := fun l => 3600 * es l * sg (lxC (LC l)) b) (fun l _ => by rw [← Int.mul_add, Int.sub_add_cancel])] at h
      omega
    rw [this]
    omega
  · rw [Int.toNat_natCast]
    have hkl : k < nl := by omega
    have hs := hS k hkl
    have hl := hL k hkl
    refine ⟨⟨by omega, by omega⟩, ⟨by omega, by omega⟩, fun q2 => ⟨⟨k + 1, by omega, by omega, ?_⟩, by dsimp only; omega⟩, fun q2 => ⟨⟨by omega, by omega⟩, ?_⟩⟩
    · rw [sg_succ, show es k = 0 by omega]; simp
    · obtain ⟨e1, e2, e3⟩ := hl
      refine ⟨_, s_Lp_luxHoursBefore e3.2.2.2 hb, ?_⟩
      rintro _ rfl
      refine ⟨_, s_Lp_luxHoursBefore e3.2.2.2 (by omega), ?_⟩
      rintro _ rfl
      refine ⟨⟨k + 1, by omega, by omega, ?_⟩, by dsimp only; omega⟩
      rw [sg_succ]
      show _ + 3600 * es k * (sg (lxC (LC k)) b - sg (lxC (LC k)) a) = _
      omega
/-- rows by their starts -/
def rowOK (ef et : Nat → Int) (N : Nat) : Prop := N ≤ 16 ∧ nsrt ef N ∧ ∀ i, i < N → 0 ≤ ef i ∧ ef i < et i ∧ et i ≤ 26280
theorem s_LD_partsWhileShown {a b N : Nat} (ok : rwOK dl ds es nl LC) (hr : rowOK ef et N) (hen : en = N) (hab : a ≤ b) (hb : b ≤ 26280) : vc_LD_partsWhileShown fr po xc xf kd es ef et en no xm nl ym ba dl ds fo fh fs fn yc yf LA LC ob a b (fun z => z = rg (Wt (exB dl es nl LC) (shB ef et N)) a b) := by
  subst hen
  obtain ⟨hN, hs, hr⟩ := hr
  unfold vc_LD_partsWhileShown
  refine ⟨fun tot cnt j => ∃ c k : Nat, cnt = c ∧ j = k ∧ k ≤ N ∧ a ≤ c ∧ c ≤ b ∧ tot = rg (Wt (exB dl es nl LC) (shB ef et k)) a b ∧ (∀ h, a ≤ h → h < b → shB ef et k h = true → h < c) ∧ (c = a ∨ ∃ i, i < k ∧ (c : Int) ≤ et i), fun _ _ j => (16 - j.toNat), ⟨a, 0, rfl, rfl, by omega, by omega, hab, ?_, fun h _ _ q => by simp [shB] at q, Or.inl rfl⟩, ?_⟩
  · rw [rg_zero hab (fun h _ _ => by simp [Wt, shB])]
  rintro tot cnt j ⟨c, k, rfl, rfl, hk, hac, hcb, rfl, h1, h2⟩
  refine ⟨⟨by omega, by omega⟩, ⟨by omega, by omega⟩, fun q => by rw [show N = k by omega], fun q => ?_⟩
  rw [Int.toNat_natCast]
  have hrk := hr k (by omega)
  refine ⟨⟨by omega, by omega⟩, ⟨by omega, by omega⟩, ⟨by omega, by omega⟩, ⟨by omega, by omega⟩, ⟨by omega, by omega⟩, ⟨by omega, by omega⟩, ⟨by omega, by omega⟩, ⟨by omega, by omega⟩, ?_⟩
  -- hours of this row before c are counted
  have old : ∀ h, a ≤ h → h < c → ef k ≤ (h : Int) → shB ef et k h = true := fun h q1 q2 q3 => by
    rcases h2 with e | ⟨i, i1, i2⟩
    · omega
    · have := hs i k i1 (by omega)
      exact shB_iff.mpr ⟨i, i1, by omega, by omega⟩
  obtain ⟨F, hF⟩ : ∃ F : Nat, ef k = F := ⟨(ef k).toNat, by omega⟩
  obtain ⟨T, hT⟩ : ∃ T : Nat, et k = T := ⟨(et k).toNat, by omega⟩
  have step : ∀ h, shB ef et (k + 1) h = (shB ef et k h || (decide (F ≤ h) && decide (h < T))) := fun h => by
    rw [shB, hF, hT]
    congr 1
    congr 1
    · exact decide_eq_decide.mpr (by omega)
    · exact decide_eq_decide.mpr (by omega)
  rw [hF, hT]
  rw [show max (c : Int) F = ((max c F : Nat) : Int) by omega, show min (b : Int) T = ((min b T : Nat) : Int) by omega]
  constructor
  · intro q2
    refine ⟨⟨c, k + 1, rfl, by omega, by omega, hac, hcb, ?_, fun h q3 q4 q5 => ?_, ?_⟩, by dsimp only; omega⟩
    · refine rg_congr hab (fun h q3 q4 => ?_)
      unfold Wt
      rw [step]
      by_cases e : shB ef et k h = true
      · rw [if_pos e, if_pos (by simp [e])]
      · rw [if_neg e]
        rw [if_neg]
        intro u
        simp only [Bool.or_eq_true, Bool.and_eq_true, decide_eq_true_iff] at u
        rcases u with u | ⟨u1, u2⟩
        · exact e u
        rcases Nat.lt_or_ge h c with u | u
        · exact e (old h q3 u (by omega))
        · omega
    · rw [step] at q5
      simp only [Bool.or_eq_true, Bool.and_eq_true, decide_eq_true_iff] at q5
      rcases q5 with q5 | q5
      · exact h1 h q3 q4 q5
      · omega
    · rcases h2 with e | ⟨i, i1, i2⟩
      · exact Or.inl e
      · exact Or.inr ⟨i, by omega, i2⟩
  · intro q2
    refine ⟨_, s_LD_partsIfShown ok (by omega) (by omega), ?_⟩
    rintro _ rfl
    refine ⟨⟨min b T, k + 1, rfl, by omega, by omega, by omega, by omega, ?_, fun h q3 q4 q5 => ?_, Or.inr ⟨k, by omega, by omega⟩⟩, by dsimp only; omega⟩
    · rw [← rg_piece (B := exB dl es nl LC) (a := a) (b := b) (s := max c F) (e := min b T) (by omega) (by omega) (by omega), ← rg_add]
      refine rg_congr hab (fun h q3 q4 => ?_)
      unfold Wt
      rw [step]
      by_cases e : shB ef et k h = true
      · have := h1 h q3 q4 e
        have e1 : (shB ef et k h || (decide (F ≤ h) && decide (h < T))) = true := by rw [e]; rfl
        have e3 : ¬ (max c F ≤ h ∧ h < min b T) := by omega
        rw [if_pos e, if_pos e1, if_neg e3]; omega
      · rw [if_neg e]
        by_cases u : max c F ≤ h ∧ h < min b T
        · rw [if_pos u, if_pos]
          · omega
          · simp only [Bool.or_eq_true, Bool.and_eq_true, decide_eq_true_iff]
            exact Or.inr ⟨by omega, by omega⟩
        · rw [if_neg u, if_neg]
          · rfl
          · intro w
            simp only [Bool.or_eq_true, Bool.and_eq_true, decide_eq_true_iff] at w
            rcases w with w | ⟨u1, u2⟩
            · exact e w
            rcases Nat.lt_or_ge h c with v | v
            · exact e (old h q3 v (by omega))
            · omega
    · rw [step] at q5
      simp only [Bool.or_eq_true, Bool.and_eq_true, decide_eq_true_iff] at q5
      rcases q5 with q5 | q5
      · have := h1 h q3 q4 q5; omega
      · omega
/-- all that an object got -/
def got (B : Nat → Int) (sh : Nat → Bool) (fo fh fs : Nat → Int) (FN : Nat) (ob : Int) (a b : Nat) : Int := rg (Wt B sh) a b + 1000 * flSum fo fh fs ob a b FN
theorem s_exOf (h : ob < no) (hn : no ≤ 12) : vc_LD_exhibitOf fr po no xm xc xf kd es ef et en ob := by
  unfold vc_LD_exhibitOf
  exact ⟨⟨by omega, by omega⟩, ⟨by omega, by omega⟩, ⟨by omega, by omega⟩, trivial⟩
theorem s_LD_partsOf {a b N FN : Nat} (ok : rwOK dl ds es nl LC) (hr : rowOK ef et N) (hen : en = N) (hf : flOK fo fh fs FN) (hfn : fn = FN) (ho : ob < no) (hno : no ≤ 12) (hab : a ≤ b) (hb : b ≤ 26280) : vc_LD_partsOf fr po xc xf kd es ef et en no xm nl ym ba dl ds fo fh fs fn yc yf LA LC ob a b (fun z => z = got (exB dl es nl LC) (shB ef et N) fo fh fs FN ob a b) := by
  unfold vc_LD_partsOf
  refine ⟨s_exOf ho hno, _, s_LD_partsWhileShown ok hr hen hab hb, ?_⟩
  rintro _ rfl
  subst hfn
  refine ⟨_, s_Fl_luxSeconds hf ⟨by omega, by omega⟩ ⟨by omega, by omega⟩ ⟨by omega, by omega⟩, ?_⟩
  rintro _ rfl
  rfl
theorem flSum_range {fo fh fs : Nat → Int} {ob a b : Int} {N : Nat} (h : flOK fo fh fs N) : 0 ≤ flSum fo fh fs ob a b N ∧ flSum fo fh fs ob a b N ≤ 40000000000 := by
  obtain ⟨hN, h⟩ := h
  have m : ∀ i, i < N → 0 ≤ (if fo i = ob ∧ a ≤ fh i ∧ fh i < b then fs i else 0) ∧ (if fo i = ob ∧ a ≤ fh i ∧ fh i < b then fs i else 0) ≤ 1000000000 := fun i hi => by
    have := h i hi; split <;> omega
  have h1 : 0 ≤ flSum fo fh fs ob a b N := sg_nonneg (fun i hi => (m i hi).1)
  have h2 : flSum fo fh fs ob a b N ≤ (N : Int) * 1000000000 := sg_le (fun i hi => (m i hi).2)
  omega
theorem got_range {B : Nat → Int} {sh : Nat → Bool} {FN a b : Nat} {o : Int} (hB : ∀ h, h < 26280 → 0 ≤ B h ∧ B h ≤ 162000000000) (hf : flOK fo fh fs FN) (hab : a ≤ b) (hb : b ≤ 26280) : 0 ≤ got B sh fo fh fs FN o a b ∧ got B sh fo fh fs FN o a b ≤ 5000000000000000 := by
  have h1 := flSum_range (ob := o) (a := a) (b := b) hf
  have h2 : 0 ≤ rg (Wt B sh) a b := rg_nonneg hab (fun h _ q => Wt_nonneg (hB h (by omega)).1)
  have h3 : rg (Wt B sh) a b ≤ ((b - a : Nat) : Int) * 162000000000 := rg_le hab (fun h _ q => by
    have h4 := hB h (by omega)
    have := Wt_le (sh := sh) h4.1
    omega)
  unfold got
  omega
/-- what is allowed, in parts -/
def bdP (b : Int) : Int := if b = -1 then 1000000000000000000 else 3600000 * b
theorem bdP_range {b : Int} (h : -1 ≤ b ∧ b ≤ 1000000000) : 0 ≤ bdP b ∧ bdP b ≤ 1000000000000000000 := by unfold bdP; split <;> omega
def baOK (ba : Nat → Int) : Prop := ∀ i, i < 6 → -1 ≤ ba i ∧ ba i ≤ 1000000000
theorem s_LD_partsAllowed (ho : ob < no) (hno : no ≤ 12) (hk : 0 ≤ kd ∧ kd < 6) (hba : baOK ba) : vc_LD_partsAllowed fr po xc xf kd es ef et en no xm nl ym ba dl ds fo fh fs fn yc yf LA LC ob (fun z => z = bdP (ba kd.toNat)) := by
  have := hba kd.toNat (by omega)
  unfold vc_LD_partsAllowed
  exact ⟨s_exOf ho hno, hk, ⟨by omega, by omega⟩, fun q => by rw [bdP, if_neg q], fun q => by rw [bdP, if_pos q]⟩
theorem s_LD_partsLeft {y N FN : Nat} (ok : rwOK dl ds es nl LC) (hr : rowOK ef et N) (hen : en = N) (hf : flOK fo fh fs FN) (hfn : fn = FN) (ho : ob < no) (hno : no ≤ 12) (hk : 0 ≤ kd ∧ kd < 6) (hba : baOK ba) (hy : y < 3) : vc_LD_partsLeft fr po xc xf kd es ef et en no xm nl ym ba dl ds fo fh fs fn yc yf LA LC ob y (fun z => z = bdP (ba kd.toNat) - got (exB dl es nl LC) (shB ef et N) fo fh fs FN ob (8760 * y) (8760 * y + 8760)) := by
  unfold vc_LD_partsLeft
  refine ⟨_, s_LD_partsAllowed ho hno hk hba, ?_⟩
  rintro _ rfl
  rw [show (y : Int) * 8760 = ((8760 * y : Nat) : Int) by omega, show ((8760 * y : Nat) : Int) + 8760 = ((8760 * y + 8760 : Nat) : Int) by omega]
  refine ⟨_, s_LD_partsOf (a := 8760 * y) (b := 8760 * y + 8760) ok hr hen hf hfn ho hno (by omega) (by omega), fun z hz => ?_⟩
  rw [hz]
/-- a search by halving steps: what holds at fit, fails from fit + w on -/
theorem halve {w : Nat} (hw : w = 1 ∨ w = 2 ∨ w = 4 ∨ w = 8 ∨ w = 16 ∨ w = 32 ∨ w = 64 ∨ w = 128 ∨ w = 256 ∨ w = 512 ∨ w = 1024 ∨ w = 2048 ∨ w = 4096 ∨ w = 8192 ∨ w = 16384) : w = 1 ∨ ∃ v : Nat, w = 2 * v ∧ 0 < v ∧ v ≤ 8192 ∧ (v = 1 ∨ v = 2 ∨ v = 4 ∨ v = 8 ∨ v = 16 ∨ v = 32 ∨ v = 64 ∨ v = 128 ∨ v = 256 ∨ v = 512 ∨ v = 1024 ∨ v = 2048 ∨ v = 4096 ∨ v = 8192 ∨ v = 16384) := by
  rcases hw with h | h
  · exact Or.inl h
  · exact Or.inr ⟨w / 2, by omega, by omega, by omega, by omega⟩
/-- what is not shown -/
abbrev Un (B : Nat → Int) (sh : Nat → Bool) (h : Nat) : Int := B h - Wt B sh h
theorem rg_Un {B : Nat → Int} {sh : Nat → Bool} {a b : Nat} : rg (Un B sh) a b = rg B a b - rg (Wt B sh) a b := by
  have := rg_add (f := Un B sh) (g := Wt B sh) (a := a) (b := b)
  have e : (fun h => Un B sh h + Wt B sh h) = B := funext (fun h => by unfold Un; omega)
  rw [e] at this
  omega
theorem Un_mono {B : Nat → Int} {sh : Nat → Bool} {a b c : Nat} (hB : ∀ h, h < 26280 → 0 ≤ B h) (hbc : b ≤ c) (hc : c ≤ 26280) : rg (Un B sh) a b ≤ rg (Un B sh) a c := by
  have := rg_nonneg (f := Un B sh) hbc (fun h _ q => by have := Wt_le (sh := sh) (hB h (by omega)); unfold Un; omega)
  rw [rg_split (a := a) (b := b) (c := c)]
  omega
/-- how many hours fit: F of them do, one more does not -/
def fitIs (B : Nat → Int) (sh : Nat → Bool) (left : Int) (a e : Nat) (z : Int) : Prop := ∃ F : Nat, z = F ∧ a + F ≤ e ∧ (left < 0 → F = 0) ∧ (0 ≤ left → rg (Un B sh) a (a + F) ≤ left ∧ (a + F < e → left < rg (Un B sh) a (a + F + 1)))
theorem s_LD_hoursThatFit {a e N FN : Nat} (ok : rwOK dl ds es nl LC) (hr : rowOK ef et N) (hen : en = N) (hf : flOK fo fh fs FN) (hfn : fn = FN) (ho : ob < no) (hno : no ≤ 12) (hk : 0 ≤ kd ∧ kd < 6) (hba : baOK ba) (hae : a < e) (he : e ≤ 26280) (hlen : e ≤ a + 8760) :
    vc_LD_hoursThatFit fr po xc xf kd es ef et en no xm nl ym ba dl ds fo fh fs fn yc yf LA LC ob a e (fitIs (exB dl es nl LC) (shB ef et N) (bdP (ba kd.toNat) - got (exB dl es nl LC) (shB ef et N) fo fh fs FN ob (8760 * (a / 8760)) (8760 * (a / 8760) + 8760)) a e) := by
  have hB : ∀ h, h < 26280 → 0 ≤ exB dl es nl LC h ∧ exB dl es nl LC h ≤ 162000000000 := fun h _ => exB_range ok
  unfold vc_LD_hoursThatFit
  rw [show (a : Int) / 8760 = ((a / 8760 : Nat) : Int) by omega]
  refine ⟨⟨by omega, by omega⟩, by omega, _, s_LD_partsLeft ok hr hen hf hfn ho hno hk hba (by omega), ?_⟩
  rintro _ rfl
  have g1 := got_range (sh := shB ef et N) (o := (ob : Int)) (a := 8760 * (a / 8760)) (b := 8760 * (a / 8760) + 8760) hB hf (by omega) (by omega)
  have g2 := bdP_range (hba kd.toNat (by omega))
  have hleft : -5000000000000000 ≤ bdP (ba kd.toNat) - got (exB dl es nl LC) (shB ef et N) fo fh fs FN ob (8760 * (a / 8760)) (8760 * (a / 8760) + 8760) ∧ bdP (ba kd.toNat) - got (exB dl es nl LC) (shB ef et N) fo fh fs FN ob (8760 * (a / 8760)) (8760 * (a / 8760) + 8760) ≤ 1000000000000000000 := by omega
  generalize bdP (ba kd.toNat) - got (exB dl es nl LC) (shB ef et N) fo fh fs FN ob (8760 * (a / 8760)) (8760 * (a / 8760) + 8760) = left at hleft ⊢
  clear g1 g2
  refine ⟨⟨by omega, by omega⟩, fun q => ⟨s_exOf ho hno, ?_⟩, fun q => ⟨0, rfl, by omega, fun _ => rfl, fun q2 => by omega⟩⟩
  refine ⟨fun fit stp => ∃ F w : Nat, fit = F ∧ stp = (w / 2 : Nat) ∧ (w = 1 ∨ w = 2 ∨ w = 4 ∨ w = 8 ∨ w = 16 ∨ w = 32 ∨ w = 64 ∨ w = 128 ∨ w = 256 ∨ w = 512 ∨ w = 1024 ∨ w = 2048 ∨ w = 4096 ∨ w = 8192 ∨ w = 16384) ∧ a + F ≤ e ∧ rg (Un (exB dl es nl LC) (shB ef et N)) a (a + F) ≤ left ∧ ∀ m, F + w ≤ m → a + m ≤ e → left < rg (Un (exB dl es nl LC) (shB ef et N)) a (a + m), fun _ st => st.toNat, ⟨0, 16384, rfl, rfl, by omega, by omega, by rw [show a + 0 = a from rfl, rg_self]; exact q, fun m h1 h2 => by omega⟩, ?_⟩
  rintro fit stp ⟨F, w, rfl, rfl, hw, hF, h1, h2⟩
  rcases halve hw with rfl | ⟨v, rfl, hv0, hv1, hv⟩
  · exact ⟨by decide, fun _ => ⟨F, rfl, hF, fun q2 => by omega, fun _ => ⟨h1, fun q2 => h2 (F + 1) (by omega) (by omega)⟩⟩, fun q2 => absurd q2 (by decide)⟩
  · have e2 : 2 * v / 2 = v := by omega
    rw [e2]
    refine ⟨⟨by omega, by omega⟩, fun q2 => absurd q2 (by omega), fun _ => ⟨⟨by omega, by omega⟩, ⟨by omega, by omega⟩, fun q2 => ⟨by omega, ⟨F, v, rfl, by omega, hv, hF, h1, fun m m1 m2 => by omega⟩, by dsimp only; omega⟩, fun q2 => ?_⟩⟩
    rw [show (a : Int) + F + v = ((a + (F + v) : Nat) : Int) by omega] at q2 ⊢
    refine ⟨_, s_LD_partsIfShown ok (by omega) (by omega), ?_⟩
    rintro _ rfl
    refine ⟨_, s_LD_partsWhileShown ok hr hen (by omega) (by omega), ?_⟩
    rintro _ rfl
    rw [← rg_Un]
    have b1 := Un_mono (sh := shB ef et N) (a := a) (b := a) (c := a + (F + v)) (fun h q => (hB h q).1) (by omega) (by omega)
    rw [rg_self] at b1
    have b2 : rg (Un (exB dl es nl LC) (shB ef et N)) a (a + (F + v)) ≤ ((a + (F + v) - a : Nat) : Int) * 162000000000 := rg_le (by omega) (fun h _ q => by
      have h4 := hB h (by omega)
      have := Wt_nonneg (sh := shB ef et N) h4.1
      unfold Un; omega)
    refine ⟨⟨by omega, by omega⟩, fun q3 => ⟨by omega, ⟨F, v, rfl, by omega, hv, hF, h1, fun m m1 m2 => ?_⟩, by dsimp only; omega⟩, fun q3 => ⟨by omega, ⟨F + v, v, by omega, by omega, hv, by omega, q3, fun m m1 m2 => h2 m (by omega) m2⟩, by dsimp only; omega⟩⟩
    have := Un_mono (sh := shB ef et N) (a := a) (b := a + (F + v)) (c := a + m) (fun h q => (hB h q).1) (by omega) (by omega)
    omega
end LDS
