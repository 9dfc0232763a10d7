/-! SPEC of LightDoses: searches, plans, breaches. -/
theorem flSum_mono {fo fh fs : Nat → Int} {ob a b b' : Int} {N : Nat} (h : flOK fo fh fs N) (hb : b ≤ b') : flSum fo fh fs ob a b N ≤ flSum fo fh fs ob a b' N := by
  have : ∀ n, n ≤ N → flSum fo fh fs ob a b n ≤ flSum fo fh fs ob a b' n := fun n => by
    induction n with
    | zero => exact fun _ => Int.le_refl _
    | succ n ih =>
      intro hn
      have h1 := ih (by omega)
      have h2 := h.2 n (by omega)
      show flSum fo fh fs ob a b n + (if fo n = ob ∧ a ≤ fh n ∧ fh n < b then fs n else 0) ≤ flSum fo fh fs ob a b' n + (if fo n = ob ∧ a ≤ fh n ∧ fh n < b' then fs n else 0)
      by_cases c : fo n = ob ∧ a ≤ fh n ∧ fh n < b
      · rw [if_pos c, if_pos (by omega)]; omega
      · rw [if_neg c]; split <;> omega
  exact this N (Nat.le_refl _)
theorem flSum_split {fo fh fs : Nat → Int} {ob a b c : Int} {N : Nat} (hab : a ≤ b) (hbc : b ≤ c) : flSum fo fh fs ob a c N = flSum fo fh fs ob a b N + flSum fo fh fs ob b c N := by
  induction N with
  | zero => rfl
  | succ n ih =>
    show flSum fo fh fs ob a c n + (if fo n = ob ∧ a ≤ fh n ∧ fh n < c then fs n else 0) = (flSum fo fh fs ob a b n + (if fo n = ob ∧ a ≤ fh n ∧ fh n < b then fs n else 0)) + (flSum fo fh fs ob b c n + (if fo n = ob ∧ b ≤ fh n ∧ fh n < c then fs n else 0))
    rw [ih]
    by_cases c1 : fo n = ob ∧ a ≤ fh n ∧ fh n < b
    · rw [if_pos c1, if_pos (by omega), if_neg (by omega)]; omega
    · rw [if_neg c1]
      by_cases c2 : fo n = ob ∧ b ≤ fh n ∧ fh n < c
      · rw [if_pos c2, if_pos (by omega)]; omega
      · rw [if_neg c2, if_neg (by omega)]; omega
theorem flSum_none {fo fh fs : Nat → Int} {ob a : Int} {N : Nat} : flSum fo fh fs ob a a N = 0 := by
  have := flSum_split (fo := fo) (fh := fh) (fs := fs) (ob := ob) (N := N) (Int.le_refl a) (Int.le_refl a)
  omega
theorem got_self {B : Nat → Int} {sh : Nat → Bool} {fo fh fs : Nat → Int} {FN a : Nat} {o : Int} : got B sh fo fh fs FN o a a = 0 := by
  unfold got; rw [rg_self, flSum_none]; rfl
theorem got_mono {B : Nat → Int} {sh : Nat → Bool} {fo fh fs : Nat → Int} {FN a b c : Nat} {o : Int} (hB : ∀ h, h < 26280 → 0 ≤ B h) (hf : flOK fo fh fs FN) (hbc : b ≤ c) (hc : c ≤ 26280) : got B sh fo fh fs FN o a b ≤ got B sh fo fh fs FN o a c := by
  have h1 := flSum_mono (ob := o) (a := a) (b := b) (b' := c) hf (by omega)
  have h2 := rg_nonneg (f := Wt B sh) hbc (fun h _ q => Wt_nonneg (hB h (by omega)))
  have h3 := rg_split (f := Wt B sh) (a := a) (b := b) (c := c)
  unfold got
  omega
/-- the hour where a bound is passed -/
def brIs (G : Nat → Int) (bound : Int) (y : Nat) (z : Int) : Prop := ∃ h : Nat, z = h ∧ 8760 * y ≤ h ∧ h < 8760 * y + 8760 ∧ G h ≤ bound ∧ bound < G (h + 1)
theorem brIs_one {G : Nat → Int} {bound : Int} {y : Nat} {z z' : Int} (hm : ∀ a b, a ≤ b → b ≤ 8760 * y + 8760 → G a ≤ G b) (h : brIs G bound y z) (h' : brIs G bound y z') : z = z' := by
  obtain ⟨a, rfl, a1, a2, a3, a4⟩ := h
  obtain ⟨b, rfl, b1, b2, b3, b4⟩ := h'
  rcases Nat.lt_trichotomy a b with q | q | q
  · have := hm (a + 1) b (by omega) (by omega); omega
  · rw [q]
  · have := hm (b + 1) a (by omega) (by omega); omega
section LDS
variable {fr po : Int} {xc : Nat} {xf : Nat → Option Nat} {kd : Int} {es ef et : Nat → Int} {en : Int} {no : Nat} {xm : Int} {nl : Nat} {ym : Int} {ba dl ds fo fh fs : Nat → Int} {fn : Int} {yc : Nat} {yf : Nat → Option Nat} {LA : Nat → LpA} {LC : Nat → LpC} {ob : Nat}
theorem s_LD_hourOfBreach {y N FN : Nat} (ok : rwOK dl ds es nl LC) (hr : rowOK ef et N) (hen : en = N) (hf : flOK fo fh fs FN) (hfn : fn = FN) (ho : ob < no) (hno : no ≤ 12) (hk : 0 ≤ kd ∧ kd < 6) (hba : baOK ba) (hy : y < 3)
    (hb : bdP (ba kd.toNat) < got (exB dl es nl LC) (shB ef et N) fo fh fs FN ob (8760 * y) (8760 * y + 8760)) :
    vc_LD_hourOfBreach fr po xc xf kd es ef et en no xm nl ym ba dl ds fo fh fs fn yc yf LA LC ob y (brIs (got (exB dl es nl LC) (shB ef et N) fo fh fs FN ob (8760 * y)) (bdP (ba kd.toNat)) y) := by
  have hB : ∀ h, h < 26280 → 0 ≤ exB dl es nl LC h ∧ exB dl es nl LC h ≤ 162000000000 := fun h _ => exB_range ok
  unfold vc_LD_hourOfBreach
  refine ⟨_, s_LD_partsAllowed ho hno hk hba, ?_⟩
  rintro _ rfl
  have g2 := bdP_range (hba kd.toNat (by omega))
  generalize bdP (ba kd.toNat) = bd at g2 hb ⊢
  rw [show (y : Int) * 8760 = ((8760 * y : Nat) : Int) by omega]
  have gm : ∀ b c, b ≤ c → c ≤ 26280 → got (exB dl es nl LC) (shB ef et N) fo fh fs FN ob (8760 * y) b ≤ got (exB dl es nl LC) (shB ef et N) fo fh fs FN ob (8760 * y) c := fun b c h1 h2 => got_mono (fun h q => (hB h q).1) hf h1 h2
  refine ⟨fun hw stp => ∃ H w : Nat, hw = H ∧ stp = (w / 2 : Nat) ∧ (w = 1 ∨ w = 2 ∨ w = 4 ∨ w = 8 ∨ w = 16 ∨ w = 32 ∨ w = 64 ∨ w = 128 ∨ w = 256 ∨ w = 512 ∨ w = 1024 ∨ w = 2048 ∨ w = 4096 ∨ w = 8192 ∨ w = 16384) ∧ 8760 * y ≤ H ∧ H < 8760 * y + 8760 ∧ got (exB dl es nl LC) (shB ef et N) fo fh fs FN ob (8760 * y) H ≤ bd ∧ ∀ m, H + w ≤ m → m ≤ 8760 * y + 8760 → bd < got (exB dl es nl LC) (shB ef et N) fo fh fs FN ob (8760 * y) m, fun _ st => st.toNat, ⟨8760 * y, 16384, rfl, rfl, by omega, by omega, by omega, by rw [got_self]; omega, fun m h1 h2 => by omega⟩, ?_⟩
  rintro hw stp ⟨H, w, rfl, rfl, hw, hH1, hH2, h1, h2⟩
  rcases halve hw with rfl | ⟨v, rfl, hv0, hv1, hv⟩
  · exact ⟨by decide, fun _ => ⟨H, rfl, hH1, hH2, h1, h2 (H + 1) (by omega) (by omega)⟩, fun q2 => absurd q2 (by decide)⟩
  · have e2 : 2 * v / 2 = v := by omega
    rw [e2]
    refine ⟨⟨by omega, by omega⟩, fun q2 => absurd q2 (by omega), fun _ => ⟨⟨by omega, by omega⟩, ⟨by omega, by omega⟩, fun q2 => ⟨by omega, ⟨H, v, rfl, by omega, hv, hH1, hH2, h1, fun m m1 m2 => by omega⟩, by dsimp only; omega⟩, fun q2 => ?_⟩⟩
    rw [show (H : Int) + v = ((H + v : Nat) : Int) by omega] at q2 ⊢
    refine ⟨_, s_LD_partsOf (a := 8760 * y) (b := H + v) ok hr hen hf hfn ho hno (by omega) (by omega), fun z hz => ?_⟩
    rw [hz]
    have g1 := got_range (sh := shB ef et N) (o := (ob : Int)) (a := 8760 * y) (b := H + v) hB hf (by omega) (by omega)
    refine ⟨⟨by omega, by omega⟩, ⟨by omega, by omega⟩, fun q3 => ⟨by omega, ⟨H, v, rfl, by omega, hv, hH1, hH2, h1, fun m m1 m2 => ?_⟩, by dsimp only; omega⟩, fun q3 => ⟨by omega, ⟨H + v, v, by omega, by omega, hv, by omega, ?_, q3, fun m m1 m2 => h2 m (by omega) m2⟩, by dsimp only; omega⟩⟩
    · have := gm (H + v) m m1 (by omega); omega
    · rcases Nat.lt_or_ge (H + v) (8760 * y + 8760) with u | u
      · exact u
      · have : H + v = 8760 * y + 8760 := by omega
        rw [this] at q3; omega
/-- an hour of a plan is well -/
def planOk (B : Nat → Int) (sh : Nat → Bool) (P : Nat → Int) (bound : Int) (a h : Nat) : Prop := P (h / 8760) + rg (Un B sh) (max a (8760 * (h / 8760))) (h + 1) ≤ bound
def planIs (B : Nat → Int) (sh : Nat → Bool) (P : Nat → Int) (bound : Int) (a b : Nat) (z : Int) : Prop := ∃ n : Nat, z = n ∧ a + n ≤ b ∧ (∀ h, a ≤ h → h < a + n → planOk B sh P bound a h) ∧ (a + n < b → ¬ planOk B sh P bound a (a + n))
theorem planIs_one {B : Nat → Int} {sh : Nat → Bool} {P : Nat → Int} {bound : Int} {a b : Nat} {z z' : Int} (h : planIs B sh P bound a b z) (h' : planIs B sh P bound a b z') : z = z' := by
  obtain ⟨m, rfl, m1, m2, m3⟩ := h
  obtain ⟨n, rfl, n1, n2, n3⟩ := h'
  rcases Nat.lt_trichotomy m n with q | q | q
  · exact absurd (n2 (a + m) (by omega) (by omega)) (m3 (by omega))
  · rw [q]
  · exact absurd (m2 (a + n) (by omega) (by omega)) (n3 (by omega))
theorem s_LD_plan {a b N FN : Nat} (ok : rwOK dl ds es nl LC) (hr : rowOK ef et N) (hen : en = N) (hf : flOK fo fh fs FN) (hfn : fn = FN) (ho : ob < no) (hno : no ≤ 12) (hk : 0 ≤ kd ∧ kd < 6) (hba : baOK ba) (hab : a < b) (hb : b ≤ 26280) :
    vc_LD_plan fr po xc xf kd es ef et en no xm nl ym ba dl ds fo fh fs fn yc yf LA LC ob a b (planIs (exB dl es nl LC) (shB ef et N) (fun y => got (exB dl es nl LC) (shB ef et N) fo fh fs FN ob (8760 * y) (8760 * y + 8760)) (bdP (ba kd.toNat)) a b) := by
  have hB : ∀ h, h < 26280 → 0 ≤ exB dl es nl LC h ∧ exB dl es nl LC h ≤ 162000000000 := fun h _ => exB_range ok
  have fit : ∀ H e : Nat, H < e → e ≤ 26280 → e ≤ H + 8760 → vc_LD_hoursThatFit fr po xc xf kd es ef et en no xm nl ym ba dl ds fo fh fs fn yc yf LA LC ob H e (fitIs (exB dl es nl LC) (shB ef et N) (bdP (ba kd.toNat) - (fun y => got (exB dl es nl LC) (shB ef et N) fo fh fs FN ob (8760 * y) (8760 * y + 8760)) (H / 8760)) H e) := fun H e h1 h2 h3 => s_LD_hoursThatFit ok hr hen hf hfn ho hno hk hba h1 h2 h3
  generalize (fun y => got (exB dl es nl LC) (shB ef et N) fo fh fs FN ob (8760 * y) (8760 * y + 8760)) = P at fit ⊢
  generalize bdP (ba kd.toNat) = bd at fit ⊢
  unfold vc_LD_plan
  refine ⟨⟨by omega, by omega⟩, ⟨by omega, by omega⟩, ⟨by omega, by omega⟩, ⟨by omega, by omega⟩, ⟨by omega, by omega⟩, ⟨by omega, by omega⟩, ⟨by omega, by omega⟩, by omega, ?_⟩
  rw [show (a : Int) / 8760 = ((a / 8760 : Nat) : Int) by omega]
  refine ⟨fun hw y => ∃ H Y : Nat, hw = H ∧ y = Y ∧ Y ≤ 3 ∧ a ≤ H ∧ H ≤ b ∧ (∀ h, a ≤ h → h < H → planOk (exB dl es nl LC) (shB ef et N) P bd a h) ∧ (H < b → H = max a (8760 * Y) ∧ H / 8760 = Y), fun _ y => (3 - y).toNat, ⟨a, a / 8760, rfl, rfl, by omega, by omega, by omega, fun h h1 h2 => by omega, fun _ => ⟨by omega, rfl⟩⟩, ?_⟩
  rintro hw y ⟨H, Y, rfl, rfl, hY, hH1, hH2, h1, h2⟩
  refine ⟨⟨by omega, by omega⟩, fun q => ?_, fun q => ⟨⟨by omega, by omega⟩, fun q2 => ?_, fun q2 => ⟨⟨by omega, by omega⟩, ?_⟩⟩⟩
  · refine ⟨H - a, by omega, by omega, fun h h3 h4 => h1 h h3 (by omega), fun h3 => ?_⟩
    have := h2 (by omega); omega
  · exact ⟨H - a, by omega, by omega, fun h h3 h4 => h1 h h3 (by omega), fun h3 => by omega⟩
  · obtain ⟨e1, e2⟩ := h2 (by omega)
    rw [show min (b : Int) (((Y : Int) + 1) * 8760) = ((min b ((Y + 1) * 8760) : Nat) : Int) by omega]
    refine ⟨_, fit H (min b ((Y + 1) * 8760)) (by omega) (by omega) (by omega), ?_⟩
    rintro _ ⟨F, rfl, f1, f2, f3⟩
    rw [e2] at f2 f3
    have lo : ∀ h, H ≤ h → h < H + F → planOk (exB dl es nl LC) (shB ef et N) P bd a h := fun h h3 h4 => by
      unfold planOk
      rw [show h / 8760 = Y by omega, ← e1]
      have := Un_mono (sh := shB ef et N) (a := H) (b := h + 1) (c := H + F) (fun h q => (hB h q).1) (by omega) (by omega)
      rcases Int.lt_or_le (bd - P Y) 0 with u | u
      · have := f2 u; omega
      · have := (f3 u).1
        omega
    have all : ∀ h, a ≤ h → h < H + F → planOk (exB dl es nl LC) (shB ef et N) P bd a h := fun h h3 h4 => by
      rcases Nat.lt_or_ge h H with u | u
      · exact h1 h h3 u
      · exact lo h u h4
    refine ⟨⟨by omega, by omega⟩, ⟨by omega, by omega⟩, fun q3 => ⟨⟨H + F, Y + 1, by omega, by omega, by omega, by omega, by omega, all, fun q4 => ⟨by omega, by omega⟩⟩, by dsimp only; omega⟩, fun q3 => ⟨H + F - a, by omega, by omega, fun h h3 h4 => all h h3 (by omega), fun q4 => ?_⟩⟩
    rw [show a + (H + F - a) = H + F by omega]
    unfold planOk
    rw [show (H + F) / 8760 = Y by omega, ← e1]
    rcases Int.lt_or_le (bd - P Y) 0 with u | u
    · have f0 := f2 u
      have := Un_mono (sh := shB ef et N) (a := H) (b := H) (c := H + F + 1) (fun h q => (hB h q).1) (by omega) (by omega)
      rw [rg_self] at this
      omega
    · have := (f3 u).2 (by omega)
      omega
theorem s_LD_left {y N FN : Nat} (ok : rwOK dl ds es nl LC) (hr : rowOK ef et N) (hen : en = N) (hf : flOK fo fh fs FN) (hfn : fn = FN) (ho : ob < no) (hno : no ≤ 12) (hk : 0 ≤ kd ∧ kd < 6) (hba : baOK ba) (hy : y < 3) :
    vc_LD_left fr po xc xf kd es ef et en no xm nl ym ba dl ds fo fh fs fn yc yf LA LC ob y (fun z => z = if ba kd.toNat = -1 then -2147483648 else (3600000 * ba kd.toNat - got (exB dl es nl LC) (shB ef et N) fo fh fs FN ob (8760 * y) (8760 * y + 8760)) / 3600000) := by
  have hB : ∀ h, h < 26280 → 0 ≤ exB dl es nl LC h ∧ exB dl es nl LC h ≤ 162000000000 := fun h _ => exB_range ok
  have g3 := hba kd.toNat (by omega)
  unfold vc_LD_left
  refine ⟨s_exOf ho hno, ⟨by omega, by omega⟩, ⟨by omega, by omega⟩, hk, ⟨by omega, by omega⟩, fun q => ?_, fun q => by rw [if_pos q]⟩
  refine ⟨_, s_LD_partsLeft ok hr hen hf hfn ho hno hk hba hy, fun z hz => ?_⟩
  rw [hz]
  have g1 := got_range (sh := shB ef et N) (o := (ob : Int)) (a := 8760 * y) (b := 8760 * y + 8760) hB hf (by omega) (by omega)
  rw [bdP, if_neg q]
  generalize got (exB dl es nl LC) (shB ef et N) fo fh fs FN ob (8760 * y) (8760 * y + 8760) = G at g1 ⊢
  refine ⟨_, s_Mth_floorDiv ⟨by omega, by omega⟩ (by omega), fun w hw => ?_⟩
  rw [hw, if_neg q]
theorem s_LD_sum {e0 e1 e2 e3 y2 dy1 dy2 fl1 fl2 fl3 : Nat} {a b N FN : Nat} (ok : rwOK dl ds es nl LC) (hr : rowOK ef et N) (hen : en = N) (hf : flOK fo fh fs FN) (hfn : fn = FN) (ho : ob < no) (hno : no ≤ 12) (hab : a ≤ b) (hb : b ≤ 26280) :
    vc_LD_sum fr po no xm e0 e1 e2 e3 y2 dy1 dy2 fl1 fl2 fl3 xc xf kd es ef et en nl ym ba dl ds fo fh fs fn yc yf LA LC ob a b (fun z w => z = got (exB dl es nl LC) (shB ef et N) fo fh fs FN ob a b / 3600000 ∧ w = got (exB dl es nl LC) (shB ef et N) fo fh fs FN ob a b % 3600000) := by
  have hB : ∀ h, h < 26280 → 0 ≤ exB dl es nl LC h ∧ exB dl es nl LC h ≤ 162000000000 := fun h _ => exB_range ok
  have g1 := got_range (sh := shB ef et N) (o := (ob : Int)) (a := a) (b := b) hB hf hab hb
  unfold vc_LD_sum
  refine ⟨⟨by omega, by omega⟩, ⟨by omega, by omega⟩, ⟨by omega, by omega⟩, ⟨by omega, by omega⟩, ⟨by omega, by omega⟩, ⟨by omega, by omega⟩, ⟨by omega, by omega⟩, _, s_LD_partsOf ok hr hen hf hfn ho hno hab hb, fun z hz => ?_⟩
  rw [hz]
  exact ⟨⟨by omega, by omega⟩, by omega, by omega, rfl, rfl⟩
end LDS
