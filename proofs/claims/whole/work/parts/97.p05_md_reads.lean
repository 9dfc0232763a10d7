/-! SPEC of the Model: its reads. -/
section MDS
variable {th no : Int} {ca ba : Nat → Int} {nl : Int} {xa sa da la ra fa ta ua uh uo ma mh ml : Nat → Int} {nf : Int} {fo fh fs : Nat → Int} {rs ic mn : Int} {bh bo ya : Nat → Int} {np : Int} {pa : Nat → Int} {nc : Int} {cp : Nat → Int}
/-- the rows of an object in the Model -/
abbrev rowF (fa : Nat → Int) (ob : Nat) (k : Nat) : Int := fa (16 * ob + k)
theorem s_Md_isShown {ob N h : Nat} (ho : ob < 12) (hN : N ≤ 16) (hra : ra ob = N) (hr : ∀ k, k < N → r32 (rowF fa ob k) ∧ r32 (rowF ta ob k)) (hh : h < 26280) : vc_Md_isShown th no ca ba nl xa sa da la ra fa ta ua uh uo ma mh ml nf fo fh fs rs ic mn bh bo ya np pa nc cp ob h (fun z => (z = 0 ∨ z = 1) ∧ (z = 1 ↔ shB (rowF fa ob) (rowF ta ob) N h = true)) := by
  unfold vc_Md_isShown
  refine ⟨fun z k => ∃ j : Nat, k = 16 * ob + j ∧ j ≤ N ∧ (z = 0 ∨ z = 1) ∧ (z = 1 ↔ shB (rowF fa ob) (rowF ta ob) j h = true), fun _ k => (16 * ob + 16 - k).toNat, ⟨0, by omega, by omega, Or.inl rfl, by simp [shB]⟩, ?_⟩
  rintro z k ⟨j, rfl, hj, hz, hi⟩
  rw [Int.toNat_natCast, hra]
  refine ⟨⟨by omega, by omega⟩, ⟨by omega, by omega⟩, ⟨by omega, by omega⟩, fun q => ⟨hz, hz, by rw [show N = j by omega]; exact hi⟩, fun q => ?_⟩
  have e : ((16 : Int) * ob + j).toNat = 16 * ob + j := by omega
  have hrj := hr j (by omega)
  unfold rowF at hrj
  rw [e]
  refine ⟨⟨by omega, by omega⟩, fun q2 => ⟨⟨j + 1, by omega, by omega, Or.inr rfl, ?_⟩, by dsimp only; omega⟩, fun q2 => ⟨⟨by omega, by omega⟩, ⟨by omega, by omega⟩, hrj.1, fun q3 => ⟨⟨j + 1, by omega, by omega, Or.inl rfl, ?_⟩, by dsimp only; omega⟩, fun q3 => ⟨⟨by omega, by omega⟩, hrj.2, fun q4 => ⟨⟨j + 1, by omega, by omega, Or.inl rfl, ?_⟩, by dsimp only; omega⟩, fun q4 => ⟨⟨j + 1, by omega, by omega, Or.inr rfl, ?_⟩, by dsimp only; omega⟩⟩⟩⟩
  · have h1 := hi.mp (by omega)
    simp [shB, h1]
  · have h1 : shB (rowF fa ob) (rowF ta ob) j h = false := by
      cases hs : shB (rowF fa ob) (rowF ta ob) j h with
      | false => rfl
      | true => have := hi.mpr hs; omega
    rw [shB, h1, Bool.false_or, Bool.and_eq_true, decide_eq_true_iff, decide_eq_true_iff]
    constructor
    · intro u; omega
    · intro ⟨u, _⟩; have u2 : fa (16 * ob + j) ≤ (h : Int) := u; omega
  · have h1 : shB (rowF fa ob) (rowF ta ob) j h = false := by
      cases hs : shB (rowF fa ob) (rowF ta ob) j h with
      | false => rfl
      | true => have := hi.mpr hs; omega
    rw [shB, h1, Bool.false_or, Bool.and_eq_true, decide_eq_true_iff, decide_eq_true_iff]
    constructor
    · intro u; omega
    · intro ⟨_, u⟩; have u2 : (h : Int) < ta (16 * ob + j) := u; omega
  · rw [shB, Bool.or_eq_true, Bool.and_eq_true, decide_eq_true_iff, decide_eq_true_iff]
    exact ⟨fun _ => Or.inr ⟨q3, q4⟩, fun _ => rfl⟩
/-- the light of an hour in the Model -/
abbrev mdB (da sa la : Nat → Int) (nl ob : Nat) : Nat → Int := Brt da (fun l => sa (12 * l + ob)) (fun l h => la (26280 * l + h)) nl
/-- the numbers of the Model are small -/
def mdOK (da sa la : Nat → Int) (nl : Nat) : Prop := nl ≤ 8 ∧ (∀ t, t < 24 → 0 ≤ da t ∧ da t ≤ 5000) ∧ (∀ k, k < 96 → 0 ≤ sa k ∧ sa k ≤ 1000) ∧ ∀ k, k < 26280 * nl → 0 ≤ la k ∧ la k ≤ 5000
theorem mdB_range {NL ob h : Nat} (ok : mdOK da sa la NL) (ho : ob < 12) (hh : h < 26280) : 0 ≤ mdB da sa la NL ob h ∧ mdB da sa la NL ob h ≤ 162000000000 :=
  Brt_range ok.2.1 (fun l hl => ok.2.2.1 _ (by have := ok.1; omega)) (fun l hl => ok.2.2.2 _ (by omega)) ok.1
theorem s_Md_bright {ob NL h : Nat} (ok : mdOK da sa la NL) (hnl : nl = NL) (ho : ob < 12) (hh : h < 26280) : vc_Md_bright th no ca ba nl xa sa da la ra fa ta ua uh uo ma mh ml nf fo fh fs rs ic mn bh bo ya np pa nc cp ob h (fun z => z = mdB da sa la NL ob h) := by
  subst hnl
  obtain ⟨hn, hd, hs, hl⟩ := ok
  unfold vc_Md_bright
  rw [show (h : Int) % 24 = ((h % 24 : Nat) : Int) by omega, Int.toNat_natCast]
  have hd1 := hd (h % 24) (by omega)
  refine ⟨⟨by omega, by omega⟩, by omega, ⟨by omega, by omega⟩, ⟨by omega, by omega⟩, fun tot j => ∃ k : Nat, j = k ∧ k ≤ NL ∧ tot = 3600000 * da (h % 24) + sg (fun l => 3600 * sa (12 * l + ob) * la (26280 * l + h)) k, fun _ j => NL - j.toNat, ⟨0, rfl, by omega, by simp [sg]⟩, ?_⟩
  rintro tot j ⟨k, rfl, hk, rfl⟩
  refine ⟨⟨by omega, by omega⟩, ⟨by omega, by omega⟩, fun q => ?_, fun q => ?_⟩
  · rw [show k = NL by omega]; rfl
  · rw [show ((12 : Int) * k + ob).toNat = 12 * k + ob by omega, show ((26280 : Int) * k + h).toNat = 26280 * k + h by omega]
    have h1 := hs (12 * k + ob) (by omega)
    have h2 := hl (26280 * k + h) (by omega)
    exact ⟨⟨by omega, by omega⟩, ⟨by omega, by omega⟩, ⟨by omega, by omega⟩, ⟨by omega, by omega⟩, ⟨k + 1, by omega, by omega, by rw [sg_succ]; omega⟩, by dsimp only; omega⟩
theorem s_Md_flashed {FN : Nat} {ob a b : Int} (hf : flOK fo fh fs FN) (hnf : nf = FN) (ho : r32 ob) (ha : r32 a) (hb : r32 b) : vc_Md_flashed th no ca ba nl xa sa da la ra fa ta ua uh uo ma mh ml nf fo fh fs rs ic mn bh bo ya np pa nc cp ob a b (fun z => z = 1000 * flSum fo fh fs ob a b FN) := by
  subst hnf
  obtain ⟨hN, hf⟩ := hf
  unfold vc_Md_flashed
  refine ⟨fun tot k => ∃ j : Nat, k = j ∧ j ≤ FN ∧ tot = 1000 * flSum fo fh fs ob a b j, fun _ k => FN - k.toNat, ⟨0, rfl, by omega, rfl⟩, ?_⟩
  rintro tot k ⟨j, rfl, hj, rfl⟩
  refine ⟨⟨by omega, by omega⟩, ⟨by omega, by omega⟩, fun q => by rw [show FN = j by omega], fun q => ?_⟩
  rw [Int.toNat_natCast]
  have h1 := hf j (by omega)
  have st : flSum fo fh fs ob a b (j + 1) = flSum fo fh fs ob a b j + (if fo j = ob ∧ a ≤ fh j ∧ fh j < b then fs j else 0) := rfl
  have no1 : ¬ (fo j = ob ∧ a ≤ fh j ∧ fh j < b) → (∃ i : Nat, (j : Int) + 1 = i ∧ i ≤ FN ∧ 1000 * flSum fo fh fs ob a b j = 1000 * flSum fo fh fs ob a b i) := fun c => ⟨j + 1, by omega, by omega, by rw [st, if_neg c]; omega⟩
  refine ⟨⟨by omega, by omega⟩, ⟨by omega, by omega⟩, ho, fun q2 => ⟨no1 (fun c => q2 c.1), by dsimp only; omega⟩, fun q2 => ⟨⟨by omega, by omega⟩, ⟨by omega, by omega⟩, ha, fun q3 => ⟨no1 (fun c => by omega), by dsimp only; omega⟩, fun q3 => ⟨⟨by omega, by omega⟩, hb, fun q4 => ⟨no1 (fun c => by omega), by dsimp only; omega⟩, fun q4 => ⟨⟨by omega, by omega⟩, ⟨by omega, by omega⟩, ⟨j + 1, by omega, by omega, ?_⟩, by dsimp only; omega⟩⟩⟩⟩
  rw [st, if_pos ⟨q2, q3, q4⟩]; omega
theorem s_Md_parts {ob N NL FN a b : Nat} (ok : mdOK da sa la NL) (hnl : nl = NL) (ho : ob < 12) (hN : N ≤ 16) (hra : ra ob = N) (hr : ∀ k, k < N → r32 (rowF fa ob k) ∧ r32 (rowF ta ob k)) (hf : flOK fo fh fs FN) (hnf : nf = FN) (hab : a ≤ b) (hb : b ≤ 26280) :
    vc_Md_parts th no ca ba nl xa sa da la ra fa ta ua uh uo ma mh ml nf fo fh fs rs ic mn bh bo ya np pa nc cp ob a b (fun z => z = got (mdB da sa la NL ob) (shB (rowF fa ob) (rowF ta ob) N) fo fh fs FN ob a b) := by
  unfold vc_Md_parts
  refine ⟨_, s_Md_flashed hf hnf ⟨by omega, by omega⟩ ⟨by omega, by omega⟩ ⟨by omega, by omega⟩, fun z2 hz2 => ?_⟩
  rw [hz2]
  refine ⟨fun tot hh => ∃ h : Nat, hh = h ∧ a ≤ h ∧ h ≤ b ∧ tot = 1000 * flSum fo fh fs ob a b FN + rg (Wt (mdB da sa la NL ob) (shB (rowF fa ob) (rowF ta ob) N)) a h, fun _ hh => b - hh.toNat, ⟨a, rfl, by omega, by omega, by rw [rg_self]; omega⟩, ?_⟩
  rintro tot hh ⟨h, rfl, h1, h2, rfl⟩
  refine ⟨⟨by omega, by omega⟩, ⟨by omega, by omega⟩, fun q => ?_, fun q => ?_⟩
  · rw [show h = b by omega]; unfold got; omega
  · refine ⟨_, s_Md_isShown ho hN hra hr (by omega), ?_⟩
    rintro z ⟨hz, hi⟩
    refine ⟨⟨by omega, by omega⟩, fun q2 => ⟨⟨h + 1, by omega, by omega, by omega, ?_⟩, by dsimp only; omega⟩, fun q2 => ?_⟩
    · rw [rg_next, Wt, if_neg (fun u => by have := hi.mpr u; omega)]; omega
    · refine ⟨_, s_Md_bright ok hnl ho (by omega), fun w hw => ⟨⟨h + 1, by omega, by omega, by omega, ?_⟩, by dsimp only; omega⟩⟩
      rw [rg_next, Wt, if_pos (hi.mp (by omega)), hw]; omega
theorem s_Md_bound {ob : Nat} (ho : ob < 12) (hc : 0 ≤ ca ob ∧ ca ob < 6) (hba : baOK ba) : vc_Md_bound th no ca ba nl xa sa da la ra fa ta ua uh uo ma mh ml nf fo fh fs rs ic mn bh bo ya np pa nc cp ob (fun z => z = 3600000 * ba (ca ob).toNat) := by
  unfold vc_Md_bound
  have := hba (ca ob).toNat (by omega)
  rw [Int.toNat_natCast]
  exact ⟨⟨by omega, by omega⟩, hc, ⟨by omega, by omega⟩, rfl⟩
end MDS
