/-! SPEC of the list of breaches. -/
/-- the list behind the first e pairs of object and year: e = 3 * object + year -/
def brRun (has : Nat → Nat → Prop) (hr : Nat → Nat → Int → Prop) : Nat → (Nat → Int) → (Nat → Int) → Nat → Prop
  | 0, _, _, n => n = 0
  | e + 1, h, o, n => (¬ has (e / 3) (e % 3) ∧ brRun has hr e h o n) ∨ (has (e / 3) (e % 3) ∧ ∃ (h0 o0 : Nat → Int) (n0 : Nat) (x : Int), brRun has hr e h0 o0 n0 ∧ hr (e / 3) (e % 3) x ∧ insPost h0 o0 n0 x ((e / 3 : Nat) : Int) h o ((n0 : Int) + 1) ∧ n = n0 + 1)
theorem brRun_facts {has : Nat → Nat → Prop} {hr : Nat → Nat → Int → Prop} (hh : ∀ o y z, y < 3 → hr o y z → 0 ≤ z ∧ z < 26280) {e : Nat} : ∀ {h o : Nat → Int} {n : Nat}, brRun has hr e h o n → n ≤ e ∧ nsrt h n ∧ ∀ j, j < n → (0 ≤ h j ∧ h j < 26280) ∧ 0 ≤ o j ∧ 3 * o j < e := by
  induction e with
  | zero => intro h o n hn; have : n = 0 := hn; subst this; exact ⟨by omega, fun i j _ q => by omega, fun j q => by omega⟩
  | succ e ih =>
    rintro h o n (⟨_, hn⟩ | ⟨_, h0, o0, n0, x, h1, h2, ⟨_, k, hk, i1, i2, i3, i4⟩, rfl⟩)
    · obtain ⟨a, b, c⟩ := ih hn
      exact ⟨by omega, b, fun j hj => by have := c j hj; omega⟩
    · obtain ⟨a, b, c⟩ := ih h1
      have hx := hh _ _ _ (by omega) h2
      refine ⟨by omega, insAt_nsrt i1 hk b i3 (fun j q1 q2 => by have := i4 j q1 q2; omega), ?_⟩
      refine (insAt_all (P := fun u v => (0 ≤ u ∧ u < 26280) ∧ 0 ≤ v ∧ 3 * v < ((e + 1 : Nat) : Int)) i1 i2 hk).mpr ⟨by omega, fun j hj => ?_⟩
      have := c j hj
      omega
theorem insPost_one {f g f2 g2 f' g' f2' g2' : Nat → Int} {N : Nat} {x y n1 n2 : Int} (e : ∀ j, j < N → f j = f2 j ∧ g j = g2 j) (h : insPost f g N x y f' g' n1) (h' : insPost f2 g2 N x y f2' g2' n2) : ∀ j, j < N + 1 → f' j = f2' j ∧ g' j = g2' j := by
  obtain ⟨_, k, hk, a1, a2, a3, a4⟩ := h
  obtain ⟨_, k2, hk2, b1, b2, b3, b4⟩ := h'
  have ek : k = k2 := by
    rcases Nat.lt_trichotomy k k2 with q | q | q
    · have h1 := b3 k q
      have h2 := a4 k (Nat.le_refl _) (by omega)
      have h3 := (e k (by omega)).1
      omega
    · exact q
    · have h1 := a3 k2 q
      have h2 := b4 k2 (Nat.le_refl _) (by omega)
      have h3 := (e k2 (by omega)).1
      omega
  subst ek
  intro j hj
  rcases Nat.lt_trichotomy j k with q | q | q
  · rw [a1.1 j q, b1.1 j q, a2.1 j q, b2.1 j q]; exact e j (by omega)
  · subst q; rw [a1.2.1, b1.2.1, a2.2.1, b2.2.1]; exact ⟨rfl, rfl⟩
  · rw [a1.2.2 j q (by omega), b1.2.2 j q (by omega), a2.2.2 j q (by omega), b2.2.2 j q (by omega)]; exact e (j - 1) (by omega)
theorem brRun_one {has : Nat → Nat → Prop} {hr : Nat → Nat → Int → Prop} (hu : ∀ o y z z', y < 3 → hr o y z → hr o y z' → z = z') {e : Nat} : ∀ {h o h' o' : Nat → Int} {n n' : Nat}, brRun has hr e h o n → brRun has hr e h' o' n' → n = n' ∧ ∀ j, j < n → h j = h' j ∧ o j = o' j := by
  induction e with
  | zero => intro h o h' o' n n' a b; have a : n = 0 := a; have b : n' = 0 := b; exact ⟨by omega, fun j hj => by omega⟩
  | succ e ih =>
    rintro h o h' o' n n' (⟨a1, a2⟩ | ⟨a1, h0, o0, n0, x, a2, a3, a4, rfl⟩) (⟨b1, b2⟩ | ⟨b1, h0', o0', n0', x', b2, b3, b4, rfl⟩)
    · exact ih a2 b2
    · exact absurd b1 a1
    · exact absurd a1 b1
    · obtain ⟨rfl, c⟩ := ih a2 b2
      have ex := hu _ _ _ _ (by omega) a3 b3
      subst ex
      exact ⟨rfl, insPost_one c a4 b4⟩
theorem brRun_congr {has has' : Nat → Nat → Prop} {hr hr' : Nat → Nat → Int → Prop} {e : Nat} : ∀ {h o : Nat → Int} {n : Nat}, (∀ q y, y < 3 → 3 * q + y < e → (has q y ↔ has' q y)) → (∀ q y z, y < 3 → 3 * q + y < e → has q y → (hr q y z → hr' q y z)) → brRun has hr e h o n → brRun has' hr' e h o n := by
  induction e with
  | zero => intro h o n _ _ a; exact a
  | succ e ih =>
    rintro h o n h1 h2 (⟨a1, a2⟩ | ⟨a1, h0, o0, n0, x, a2, a3, a4, a5⟩)
    · exact Or.inl ⟨fun q => a1 ((h1 _ _ (by omega) (by omega)).mpr q), ih (fun q y y1 y2 => h1 q y y1 (by omega)) (fun q y z y1 y2 => h2 q y z y1 (by omega)) a2⟩
    · exact Or.inr ⟨(h1 _ _ (by omega) (by omega)).mp a1, h0, o0, n0, x, ih (fun q y y1 y2 => h1 q y y1 (by omega)) (fun q y z y1 y2 => h2 q y z y1 (by omega)) a2, h2 _ _ _ (by omega) (by omega) a1 a3, a4, a5⟩
theorem brRun_no {has : Nat → Nat → Prop} {hr : Nat → Nat → Int → Prop} {O y n : Nat} {h o : Nat → Int} (hy : y < 3) (hn : ¬ has O y) (a : brRun has hr (3 * O + y) h o n) : brRun has hr (3 * O + (y + 1)) h o n := by
  rw [← Nat.add_assoc, brRun]
  refine Or.inl ⟨?_, a⟩
  rw [show (3 * O + y) / 3 = O by omega, show (3 * O + y) % 3 = y by omega]
  exact hn
theorem brRun_yes {has : Nat → Nat → Prop} {hr : Nat → Nat → Int → Prop} {O y n : Nat} {h o h' o' : Nat → Int} {x n' : Int} (hy : y < 3) (hn : has O y) (a : brRun has hr (3 * O + y) h o n) (hx : hr O y x) (hi : insPost h o n x (O : Int) h' o' n') : n' = ((n + 1 : Nat) : Int) ∧ brRun has hr (3 * O + (y + 1)) h' o' (n + 1) := by
  have e := hi.1
  rw [← Nat.add_assoc, brRun]
  refine ⟨by omega, Or.inr ⟨?_, h, o, n, x, a, ?_, ?_, rfl⟩⟩
  · rw [show (3 * O + y) / 3 = O by omega, show (3 * O + y) % 3 = y by omega]; exact hn
  · rw [show (3 * O + y) / 3 = O by omega, show (3 * O + y) % 3 = y by omega]; exact hx
  · rw [show (3 * O + y) / 3 = O by omega, ← e]; exact hi
theorem lt_sub_helper {z a b : Int} (e : z = a - b) (h1 : 0 ≤ b) (h2 : b ≤ 5000000000000000) (h3 : 0 ≤ a) (h4 : a ≤ 1000000000000000000) : r64 z ∧ (z < 0 ↔ a < b) := by
  exact ⟨⟨by omega, by omega⟩, by omega⟩
section LDS
variable {fr po : Int} {no : Nat} {xm : Int} {bh bo : Nat → Int} {bn : Int} {y2 dy1 dy2 fl1 fl2 fl3 nl : Nat} {ym : Int} {ba dl ds fo fh fs : Nat → Int} {fn : Int} {xc : Nat} {xf : Nat → Option Nat} {EA : Nat → ExA} {EC : Nat → ExC} {yc : Nat} {yf : Nat → Option Nat} {LA : Nat → LpA} {LC : Nat → LpC}
/-- the objects as the class keeps them -/
def exCOK (dl ds : Nat → Int) (nl : Nat) (LC : Nat → LpC) (C : ExC) : Prop := rwOK dl ds C.es nl LC ∧ rowOK C.ef C.et C.en.toNat ∧ C.en = (C.en.toNat : Int) ∧ 0 ≤ C.kd ∧ C.kd < 6
abbrev gotC (dl : Nat → Int) (nl : Nat) (LC : Nat → LpC) (fo fh fs : Nat → Int) (FN : Nat) (C : ExC) (ob a b : Nat) : Int := got (exB dl C.es nl LC) (shB C.ef C.et C.en.toNat) fo fh fs FN ob a b
abbrev hasC (ba dl : Nat → Int) (nl : Nat) (LC : Nat → LpC) (fo fh fs : Nat → Int) (FN : Nat) (EC : Nat → ExC) (o y : Nat) : Prop := bdP (ba (EC o).kd.toNat) < gotC dl nl LC fo fh fs FN (EC o) o (8760 * y) (8760 * y + 8760)
abbrev hrC (ba dl : Nat → Int) (nl : Nat) (LC : Nat → LpC) (fo fh fs : Nat → Int) (FN : Nat) (EC : Nat → ExC) (o y : Nat) (z : Int) : Prop := brIs (gotC dl nl LC fo fh fs FN (EC o) o (8760 * y)) (bdP (ba (EC o).kd.toNat)) y z
theorem hrC_range {FN : Nat} {o y : Nat} {z : Int} (hy : y < 3) (h : hrC ba dl nl LC fo fh fs FN EC o y z) : 0 ≤ z ∧ z < 26280 := by
  obtain ⟨a, rfl, a1, a2, _⟩ := h; omega
theorem s_LD_findBreaches {FN : Nat} (hex : ∀ o, o < no → exCOK dl ds nl LC (EC o)) (hf : flOK fo fh fs FN) (hfn : fn = FN) (hno : no ≤ 12) (hba : baOK ba) (hfr : fr = 0 ∨ fr = 1)
    (hbr : fr = 1 → ∃ n : Nat, bn = n ∧ brRun (hasC ba dl nl LC fo fh fs FN EC) (hrC ba dl nl LC fo fh fs FN EC) (3 * no) bh bo n) :
    vc_LD_findBreaches fr po no xm bh bo bn y2 dy1 dy2 fl1 fl2 fl3 nl ym ba dl ds fo fh fs fn xc xf EA EC yc yf LA LC (fun h o m r => r = 1 ∧ ∃ n : Nat, m = n ∧ brRun (hasC ba dl nl LC fo fh fs FN EC) (hrC ba dl nl LC fo fh fs FN EC) (3 * no) h o n) := by
  have hh : ∀ o y z, y < 3 → hrC ba dl nl LC fo fh fs FN EC o y z → 0 ≤ z ∧ z < 26280 := fun o y z hy h => hrC_range hy h
  have key : ∀ O y : Nat, O < no → y < 3 → vc_LD_partsLeft fr po xc xf ((EC O).kd) ((EC O).es) ((EC O).ef) ((EC O).et) ((EC O).en) no xm nl ym ba dl ds fo fh fs fn yc yf LA LC O y (fun z => r64 z ∧ (z < 0 ↔ hasC ba dl nl LC fo fh fs FN EC O y)) ∧ (hasC ba dl nl LC fo fh fs FN EC O y → vc_LD_hourOfBreach fr po xc xf ((EC O).kd) ((EC O).es) ((EC O).ef) ((EC O).et) ((EC O).en) no xm nl ym ba dl ds fo fh fs fn yc yf LA LC O y (hrC ba dl nl LC fo fh fs FN EC O y)) := fun O y hO hy => by
    clear hbr
    obtain ⟨h1, h2, h3, h4⟩ := hex O hO
    have hB : ∀ h, h < 26280 → 0 ≤ exB dl (EC O).es nl LC h ∧ exB dl (EC O).es nl LC h ≤ 162000000000 := fun h _ => exB_range h1
    have g1 := got_range (sh := shB (EC O).ef (EC O).et (EC O).en.toNat) (o := (O : Int)) (a := 8760 * y) (b := 8760 * y + 8760) hB hf (by omega) (by omega)
    have g2 := bdP_range (hba (EC O).kd.toNat (by omega))
    have := s_LD_partsLeft (fr := fr) (po := po) (xc := xc) (xf := xf) (xm := xm) (ym := ym) (yc := yc) (yf := yf) (LA := LA) h1 h2 h3 hf hfn hO hno h4 hba hy
    refine ⟨?_, fun q => s_LD_hourOfBreach h1 h2 h3 hf hfn hO hno h4 hba hy q⟩
    unfold vc_LD_partsLeft at this ⊢
    obtain ⟨P1, p1, p2⟩ := this
    refine ⟨P1, p1, fun z2 hz2 => ?_⟩
    obtain ⟨P4, p3, p4⟩ := p2 z2 hz2
    refine ⟨P4, p3, fun z5 hz5 => ?_⟩
    have e := p4 z5 hz5
    exact lt_sub_helper e g1.1 g1.2 g2.1 g2.2
  generalize hasC ba dl nl LC fo fh fs FN EC = has at *
  generalize hrC ba dl nl LC fo fh fs FN EC = hrr at *
  unfold vc_LD_findBreaches
  refine ⟨by rcases hfr with rfl | rfl <;> decide, fun q => ?_, fun q => ⟨hfr.resolve_left q, hbr (hfr.resolve_left q)⟩⟩
  clear hbr
  refine ⟨fun o h g m => ∃ O n : Nat, o = O ∧ O ≤ no ∧ m = n ∧ brRun has hrr (3 * O) h g n, fun o _ _ _ => no - o.toNat, ⟨0, 0, rfl, by omega, rfl, rfl⟩, ?_⟩
  rintro o gh go gn ⟨O, n, rfl, hO, rfl, hrun⟩
  refine ⟨⟨by omega, by omega⟩, ⟨by omega, by omega⟩, fun q2 => ⟨rfl, n, rfl, by rw [show no = O by omega]; exact hrun⟩, fun q2 => ?_⟩
  refine ⟨fun y h g m => ∃ Y n : Nat, y = Y ∧ Y ≤ 3 ∧ m = n ∧ brRun has hrr (3 * O + Y) h g n, fun y _ _ _ => (3 - y).toNat, ⟨0, n, rfl, by omega, rfl, hrun⟩, ?_⟩
  rintro y jh jo jn ⟨Y, n2, rfl, hY, rfl, hrun2⟩
  refine ⟨⟨by omega, by omega⟩, fun q3 => ⟨⟨O + 1, n2, by omega, by omega, rfl, ?_⟩, by dsimp only; omega⟩, fun q3 => ⟨⟨by omega, by omega⟩, ?_⟩⟩
  · rw [show 3 * (O + 1) = 3 * O + Y by omega]; exact hrun2
  · rw [Int.toNat_natCast]
    obtain ⟨k1, k2⟩ := key O Y (by omega) (by omega)
    refine ⟨_, k1, ?_⟩
    rintro z ⟨z1, z2⟩
    refine ⟨z1, fun q4 => ⟨⟨Y + 1, n2, by omega, by omega, rfl, brRun_no (by omega) (fun q5 => by have := z2.mpr q5; omega) hrun2⟩, by dsimp only; omega⟩, fun q4 => ⟨⟨by omega, by omega⟩, ?_⟩⟩
    have hb := z2.mp q4
    refine ⟨_, k2 hb, fun x hx => ?_⟩
    obtain ⟨f1, f2, f3⟩ := brRun_facts hh hrun2
    have hxr := hh _ _ _ (by omega) hx
    refine ⟨_, s_Br_add (by omega) f2 (fun i hi => by have := f3 i hi; exact ⟨by omega, by omega⟩) ⟨by omega, by omega⟩, fun h' o' n' hi => ?_⟩
    obtain ⟨e1, e2⟩ := brRun_yes (by omega) hb hrun2 hx hi
    exact ⟨⟨Y + 1, n2 + 1, by omega, by omega, e1, e2⟩, by dsimp only; omega⟩
end LDS
