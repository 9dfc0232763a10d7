/-! STEPS: sums, plans, breaches, pages. -/
section STEPS
variable {qd : Nat} {AA : LdA} {CC : LdC} {MM : MdC} {f : Nat → Int} {x1 x2 x3 : Int}
theorem sum_helper {g : Int} (h : 0 ≤ g ∧ g ≤ 5000000000000000) : r64 g ∧ 0 ≤ g ∧ r32 (g / 3600000) ∧ 0 ≤ g % 3600000 ∧ g % 3600000 < 3600000 := ⟨⟨by omega, by omega⟩, by omega, ⟨by omega, by omega⟩, by omega, by omega⟩
theorem st_sum (h : Rl CC MM) (r1 : r32 x1) (r2 : r32 x2) (r3 : r32 x3) : vl_sum AA CC MM f x1 x2 x3 Rl := by
  unfold vl_sum
  refine ⟨_, ?_, fun k f1 C1 hh => hh⟩
  unfold vw_sum
  obtain ⟨h1, h2, h3, h4, h5, h6, h7, h8, h9, h10, h11, h12, h13⟩ := id h
  by_cases c1 : 0 ≤ x1 ∧ x1 < (CC.no : Int)
  · by_cases c2 : 0 ≤ x3 ∧ x3 ≤ 26280
    · by_cases c3 : 0 ≤ x2 ∧ x2 ≤ x3
      · obtain ⟨o, rfl⟩ : ∃ o : Nat, x1 = o := ⟨x1.toNat, by omega⟩
        obtain ⟨a, rfl⟩ : ∃ a : Nat, x2 = a := ⟨x2.toNat, by omega⟩
        obtain ⟨b, rfl⟩ : ∃ b : Nat, x3 = b := ⟨x3.toNat, by omega⟩
        obtain ⟨e1, e2, e3, e4⟩ := h.exOK (show o < CC.no by omega)
        have hg := h.got (o := o) (a := a) (b := b) (by omega) (by omega) (by omega)
        have gr := gotM_range (a := a) (b := b) h.all (show (o : Int) < MM.no by omega) (by omega) (by omega)
        obtain ⟨g1, g2, g3, g4⟩ := sum_helper gr
        refine Or.inl ⟨o, rfl, by omega, _, s_LD_sum e1 e2 e3 h7.2.1 h7.1 (by omega) h1.1 (by omega) (by omega), ?_⟩
        rintro z y0 ⟨rfl, rfl⟩
        rw [show got (exB CC.dl (CC.EC o).es CC.nl CC.LC) (shB (CC.EC o).ef (CC.EC o).et (CC.EC o).en.toNat) CC.fo CC.fh CC.fs CC.fn.toNat o a b = gotM MM.sa MM.da MM.la MM.ra MM.fa MM.ta MM.fo MM.fh MM.fs MM.nl.toNat MM.nf.toNat o a b from hg.symm]
        have pp := s_Md_partsA (th := 0) (xa := MM.xa) (ua := MM.ua) (uh := MM.uh) (uo := MM.uo) (ma := MM.ma) (mh := MM.mh) (ml := MM.ml) (rs := MM.rs) (ic := MM.ic) (mn := MM.mn) (bh := MM.bh) (bo := MM.bo) (ya := MM.ya) (np := MM.np) (pa := MM.pa) (nc := MM.nc) (cp := MM.cp) (a := a) (b := b) h.all (show (o : Int) < MM.no by omega) (by omega) (by omega)
        generalize gotM MM.sa MM.da MM.la MM.ra MM.fa MM.ta MM.fo MM.fh MM.fs MM.nl.toNat MM.nf.toNat o a b = G at g1 g2 g3 g4 pp ⊢
        refine ⟨g3, by decide, ?_⟩
        refine ⟨_, ?_, fun z u0 u1 hh => hh⟩
        unfold vc_Md_sum
        refine ⟨r1, ⟨by omega, by omega⟩, fun _ => ⟨r2, fun u => by omega, fun _ => ⟨r3, fun u => by omega, fun _ => ⟨fun u => by omega, fun _ => ⟨_, pp, fun z hz => ?_⟩⟩⟩⟩, fun u => by omega⟩
        rw [hz]
        exact ⟨g1, g2, g2, rfl, fun _ => ⟨up_self, g3⟩, h1, h2, h3, ⟨rfl, g4⟩, h5, h6, h7, h8, h9, h10, h11, h12, h13⟩
      · refine Or.inr (Or.inr ⟨⟨r1, ⟨by omega, by omega⟩, fun _ => ⟨r3, fun _ => ⟨r2, fun u => absurd u c3, fun _ => rfl⟩, fun u => absurd c2 u⟩, fun u => absurd c1 u⟩, by decide, ?_⟩)
        refine ⟨_, ?_, fun z u0 u1 hh => hh⟩
        exact ⟨r1, ⟨by omega, by omega⟩, fun _ => ⟨r2, fun _ => ⟨rfl, fun u => absurd u (by decide), h⟩, fun _ => ⟨r3, fun _ => ⟨rfl, fun u => absurd u (by decide), h⟩, fun u => by omega⟩⟩, fun u => by omega⟩
    · refine Or.inr (Or.inr ⟨⟨r1, ⟨by omega, by omega⟩, fun _ => ⟨r3, fun u => absurd u c2, fun _ => rfl⟩, fun u => absurd c1 u⟩, by decide, ?_⟩)
      refine ⟨_, ?_, fun z u0 u1 hh => hh⟩
      exact ⟨r1, ⟨by omega, by omega⟩, fun _ => ⟨r2, fun _ => ⟨rfl, fun u => absurd u (by decide), h⟩, fun _ => ⟨r3, fun _ => ⟨rfl, fun u => absurd u (by decide), h⟩, fun _ => ⟨fun _ => ⟨rfl, fun u => absurd u (by decide), h⟩, fun u => by omega⟩⟩⟩, fun u => by omega⟩
  · refine Or.inr (Or.inl ⟨⟨r1, ⟨by omega, by omega⟩, fun u => absurd u c1, fun _ => rfl⟩, by decide, ?_⟩)
    refine ⟨_, ?_, fun z u0 u1 hh => hh⟩
    exact ⟨r1, ⟨by omega, by omega⟩, fun u => by omega, fun _ => ⟨r2, fun _ => ⟨rfl, fun u => absurd u (by decide), h⟩, fun _ => ⟨r3, fun _ => ⟨rfl, fun u => absurd u (by decide), h⟩, fun _ => ⟨fun _ => ⟨rfl, fun u => absurd u (by decide), h⟩, fun _ => ⟨rfl, fun u => absurd u (by decide), h⟩⟩⟩⟩⟩
theorem left_helper {b g : Int} (hb : -1 ≤ b ∧ b ≤ 1000000000) (hg : 0 ≤ g ∧ g ≤ 5000000000000000) : r32 ((3600000 * b - g) / 3600000) ∧ r64 (3600000 * b - g) ∧ r64 (Int.tdiv (3600000 * b - g) 3600000 * 3600000) ∧ (Int.tdiv (3600000 * b - g) 3600000 * 3600000 ≤ 3600000 * b - g → Int.tdiv (3600000 * b - g) 3600000 = (3600000 * b - g) / 3600000) ∧ (3600000 * b - g < Int.tdiv (3600000 * b - g) 3600000 * 3600000 → Int.tdiv (3600000 * b - g) 3600000 - 1 = (3600000 * b - g) / 3600000) := by
  have e : Int.tdiv (3600000 * b - g) 3600000 = if 0 ≤ 3600000 * b - g then (3600000 * b - g) / 3600000 else -((-(3600000 * b - g)) / 3600000) := by
    split
    · exact Int.tdiv_eq_ediv_of_nonneg (by omega)
    · have h1 : Int.tdiv (3600000 * b - g) 3600000 = -Int.tdiv (-(3600000 * b - g)) 3600000 := by rw [Int.neg_tdiv]; omega
      rw [h1, Int.tdiv_eq_ediv_of_nonneg (by omega)]
  have hx : -5000003600000000 ≤ 3600000 * b - g ∧ 3600000 * b - g ≤ 3600000000000000 := by omega
  rw [e]
  clear e
  generalize 3600000 * b - g = x at hx ⊢
  by_cases c : 0 ≤ x
  · rw [if_pos c]
    exact ⟨⟨by omega, by omega⟩, ⟨by omega, by omega⟩, ⟨by omega, by omega⟩, fun _ => rfl, fun u => by omega⟩
  · rw [if_neg c]
    exact ⟨⟨by omega, by omega⟩, ⟨by omega, by omega⟩, ⟨by omega, by omega⟩, fun u => by omega, fun u => by omega⟩
theorem st_left (h : Rl CC MM) (r1 : r32 x1) (r2 : r32 x2) : vl_left AA CC MM f x1 x2 x3 Rl := by
  unfold vl_left
  refine ⟨_, ?_, fun k f1 C1 hh => hh⟩
  unfold vw_left
  obtain ⟨h1, h2, h3, h4, h5, h6, h7, h8, h9, h10, h11, h12, h13⟩ := id h
  by_cases c1 : 0 ≤ x1 ∧ x1 < (CC.no : Int)
  · obtain ⟨o, rfl⟩ : ∃ o : Nat, x1 = o := ⟨x1.toNat, by omega⟩
    by_cases c2 : 0 ≤ x2 ∧ x2 < 3
    · obtain ⟨y, rfl⟩ : ∃ y : Nat, x2 = y := ⟨x2.toNat, by omega⟩
      have ho : o < CC.no := by omega
      obtain ⟨e1, e2, e3, e4⟩ := h.exOK ho
      have hg := h.got (o := o) (a := 8760 * y) (b := 8760 * y + 8760) ho (by omega) (by omega)
      have gr := gotM_range (a := 8760 * y) (b := 8760 * y + 8760) h.all (show (o : Int) < MM.no by omega) (by omega) (by omega)
      have hb := h.bd ho
      have hbr := h5.1 (CC.EC o).kd.toNat (by omega)
      have hca : MM.ca o = (CC.EC o).kd := (h8.1 o ho).2.1
      have hba := h.all.2.1
      refine Or.inl ⟨o, rfl, ho, _, s_LD_left e1 e2 e3 h7.2.1 h7.1 ho h1.1 e4 h5.1 (by omega), fun z hz => ?_⟩
      rw [show got (exB CC.dl (CC.EC o).es CC.nl CC.LC) (shB (CC.EC o).ef (CC.EC o).et (CC.EC o).en.toNat) CC.fo CC.fh CC.fs CC.fn.toNat o (8760 * y) (8760 * y + 8760) = gotM MM.sa MM.da MM.la MM.ra MM.fa MM.ta MM.fo MM.fh MM.fs MM.nl.toNat MM.nf.toNat o (8760 * y) (8760 * y + 8760) from hg.symm, ← hb] at hz
      rw [← hb] at hbr
      have pp : vc_Md_parts 0 MM.no MM.ca MM.ba MM.nl MM.xa MM.sa MM.da MM.la MM.ra MM.fa MM.ta MM.ua MM.uh MM.uo MM.ma MM.mh MM.ml MM.nf MM.fo MM.fh MM.fs MM.rs MM.ic MM.mn MM.bh MM.bo MM.ya MM.np MM.pa MM.nc MM.cp o (8760 * (y : Int)) (8760 * (y : Int) + 8760) (fun z => z = gotM MM.sa MM.da MM.la MM.ra MM.fa MM.ta MM.fo MM.fh MM.fs MM.nl.toNat MM.nf.toNat o (8760 * y) (8760 * y + 8760)) := by
        rw [show (8760 : Int) * y = ((8760 * y : Nat) : Int) by omega, show ((8760 * y : Nat) : Int) + 8760 = ((8760 * y + 8760 : Nat) : Int) by omega]
        exact s_Md_partsA (a := 8760 * y) (b := 8760 * y + 8760) h.all (show (o : Int) < MM.no by omega) (by omega) (by omega)
      clear hg
      generalize gotM MM.sa MM.da MM.la MM.ra MM.fa MM.ta MM.fo MM.fh MM.fs MM.nl.toNat MM.nf.toNat o (8760 * y) (8760 * y + 8760) = G at gr hz pp
      obtain ⟨g1, g2, g3, g4, g5⟩ := left_helper hbr gr
      have zr : r32 z := by
        rw [hz]; split
        · decide
        · exact g1
      refine ⟨zr, by decide, ?_⟩
      refine ⟨_, ?_, fun z u0 hh => hh⟩
      have bnd := s_Md_bound (th := 0) (no := MM.no) (nl := MM.nl) (xa := MM.xa) (sa := MM.sa) (da := MM.da) (la := MM.la) (ra := MM.ra) (fa := MM.fa) (ta := MM.ta) (ua := MM.ua) (uh := MM.uh) (uo := MM.uo) (ma := MM.ma) (mh := MM.mh) (ml := MM.ml) (nf := MM.nf) (fo := MM.fo) (fh := MM.fh) (fs := MM.fs) (rs := MM.rs) (ic := MM.ic) (mn := MM.mn) (bh := MM.bh) (bo := MM.bo) (ya := MM.ya) (np := MM.np) (pa := MM.pa) (nc := MM.nc) (cp := MM.cp) (ca := MM.ca) (ba := MM.ba) (ob := o) (by omega) (by rw [hca]; exact e4) hba
      unfold vc_Md_left
      rw [Int.toNat_natCast]
      refine ⟨r1, ⟨by omega, by omega⟩, fun _ => ⟨r2, fun _ => ⟨⟨by omega, by omega⟩, by rw [hca]; exact e4, ⟨by omega, by omega⟩, fun q => ⟨_, bnd, fun z14 hz14 => ⟨_, pp, fun z17 hz17 => ?_⟩⟩, fun q => ⟨rfl, fun _ => ⟨?_, by decide⟩, h⟩⟩, fun u => by omega⟩, fun u => by omega⟩
      · rw [if_neg q] at hz
        rw [hz14, hz17]
        exact ⟨g2, g3, fun u => ⟨rfl, fun _ => ⟨by rw [up_self, hz, g4 u], by rw [g4 u]; exact g1⟩, h⟩, fun u => ⟨rfl, fun _ => ⟨by rw [up_self, hz, g5 u], by rw [g5 u]; exact g1⟩, h⟩⟩
      · rw [if_pos q] at hz
        rw [up_self]; exact hz
    · refine Or.inr (Or.inr ⟨o, rfl, by omega, ⟨s_exOf (by omega) h1.1, r2, fun u => absurd u c2, fun _ => rfl⟩, by decide, ?_⟩)
      refine ⟨_, ?_, fun z u0 hh => hh⟩
      exact ⟨r1, ⟨by omega, by omega⟩, fun _ => ⟨r2, fun u => by omega, fun _ => ⟨rfl, fun u => absurd u (by decide), h⟩⟩, fun u => by omega⟩
  · refine Or.inr (Or.inl ⟨⟨r1, ⟨by omega, by omega⟩, fun u => absurd u c1, fun _ => rfl⟩, by decide, ?_⟩)
    refine ⟨_, ?_, fun z u0 hh => hh⟩
    exact ⟨r1, ⟨by omega, by omega⟩, fun u => by omega, fun _ => ⟨rfl, fun u => absurd u (by decide), h⟩⟩
theorem rg_congr2 {f g : Nat → Int} {a b : Nat} (hab : a ≤ b) (hb : b ≤ 26280) (e : ∀ k, k < 26280 → f k = g k) : rg f a b = rg g a b := rg_congr hab (fun h _ q => e h (by omega))
theorem plan_congr {B B' : Nat → Int} {sh sh' : Nat → Bool} {P P' : Nat → Int} {bd : Int} {a b : Nat} {z : Int} (hb : b ≤ 26280) (eB : ∀ k, k < 26280 → B k = B' k) (eS : ∀ k, sh k = sh' k) (eP : ∀ y, y < 3 → P y = P' y) (h : planIs B sh P bd a b z) : planIs B' sh' P' bd a b z := by
  have eU : ∀ k, k < 26280 → Un B sh k = Un B' sh' k := fun k hk => by unfold Un Wt; rw [eB k hk, eS k]
  have eO : ∀ k, a ≤ k → k < 26280 → (planOk B sh P bd a k ↔ planOk B' sh' P' bd a k) := fun k hk1 hk => by
    unfold planOk
    rw [eP (k / 8760) (by omega), rg_congr2 (by omega) (by omega) eU]
  obtain ⟨n, n1, n2, n3, n4⟩ := h
  exact ⟨n, n1, n2, fun k k1 k2 => (eO k k1 (by omega)).mp (n3 k k1 k2), fun q c => n4 q ((eO _ (by omega) (by omega)).mpr c)⟩
theorem plan_r32 {B : Nat → Int} {sh : Nat → Bool} {P : Nat → Int} {bd : Int} {a b : Nat} {z : Int} (hb : b ≤ 26280) (h : planIs B sh P bd a b z) : r32 z := by
  obtain ⟨n, n1, n2, n3, n4⟩ := h
  exact ⟨by omega, by omega⟩
theorem st_plan (h : Rl CC MM) (r1 : r32 x1) (r2 : r32 x2) (r3 : r32 x3) : vl_plan AA CC MM f x1 x2 x3 Rl := by
  unfold vl_plan
  refine ⟨_, ?_, fun k f1 C1 hh => hh⟩
  unfold vw_plan
  obtain ⟨h1, h2, h3, h4, h5, h6, h7, h8, h9, h10, h11, h12, h13⟩ := id h
  have spec := s_Md_plan (th := MM.th) (xa := MM.xa) (ua := MM.ua) (uh := MM.uh) (uo := MM.uo) (ma := MM.ma) (mh := MM.mh) (ml := MM.ml) (rs := MM.rs) (ic := MM.ic) (mn := MM.mn) (bh := MM.bh) (bo := MM.bo) (ya := MM.ya) (np := MM.np) (pa := MM.pa) (nc := MM.nc) (cp := MM.cp) h.all r1 r2 r3
  by_cases c1 : 0 ≤ x1 ∧ x1 < (CC.no : Int)
  · by_cases c2 : 0 ≤ x2 ∧ x2 < 26280
    · by_cases c3 : x2 < x3 ∧ x3 ≤ 26280
      · obtain ⟨o, rfl⟩ : ∃ o : Nat, x1 = o := ⟨x1.toNat, by omega⟩
        obtain ⟨a, rfl⟩ : ∃ a : Nat, x2 = a := ⟨x2.toNat, by omega⟩
        obtain ⟨b, rfl⟩ : ∃ b : Nat, x3 = b := ⟨x3.toNat, by omega⟩
        have ho : o < CC.no := by omega
        obtain ⟨e1, e2, e3, e4⟩ := h.exOK ho
        refine Or.inl ⟨o, rfl, ho, _, s_LD_plan e1 e2 e3 h7.2.1 h7.1 ho h1.1 e4 h5.1 (by omega) (by omega), fun z hz => ?_⟩
        refine ⟨plan_r32 (by omega) hz, by decide, ?_⟩
        refine ⟨_, spec, ?_⟩
        rintro z1 u0 u1 ⟨-, -, s3⟩
        obtain ⟨rfl, s4⟩ := s3 ⟨⟨by omega, by omega⟩, c2⟩ c3
        simp only [Int.toNat_natCast] at s4
        rw [h.bd ho, show MM.nl.toNat = CC.nl by omega] at s4
        have s5 := plan_congr (B' := exB CC.dl (CC.EC o).es CC.nl CC.LC) (sh' := shB (CC.EC o).ef (CC.EC o).et (CC.EC o).en.toNat) (P' := fun y => gotC CC.dl CC.nl CC.LC CC.fo CC.fh CC.fs CC.fn.toNat (CC.EC o) o (8760 * y) (8760 * y + 8760)) (by omega) (h.B ho) (h.sh ho) (fun y hy => by
          have := h.got (o := o) (a := 8760 * y) (b := 8760 * y + 8760) ho (by omega) (by omega)
          rw [show MM.nl.toNat = CC.nl by omega] at this
          exact this) s4
        have ez := planIs_one hz s5
        exact ⟨rfl, fun _ => ⟨by rw [up_self]; exact ez, plan_r32 (by omega) s5⟩, h⟩
      · refine Or.inr (Or.inr ⟨⟨r1, ⟨by omega, by omega⟩, fun _ => ⟨r2, fun _ => ⟨r3, fun u => absurd u c3, fun _ => rfl⟩, fun u => absurd c2 u⟩, fun u => absurd c1 u⟩, by decide, ?_⟩)
        refine ⟨_, spec, ?_⟩
        rintro z1 u0 u1 ⟨-, s2, -⟩
        exact ⟨s2 ⟨⟨by omega, by omega⟩, c2⟩ c3, fun u => absurd u (by decide), h⟩
    · refine Or.inr (Or.inl ⟨⟨r1, ⟨by omega, by omega⟩, fun _ => ⟨r2, fun u => absurd u c2, fun _ => rfl⟩, fun u => absurd c1 u⟩, by decide, ?_⟩)
      refine ⟨_, spec, ?_⟩
      rintro z1 u0 u1 ⟨s1, -, -⟩
      exact ⟨s1 (fun u => c2 u.2), fun u => absurd u (by decide), h⟩
  · refine Or.inr (Or.inl ⟨⟨r1, ⟨by omega, by omega⟩, fun u => absurd u c1, fun _ => rfl⟩, by decide, ?_⟩)
    refine ⟨_, spec, ?_⟩
    rintro z1 u0 u1 ⟨s1, -, -⟩
    exact ⟨s1 (fun u => by omega), fun u => absurd u (by decide), h⟩
theorem st_rotate (h : Rl CC MM) (r1 : r32 x1) : vl_rotate AA CC MM f x1 x2 x3 Rl := by
  unfold vl_rotate
  refine ⟨_, ?_, fun k f1 C1 hh => hh⟩
  unfold vw_rotate
  obtain ⟨h1, h2, h3, h4, h5, h6, h7, h8, h9, h10, h11, h12, h13⟩ := id h
  obtain ⟨b1, b2, b3, b4, b5⟩ := h10
  obtain ⟨k1, k2, k3⟩ := h11
  have bm : bkOK MM.pa CC.kp.toNat := ⟨b2.1, fun i hi => by rw [b4 i hi]; exact b2.2 i hi⟩
  have spec := s_Md_rotate (th := MM.th) (no := MM.no) (ca := MM.ca) (ba := MM.ba) (nl := MM.nl) (xa := MM.xa) (sa := MM.sa) (da := MM.da) (la := MM.la) (ra := MM.ra) (fa := MM.fa) (ta := MM.ta) (ua := MM.ua) (uh := MM.uh) (uo := MM.uo) (ma := MM.ma) (mh := MM.mh) (ml := MM.ml) (nf := MM.nf) (fo := MM.fo) (fh := MM.fh) (fs := MM.fs) (rs := MM.rs) (ic := MM.ic) (mn := MM.mn) (bh := MM.bh) (bo := MM.bo) (ya := MM.ya) (np := MM.np) (pa := MM.pa) (nc := MM.nc) (cp := MM.cp) (K := CC.kp.toNat) (by omega) bm b5 r1
  have esm : ∀ q, supp q 0 CC.kp.toNat → smB MM.pa q CC.kp.toNat = smB CC.kh q CC.kp.toNat := fun q _ => sg_congr (fun i hi => by rw [b4 i hi])
  by_cases c1 : 1 ≤ x1 ∧ x1 ≤ 30000
  · refine Or.inl ⟨_, ?_, fun z y0 y1 hh => hh⟩
    unfold vc_LD_rotate
    have few := s_Bk_fewestPages (kc := CC.kc) (kn := CC.kn) b2 c1
    rw [← b1] at few
    refine ⟨r1, c1, _, few, fun z4 hz => ?_⟩
    have rz : r32 z4 := by
      have := b2.1
      rcases hz with ⟨rfl, _⟩ | ⟨c, rfl, _, _, _⟩
      · decide
      · exact ⟨by omega, by omega⟩
    refine ⟨rz, fun q => ?_, fun q => ?_⟩
    · obtain ⟨c, rfl, hc1, hc2, ⟨p, p1, p2, p3⟩, hmin⟩ := hz.resolve_left (fun u => q u.1)
      have cho := s_Bk_choose (kc := CC.kc) (kn := CC.kn) b2 c1 hc1 hc2 ⟨p, p1, p2, p3⟩ hmin
      rw [← b1] at cho
      refine ⟨_, cho, ?_⟩
      rintro kc' kn' ⟨rfl, p', fp, lp, low⟩
      have := b2.1
      refine ⟨⟨by omega, by omega⟩, by decide, ?_⟩
      refine ⟨_, spec, ?_⟩
      rintro z1 u0 u1 u2 ⟨-, s2⟩
      obtain ⟨rfl, rot⟩ := s2 c1
      rcases rot with ⟨_, _, _, r4⟩ | ⟨c', rfl, d1, d2, d3, d4, q', fq, lq, lowq⟩
      · have := r4 p' fp.1
        rw [esm p' fp.1] at this
        have := fp.2.2; omega
      · have e1 : c = c' := by
          rcases Nat.lt_trichotomy c c' with u | u | u
          · have w1 := d4 p' fp.1 (by have := fp.2.1; omega)
            rw [esm p' fp.1] at w1
            have := fp.2.2; omega
          · exact u
          · have w1 := hmin q' fq.1 (by have := fq.2.1; omega)
            have := fq.2.2
            rw [esm q' fq.1] at this; omega
        subst e1
        have f1 : fitsB CC.kh CC.kp.toNat c x1 q' := ⟨fq.1, fq.2.1, by rw [← esm q' fq.1]; exact fq.2.2⟩
        have f2 : fitsB MM.pa CC.kp.toNat c x1 p' := ⟨fp.1, fp.2.1, by rw [esm p' fp.1]; exact fp.2.2⟩
        have pq := lowB_anti (low q' f1) (lowq p' f2)
        have lq2 := listsB_ext (fun i => (pq i).symm) lq
        obtain ⟨_, eqs⟩ := listsB_one lp lq2
        refine ⟨rfl, fun _ => ⟨by rw [up_self], ⟨by omega, by omega⟩⟩, h1, h2, h3, h4, h5, h6, h7, h8, h9, ⟨b1, b2, b3, b4, b5⟩, ?_, h12, h13⟩
        show KcR kc' (c : Int) u1 u2
        refine ⟨⟨by omega, by omega⟩, d3, fun j hj => ⟨(eqs j (by omega)).symm, ?_⟩⟩
        obtain ⟨i, i1, i2⟩ := lp.1 j (by omega)
        have := fp.1 i i2
        rw [i1]; exact ⟨by omega, by omega⟩
    · have hz2 : ∀ q, supp q 0 CC.kp.toNat → smB CC.kh q CC.kp.toNat < x1 := by
        rcases hz with ⟨_, u⟩ | ⟨c, u, _⟩
        · exact u
        · omega
      refine ⟨by decide, by decide, ?_⟩
      refine ⟨_, spec, ?_⟩
      rintro z1 u0 u1 u2 ⟨-, s2⟩
      obtain ⟨rfl, rot⟩ := s2 c1
      rcases rot with ⟨rfl, rfl, rfl, r4⟩ | ⟨c', rfl, d1, d2, d3, d4, q', fq, lq, lowq⟩
      · exact ⟨rfl, fun _ => ⟨up_self, by decide⟩, h1, h2, h3, h4, h5, h6, h7, h8, h9, ⟨b1, b2, b3, b4, b5⟩, ⟨k1, k2, k3⟩, h12, h13⟩
      · have w1 := hz2 q' fq.1
        have := fq.2.2
        rw [esm q' fq.1] at this; omega
  · refine Or.inr ⟨⟨r1, fun u => absurd u c1, fun _ => rfl⟩, by decide, ?_⟩
    refine ⟨_, spec, ?_⟩
    rintro z1 u0 u1 u2 ⟨s1, -⟩
    obtain ⟨rfl, rfl, rfl⟩ := s1 c1
    exact ⟨rfl, fun u => absurd u (by decide), h⟩
end STEPS
