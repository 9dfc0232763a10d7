/-! STEPS: breaches; the first state. -/
theorem ins_place {f : Nat → Int} {N : Nat} {x : Int} (hs : nsrt f N) : ∃ k, k ≤ N ∧ (∀ j, j < k → f j ≤ x) ∧ ∀ j, k ≤ j → j < N → x < f j := by
  induction N with
  | zero => exact ⟨0, by omega, fun j hj => by omega, fun j _ q => by omega⟩
  | succ N ih =>
    rcases Int.lt_or_le x (f N) with u | u
    · obtain ⟨k, k1, k2, k3⟩ := ih (fun i j h1 h2 => hs i j h1 (by omega))
      refine ⟨k, by omega, k2, fun j j1 j2 => ?_⟩
      by_cases e : j = N
      · rw [e]; exact u
      · exact k3 j j1 (by omega)
    · refine ⟨N + 1, by omega, fun j hj => ?_, fun j _ q => by omega⟩
      by_cases e : j = N
      · rw [e]; exact u
      · have := hs j N (by omega) (by omega); omega
theorem insPost_ex {f g : Nat → Int} {N : Nat} {x y : Int} (hs : nsrt f N) : ∃ f' g', insPost f g N x y f' g' ((N : Int) + 1) := by
  obtain ⟨k, k1, k2, k3⟩ := ins_place (x := x) hs
  have mk : ∀ (h : Nat → Int) (v : Int), insAt h N k v (fun j => if j < k then h j else if j = k then v else h (j - 1)) := fun h v =>
    ⟨fun j hj => if_pos hj, by dsimp only; rw [if_neg (by omega), if_pos rfl], fun j j1 j2 => by dsimp only; rw [if_neg (by omega), if_neg (by omega)]⟩
  exact ⟨_, _, rfl, k, k1, mk f x, mk g y, k2, k3⟩
theorem cross {G : Nat → Int} {bd : Int} {a : Nat} (h0 : G a ≤ bd) : ∀ n, bd < G (a + n) → ∃ h, a ≤ h ∧ h < a + n ∧ G h ≤ bd ∧ bd < G (h + 1) := fun n => by
  induction n with
  | zero => intro q; exact absurd q (by have : G (a + 0) = G a := rfl; omega)
  | succ n ih =>
    intro q
    rcases Int.lt_or_le bd (G (a + n)) with u | u
    · obtain ⟨h, h1, h2, h3⟩ := ih u
      exact ⟨h, h1, by omega, h3⟩
    · exact ⟨a + n, by omega, by omega, u, q⟩
theorem brRun_ex {has : Nat → Nat → Prop} {hr : Nat → Nat → Int → Prop} (hh : ∀ o y z, y < 3 → hr o y z → 0 ≤ z ∧ z < 26280) {e : Nat} : (∀ o y, y < 3 → 3 * o + y < e → has o y → ∃ z, hr o y z) → ∃ h o n, brRun has hr e h o n := by
  induction e with
  | zero => intro _; exact ⟨fun _ => 0, fun _ => 0, 0, rfl⟩
  | succ e ih =>
    intro hx
    obtain ⟨h, o, n, hr0⟩ := ih (fun o y y1 y2 => hx o y y1 (by omega))
    by_cases c : has (e / 3) (e % 3)
    · obtain ⟨z, hz⟩ := hx (e / 3) (e % 3) (by omega) (by omega) c
      obtain ⟨_, f2, _⟩ := brRun_facts hh hr0
      obtain ⟨h', o', hp⟩ := insPost_ex (g := o) (x := z) (y := ((e / 3 : Nat) : Int)) f2
      exact ⟨h', o', n + 1, Or.inr ⟨c, h, o, n, z, hr0, hz, hp, rfl⟩⟩
    · exact ⟨h, o, n, Or.inl ⟨c, hr0⟩⟩
section REL
variable {C : LdC} {M : MdC}
theorem Rl.runs (h : Rl C M) : ∃ gh go n, brRun (hasC C.ba C.dl C.nl C.LC C.fo C.fh C.fs C.fn.toNat C.EC) (hrC C.ba C.dl C.nl C.LC C.fo C.fh C.fs C.fn.toNat C.EC) (3 * C.no) gh go n := by
  refine brRun_ex (fun o y z hy hz => hrC_range hy hz) (fun o y hy ho hc => ?_)
  have g2 := bdP_range (h.2.2.2.2.1.1 (C.EC o).kd.toNat (by have := (h.exOK (show o < C.no by omega)).2.2.2; omega))
  have hc2 : bdP (C.ba (C.EC o).kd.toNat) < gotC C.dl C.nl C.LC C.fo C.fh C.fs C.fn.toNat (C.EC o) o (8760 * y) (8760 * y + 8760) := hc
  have z0 : gotC C.dl C.nl C.LC C.fo C.fh C.fs C.fn.toNat (C.EC o) o (8760 * y) (8760 * y) ≤ bdP (C.ba (C.EC o).kd.toNat) := by
    rw [show gotC C.dl C.nl C.LC C.fo C.fh C.fs C.fn.toNat (C.EC o) o (8760 * y) (8760 * y) = 0 from got_self]; exact g2.1
  obtain ⟨k, k1, k2, k3, k4⟩ := cross z0 8760 hc2
  exact ⟨k, k, rfl, k1, k2, k3, k4⟩
theorem Rl.one (h : Rl C M) {gh go gh' go' : Nat → Int} {n n' : Nat} (a : brRun (hasC C.ba C.dl C.nl C.LC C.fo C.fh C.fs C.fn.toNat C.EC) (hrC C.ba C.dl C.nl C.LC C.fo C.fh C.fs C.fn.toNat C.EC) (3 * C.no) gh go n)
    (b : brRun (hasC C.ba C.dl C.nl C.LC C.fo C.fh C.fs C.fn.toNat C.EC) (hrC C.ba C.dl C.nl C.LC C.fo C.fh C.fs C.fn.toNat C.EC) (3 * C.no) gh' go' n') : n = n' := by
  have hfl : flOK C.fo C.fh C.fs C.fn.toNat := h.2.2.2.2.2.2.1.2.1
  have hex : ∀ o, o < C.no → exCOK C.dl C.ds C.nl C.LC (C.EC o) := fun o ho => h.exOK ho
  have u := brRun_one (has := hasC C.ba C.dl C.nl C.LC C.fo C.fh C.fs C.fn.toNat C.EC) (hr := fun o y z => o < C.no ∧ hrC C.ba C.dl C.nl C.LC C.fo C.fh C.fs C.fn.toNat C.EC o y z) (fun o y z z' hy q1 q2 => brIs_one (fun p r h1 h2 => got_mono (fun k hk => (exB_range (hex o q1.1).1).1) hfl h1 (by omega)) q1.2 q2.2) (brRun_congr (fun _ _ _ _ => Iff.rfl) (fun q y z y1 y2 _ hz => ⟨by omega, hz⟩) a) (brRun_congr (fun _ _ _ _ => Iff.rfl) (fun q y z y1 y2 _ hz => ⟨by omega, hz⟩) b)
  exact u.1
end REL
section STEPS
variable {qd : Nat} {AA : LdA} {CC : LdC} {MM : MdC} {f : Nat → Int} {x1 x2 x3 : Int}
theorem st_breaches (h : Rl CC MM) : vl_breaches AA CC MM f x1 x2 x3 Rl := by
  unfold vl_breaches
  obtain ⟨h1, h2, h3, h4, h5, h6, h7, h8, h9, h10, h11, h12, h13⟩ := id h
  refine ⟨fun k a b c d => k = c ∧ d = 1 ∧ ∃ n : Nat, c = n ∧ brRun (hasC CC.ba CC.dl CC.nl CC.LC CC.fo CC.fh CC.fs CC.fn.toNat CC.EC) (hrC CC.ba CC.dl CC.nl CC.LC CC.fo CC.fh CC.fs CC.fn.toNat CC.EC) (3 * CC.no) a b n, ⟨_, s_LD_findBreaches (fun o ho => h.exOK ho) h7.2.1 h7.1 h1.1 h5.1 h3.1 h12, fun y3 y4 y5 y6 hh => ⟨rfl, hh⟩⟩, ?_⟩
  rintro k a b c d ⟨rfl, rfl, n, rfl, run⟩
  obtain ⟨f1, _, _⟩ := brRun_facts (fun o y z hy hz => hrC_range hy hz) run
  refine ⟨⟨by omega, by omega⟩, ?_⟩
  refine ⟨fun z t gh go m r => z = m ∧ r = 1 ∧ ∃ n : Nat, m = n ∧ brRun (hasM MM.ca MM.ba MM.sa MM.da MM.la MM.ra MM.fa MM.ta MM.fo MM.fh MM.fs MM.nl.toNat MM.nf.toNat) (hrM MM.ca MM.ba MM.sa MM.da MM.la MM.ra MM.fa MM.ta MM.fo MM.fh MM.fs MM.nl.toNat MM.nf.toNat) (3 * MM.no.toNat) gh go n, ⟨_, s_Md_countAll h.all h3.2 h13, fun y3 y4 y5 y6 hh => ⟨rfl, hh⟩⟩, ?_⟩
  rintro z u0 u1 u2 u3 u4 ⟨rfl, rfl, m, rfl, runM⟩
  obtain ⟨b1, b2, b3⟩ := h.br run runM
  exact ⟨by omega, h1, h2, ⟨Or.inr rfl, Or.inr rfl⟩, h4, h5, h6, h7, h8, h9, h10, h11, fun _ => ⟨n, rfl, run⟩, fun _ => ⟨m, rfl, runM⟩⟩
theorem st_breach (h : Rl CC MM) (r1 : r32 x1) (r2 : r32 x2) : vl_breach AA CC MM f x1 x2 x3 Rl := by
  unfold vl_breach
  refine ⟨_, ?_, fun k f1 C1 hh => hh⟩
  unfold vw_breach
  obtain ⟨h1, h2, h3, h4, h5, h6, h7, h8, h9, h10, h11, h12, h13⟩ := id h
  obtain ⟨gh0, go0, n0, run0⟩ := h.runs
  have fb := fun (xm : Int) => s_LD_findBreaches (po := CC.po) (xm := xm) (y2 := AA.y2) (dy1 := AA.dy1) (dy2 := AA.dy2) (fl1 := AA.fl1) (fl2 := AA.fl2) (fl3 := AA.fl3) (ym := AA.ym) (xc := AA.xc) (xf := AA.xf) (EA := AA.EA) (yc := AA.yc) (yf := AA.yf) (LA := AA.LA) (fun o ho => h.exOK ho) h7.2.1 h7.1 h1.1 h5.1 h3.1 h12
  by_cases c1 : (0 ≤ x1 ∧ x1 < (n0 : Int)) ∧ 0 ≤ x2 ∧ x2 < 2
  · refine Or.inl ⟨fun z a b c d => ((x2 = 0 → z = a x1.toNat) ∧ (x2 ≠ 0 → z = b x1.toNat)) ∧ d = 1 ∧ ∃ n : Nat, c = n ∧ n = n0 ∧ brRun (hasC CC.ba CC.dl CC.nl CC.LC CC.fo CC.fh CC.fs CC.fn.toNat CC.EC) (hrC CC.ba CC.dl CC.nl CC.LC CC.fo CC.fh CC.fs CC.fn.toNat CC.EC) (3 * CC.no) a b n, ⟨_, fb AA.xm, ?_⟩, ?_⟩
    · rintro a b c d ⟨rfl, n, rfl, run⟩
      have en := h.one run run0
      obtain ⟨f1, _, _⟩ := brRun_facts (fun o y z hy hz => hrC_range hy hz) run
      exact ⟨r1, ⟨by omega, by omega⟩, ⟨by omega, by omega⟩, r2, c1.2, fun q => ⟨⟨by omega, by omega⟩, ⟨fun u => absurd u q, fun _ => rfl⟩, rfl, n, rfl, en, run⟩, fun q => ⟨⟨by omega, by omega⟩, ⟨fun _ => rfl, fun u => absurd q u⟩, rfl, n, rfl, en, run⟩⟩
    · rintro z a b c d ⟨hz, rfl, n, rfl, rfl, run⟩
      obtain ⟨f1, _, f3⟩ := brRun_facts (fun o y z hy hz => hrC_range hy hz) run
      have f4 := f3 x1.toNat (by omega)
      have rz : r32 z := by
        by_cases q : x2 = 0
        · rw [hz.1 q]; exact ⟨by omega, by omega⟩
        · rw [hz.2 q]; exact ⟨by omega, by omega⟩
      refine ⟨rz, by decide, ?_⟩
      refine ⟨fun w t gh go m r => t = 0 ∧ ((x2 = 0 → w = gh x1.toNat) ∧ (x2 ≠ 0 → w = go x1.toNat)) ∧ r = 1 ∧ ∃ n : Nat, m = n ∧ brRun (hasM MM.ca MM.ba MM.sa MM.da MM.la MM.ra MM.fa MM.ta MM.fo MM.fh MM.fs MM.nl.toNat MM.nf.toNat) (hrM MM.ca MM.ba MM.sa MM.da MM.la MM.ra MM.fa MM.ta MM.fo MM.fh MM.fs MM.nl.toNat MM.nf.toNat) (3 * MM.no.toNat) gh go n, ⟨_, s_Md_countAll h.all h3.2 h13, ?_⟩, ?_⟩
      · rintro y3 y4 y5 y6 ⟨rfl, m, rfl, runM⟩
        obtain ⟨b1, b2, b3⟩ := h.br run runM
        exact ⟨r1, fun u => by omega, fun _ => ⟨⟨by omega, by omega⟩, fun u => by omega, fun _ => ⟨r2, fun _ => ⟨fun q => ⟨⟨by omega, by omega⟩, rfl, ⟨fun u => absurd u q, fun _ => rfl⟩, rfl, m, rfl, runM⟩, fun q => ⟨⟨by omega, by omega⟩, rfl, ⟨fun _ => rfl, fun u => absurd q u⟩, rfl, m, rfl, runM⟩⟩, fun u => by omega⟩⟩⟩
      · rintro w u0 u1 u2 u3 u4 ⟨rfl, hw, rfl, m, rfl, runM⟩
        obtain ⟨b1, b2, b3⟩ := h.br run runM
        have b4 := b3 x1.toNat (by omega)
        have ew : z = w := by
          by_cases q : x2 = 0
          · rw [hz.1 q, hw.1 q]; exact b4.1.1
          · rw [hz.2 q, hw.2 q]; exact b4.1.2
        exact ⟨rfl, fun _ => ⟨by rw [up_self]; exact ew, by rw [← ew]; exact rz⟩, h1, h2, ⟨Or.inr rfl, Or.inr rfl⟩, h4, h5, h6, h7, h8, h9, h10, h11, fun _ => ⟨n, rfl, run⟩, fun _ => ⟨m, rfl, runM⟩⟩
  · refine Or.inr ⟨fun a b c d => d = 1 ∧ ∃ n : Nat, c = n ∧ n = n0 ∧ brRun (hasC CC.ba CC.dl CC.nl CC.LC CC.fo CC.fh CC.fs CC.fn.toNat CC.EC) (hrC CC.ba CC.dl CC.nl CC.LC CC.fo CC.fh CC.fs CC.fn.toNat CC.EC) (3 * CC.no) a b n, ⟨_, fb AA.xm, ?_⟩, ?_⟩
    · rintro a b c d ⟨rfl, n, rfl, run⟩
      have en := h.one run run0
      obtain ⟨f1, _, _⟩ := brRun_facts (fun o y z hy hz => hrC_range hy hz) run
      exact ⟨r1, ⟨by omega, by omega⟩, fun q => ⟨r2, fun u => by omega, fun _ => ⟨rfl, n, rfl, en, run⟩⟩, fun _ => ⟨rfl, n, rfl, en, run⟩⟩
    · rintro a b c d ⟨rfl, n, rfl, rfl, run⟩
      refine ⟨by decide, ?_⟩
      refine ⟨fun w t gh go m r => t = 1 ∧ r = 1 ∧ ∃ n : Nat, m = n ∧ brRun (hasM MM.ca MM.ba MM.sa MM.da MM.la MM.ra MM.fa MM.ta MM.fo MM.fh MM.fs MM.nl.toNat MM.nf.toNat) (hrM MM.ca MM.ba MM.sa MM.da MM.la MM.ra MM.fa MM.ta MM.fo MM.fh MM.fs MM.nl.toNat MM.nf.toNat) (3 * MM.no.toNat) gh go n, ⟨_, s_Md_countAll h.all h3.2 h13, ?_⟩, ?_⟩
      · rintro y3 y4 y5 y6 ⟨rfl, m, rfl, runM⟩
        obtain ⟨b1, b2, b3⟩ := h.br run runM
        exact ⟨r1, fun u => ⟨rfl, rfl, m, rfl, runM⟩, fun _ => ⟨⟨by omega, by omega⟩, fun u => ⟨rfl, rfl, m, rfl, runM⟩, fun _ => ⟨r2, fun u => by omega, fun u => ⟨rfl, rfl, m, rfl, runM⟩⟩⟩⟩
      · rintro w u0 u1 u2 u3 u4 ⟨rfl, rfl, m, rfl, runM⟩
        exact ⟨rfl, fun u => absurd u (by decide), h1, h2, ⟨Or.inr rfl, Or.inr rfl⟩, h4, h5, h6, h7, h8, h9, h10, h11, fun _ => ⟨n, rfl, run⟩, fun _ => ⟨m, rfl, runM⟩⟩
end STEPS
/-- all calls keep the relation -/
def LwSteps (qd : Nat) (R : LdC → MdC → Prop) : Prop := ∀ (AA : LdA) (CC : LdC) (MM : MdC) (f : Nat → Int) (x1 x2 x3 : Int), ldA qd AA CC → R CC MM → r32 x1 → r32 x2 → r32 x3 →
  vl_object AA CC MM f x1 x2 x3 R ∧ vl_allowed AA CC MM f x1 x2 x3 R ∧ vl_lamp AA CC MM f x1 x2 x3 R ∧ vl_shines AA CC MM f x1 x2 x3 R ∧ vl_daylight AA CC MM f x1 x2 x3 R ∧ vl_shown AA CC MM f x1 x2 x3 R ∧ vl_presence AA CC MM f x1 x2 x3 R ∧ vl_meter AA CC MM f x1 x2 x3 R ∧ vl_flash AA CC MM f x1 x2 x3 R ∧ vl_sum AA CC MM f x1 x2 x3 R ∧ vl_rest AA CC MM f x1 x2 x3 R ∧ vl_left AA CC MM f x1 x2 x3 R ∧ vl_plan AA CC MM f x1 x2 x3 R ∧ vl_breaches AA CC MM f x1 x2 x3 R ∧ vl_breach AA CC MM f x1 x2 x3 R ∧ vl_page AA CC MM f x1 x2 x3 R ∧ vl_rotate AA CC MM f x1 x2 x3 R ∧ vl_turned AA CC MM f x1 x2 x3 R ∧ vl_count AA CC MM f x1 x2 x3 R
theorem lwSteps (qd : Nat) : LwSteps qd Rl := fun AA CC MM f x1 x2 x3 hA h r1 r2 r3 =>
  ⟨st_object h hA r1, st_allowed h r1 r2, st_lamp h hA r1, st_shines h r1 r2 r3, st_daylight h r1 r2, st_shown h r1 r2 r3, st_presence h r1 r2, st_meter h r1 r2 r3, st_flash h r1 r2 r3, st_sum h r1 r2 r3, st_rest h, st_left h r1 r2, st_plan h r1 r2 r3, st_breaches h, st_breach h r1 r2, st_page h r1, st_rotate h r1, st_turned h r1, st_count h r1⟩
theorem s_LD_init : vc_LD_init (fun b d1 d2 f1 f2 f3 fn g1 g2 gn k1 k2 kp kn => (∀ i, i < 6 → b i = -1) ∧ d1 = (fun _ => 0) ∧ d2 = (fun _ => 0) ∧ fn = 0 ∧ gn = 0 ∧ kp = 0 ∧ kn = 0) := by
  unfold vc_LD_init
  refine ⟨True, ?_, fun _ => ⟨True, ?_, fun _ => ⟨fun b => ∀ i, i < 6 → b i = -1, ?_, fun b hb => ⟨fun a b => a = (fun _ => 0) ∧ b = (fun _ => 0), ⟨rfl, rfl⟩, ?_⟩⟩⟩⟩
  · simp only [vc_AL_init, vc_AbL_init, vc_AbC_init, al_T]
  · simp only [vc_AL_init, vc_AbL_init, vc_AbC_init, al_T]
  · unfold vc_Ars_fill
    refine ⟨fun i g => ∃ k : Nat, i = k ∧ k ≤ 6 ∧ ∀ j, j < k → g j = -1, fun i _ => 6 - i.toNat, ⟨0, rfl, by omega, fun j hj => by omega⟩, ?_⟩
    rintro i g ⟨k, rfl, hk, hg⟩
    refine ⟨⟨by omega, by omega⟩, fun q j hj => hg j (by omega), fun q => ⟨⟨by omega, by omega⟩, ⟨k + 1, by omega, by omega, fun j hj => ?_⟩, by dsimp only; omega⟩⟩
    rw [Int.toNat_natCast]
    by_cases e : j = k
    · rw [e, up_self]
    · rw [up_ne e]; exact hg j (by omega)
  · rintro d1 d2 ⟨rfl, rfl⟩
    refine ⟨fun _ _ _ n => n = 0, rfl, ?_⟩
    rintro f1 f2 f3 fn rfl
    refine ⟨fun _ _ n => n = 0, rfl, ?_⟩
    rintro g1 g2 gn rfl
    refine ⟨fun _ _ a b => a = 0 ∧ b = 0, ⟨rfl, rfl⟩, ?_⟩
    rintro k1 k2 kp kn ⟨rfl, rfl⟩
    exact ⟨hb, rfl, rfl, rfl, rfl, rfl, rfl⟩
theorem s_Md_init : vc_Md_init (fun th no ca ba nl xa sa da la ra fa ta ua uh uo ma mh ml nf fo fh fs rs ic mn bh bo ya np pa nc cp => no = 0 ∧ (∀ i, i < 6 → ba i = -1) ∧ nl = 0 ∧ sa = (fun _ => 0) ∧ da = (fun _ => 0) ∧ ra = (fun _ => 0) ∧ ua = (fun _ => 0) ∧ ma = (fun _ => 0) ∧ nf = 0 ∧ rs = 0 ∧ ic = 0 ∧ np = 0 ∧ pa = (fun _ => 0) ∧ nc = 0) := by
  unfold vc_Md_init
  refine ⟨fun i g => ∃ k : Nat, i = k ∧ k ≤ 6 ∧ ∀ j, j < k → g j = -1, fun i _ => 6 - i.toNat, ⟨0, rfl, by omega, fun j hj => by omega⟩, ?_⟩
  rintro i g ⟨k, rfl, hk, hg⟩
  refine ⟨⟨by omega, by omega⟩, fun q => ⟨rfl, fun j hj => hg j (by omega), rfl, rfl, rfl, rfl, rfl, rfl, rfl, rfl, rfl, rfl, rfl, rfl⟩, fun q => ⟨⟨by omega, by omega⟩, ⟨k + 1, by omega, by omega, fun j hj => ?_⟩, by dsimp only; omega⟩⟩
  rw [Int.toNat_natCast]
  by_cases e : j = k
  · rw [e, up_self]
  · rw [up_ne e]; exact hg j (by omega)
/-- at first both are empty -/
theorem Rl_first {C : LdC} {M : MdC} (c1 : C.no = 0) (c2 : C.nl = 0) (c3 : C.fr = 0) (c4 : C.po = 0) (hC : (∀ i, i < 6 → C.ba i = -1) ∧ C.dl = (fun _ => 0) ∧ C.ds = (fun _ => 0) ∧ C.fn = 0 ∧ C.bn = 0 ∧ C.kp = 0 ∧ C.kn = 0)
    (hM : M.no = 0 ∧ (∀ i, i < 6 → M.ba i = -1) ∧ M.nl = 0 ∧ M.sa = (fun _ => 0) ∧ M.da = (fun _ => 0) ∧ M.ra = (fun _ => 0) ∧ M.ua = (fun _ => 0) ∧ M.ma = (fun _ => 0) ∧ M.nf = 0 ∧ M.rs = 0 ∧ M.ic = 0 ∧ M.np = 0 ∧ M.pa = (fun _ => 0) ∧ M.nc = 0) : Rl C M := by
  obtain ⟨a1, a2, a3, a4, a5, a6, a7⟩ := hC
  obtain ⟨b1, b2, b3, b4, b5, b6, b7, b8, b9, b10, b11, b12, b13, b14⟩ := hM
  have z : ∀ k, sg (fun _ => 0) k = 0 := sg_zero
  refine ⟨⟨by omega, by omega⟩, ⟨by omega, by omega⟩, ⟨Or.inl c3, Or.inl b11⟩, ⟨by omega, by omega, by omega⟩, ⟨fun i hi => by rw [a1 i hi]; decide, fun i hi => by rw [a1 i hi, b2 i hi]⟩, ⟨⟨fun t ht => by rw [a2]; exact ⟨Int.le_refl 0, show (0 : Int) ≤ 5000 by decide⟩, fun k hk => by rw [a2, a3, z]⟩, fun t ht => by rw [a2, b5]⟩, ⟨by omega, ⟨by omega, fun i hi => by omega⟩, by omega, fun i hi => by omega⟩, ⟨fun o ho => by omega, fun o _ _ => ⟨by rw [b6], fun j _ => by rw [b4]⟩⟩, ⟨fun j hj => by omega, fun j _ _ => ⟨by rw [b7], by rw [b8]⟩⟩, ⟨by omega, ⟨by omega, fun i hi => by omega⟩, by omega, fun i hi => by omega, fun i _ _ => by rw [b13]⟩, ⟨by omega, by omega, fun j hj => by omega⟩, fr0 c3, fr0 b11⟩
