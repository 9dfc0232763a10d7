/-! RELATION of the class and the Model. -/
def ObR (C : ExC) (o : Nat) (ca sa ra fa ta : Nat → Int) : Prop := (0 ≤ C.kd ∧ C.kd < 6) ∧ ca o = C.kd ∧ C.en = (C.en.toNat : Int) ∧ ra o = C.en ∧ rowOK C.ef C.et C.en.toNat ∧ (∀ u v, chMap C.ef C.et C.en.toNat u v ↔ chMap (rowF fa o) (rowF ta o) C.en.toNat u v) ∧ ∀ j, j < 8 → (0 ≤ C.es j ∧ C.es j ≤ 1000) ∧ sa (12 * j + o) = C.es j
def LaR (C : LpC) (j : Nat) (xa la ua uh uo ma mh ml : Nat → Int) : Prop := lpCOK C ∧ C.wfst = 1 ∧ xa j = C.mfst ∧ ua j = C.wn ∧ ma j = C.mn ∧ mlOK (lstF uh j) (lstF uo j) C.wn.toNat ∧ (∀ i, i < C.wn.toNat → lstF uo j i = 0 ∨ lstF uo j i = 1) ∧ (∀ u v, chMap C.wh C.wv C.wn.toNat u v ↔ chMap (lstF uh j) (lstF uo j) C.wn.toNat u v) ∧ mlOK (lstF mh j) (lstF ml j) C.mn.toNat ∧ (∀ u v, chMap C.mh C.mv C.mn.toNat u v ↔ chMap (lstF mh j) (lstF ml j) C.mn.toNat u v) ∧ ∀ h, h < 26280 → la (26280 * j + h) = lxC C h
def FlR (fo fh fs : Nat → Int) (fn : Int) (fo' fh' fs' : Nat → Int) (nf : Int) : Prop := fn = (fn.toNat : Int) ∧ flOK fo fh fs fn.toNat ∧ nf = fn ∧ ∀ i, i < fn.toNat → fo' i = fo i ∧ fh' i = fh i ∧ fs' i = fs i
def BkR (kh : Nat → Int) (kp : Int) (pa : Nat → Int) (np : Int) : Prop := kp = (kp.toNat : Int) ∧ bkOK kh kp.toNat ∧ np = kp ∧ (∀ i, i < kp.toNat → pa i = kh i) ∧ ∀ i, kp.toNat ≤ i → i < 12 → pa i = 0
def KcR (kc : Nat → Int) (kn : Int) (cp : Nat → Int) (nc : Int) : Prop := (0 ≤ kn ∧ kn ≤ 12) ∧ nc = kn ∧ ∀ j : Nat, (j : Int) < kn → cp j = kc j ∧ r32 (kc j)
def CaC (C : LdC) : Prop := C.fr = 1 → ∃ n : Nat, C.bn = n ∧ brRun (hasC C.ba C.dl C.nl C.LC C.fo C.fh C.fs C.fn.toNat C.EC) (hrC C.ba C.dl C.nl C.LC C.fo C.fh C.fs C.fn.toNat C.EC) (3 * C.no) C.bh C.bo n
def CaM (M : MdC) : Prop := M.ic = 1 → ∃ n : Nat, M.mn = n ∧ brRun (hasM M.ca M.ba M.sa M.da M.la M.ra M.fa M.ta M.fo M.fh M.fs M.nl.toNat M.nf.toNat) (hrM M.ca M.ba M.sa M.da M.la M.ra M.fa M.ta M.fo M.fh M.fs M.nl.toNat M.nf.toNat) (3 * M.no.toNat) M.bh M.bo n
/-- the class and the Model stand alike -/
def Rl (C : LdC) (M : MdC) : Prop :=
  (C.no ≤ 12 ∧ M.no = C.no) ∧ (C.nl ≤ 8 ∧ M.nl = C.nl) ∧ ((C.fr = 0 ∨ C.fr = 1) ∧ (M.ic = 0 ∨ M.ic = 1)) ∧ (M.rs = C.po ∧ 0 ≤ C.po ∧ C.po < 3600000) ∧
  (baOK C.ba ∧ ∀ i, i < 6 → M.ba i = C.ba i) ∧ (dyOK C.dl C.ds ∧ ∀ t, t < 24 → M.da t = C.dl t) ∧ FlR C.fo C.fh C.fs C.fn M.fo M.fh M.fs M.nf ∧
  ((∀ o, o < C.no → ObR (C.EC o) o M.ca M.sa M.ra M.fa M.ta) ∧ ∀ o, C.no ≤ o → o < 12 → M.ra o = 0 ∧ ∀ j, j < 8 → M.sa (12 * j + o) = 0) ∧
  ((∀ j, j < C.nl → LaR (C.LC j) j M.xa M.la M.ua M.uh M.uo M.ma M.mh M.ml) ∧ ∀ j, C.nl ≤ j → j < 8 → M.ua j = 0 ∧ M.ma j = 0) ∧
  BkR C.kh C.kp M.pa M.np ∧ KcR C.kc C.kn M.cp M.nc ∧ CaC C ∧ CaM M
theorem flSum_congr {fo fh fs fo' fh' fs' : Nat → Int} {ob a b : Int} {N : Nat} (e : ∀ i, i < N → fo' i = fo i ∧ fh' i = fh i ∧ fs' i = fs i) : flSum fo' fh' fs' ob a b N = flSum fo fh fs ob a b N :=
  sg_congr (fun i hi => by obtain ⟨a, b, c⟩ := e i hi; rw [a, b, c])
theorem got_congr {B B' : Nat → Int} {sh sh' : Nat → Bool} {fo fh fs fo' fh' fs' : Nat → Int} {N a b : Nat} {ob : Int} (hab : a ≤ b) (hb : b ≤ 26280) (eB : ∀ h, h < 26280 → B' h = B h) (eS : ∀ h, h < 26280 → sh' h = sh h) (e : ∀ i, i < N → fo' i = fo i ∧ fh' i = fh i ∧ fs' i = fs i) : got B' sh' fo' fh' fs' N ob a b = got B sh fo fh fs N ob a b := by
  unfold got
  rw [flSum_congr e, rg_congr hab (f := Wt B' sh') (g := Wt B sh) (fun h _ q => by unfold Wt; rw [eB h (by omega), eS h (by omega)])]
section REL
variable {C : LdC} {M : MdC}
theorem Rl.exOK (h : Rl C M) {o : Nat} (ho : o < C.no) : exCOK C.dl C.ds C.nl C.LC (C.EC o) := by
  obtain ⟨h1, h2, h3, h4, h5, h6, h7, h8, h9, h10, h11, h12, h13⟩ := h
  obtain ⟨o1, o2, o3, o4, o5, o6, o7⟩ := h8.1 o ho
  exact ⟨⟨h6.1, h2.1, fun l hl => (o7 l (by omega)).1, fun l hl => (h9.1 l hl).1⟩, o5, o3, o1⟩
theorem Rl.mdOK (h : Rl C M) : mdOK M.da M.sa M.la C.nl := by
  obtain ⟨h1, h2, h3, h4, h5, h6, h7, h8, h9, h10, h11, h12, h13⟩ := h
  refine ⟨h2.1, fun t ht => by rw [h6.2 t ht]; exact h6.1.1 t ht, fun k hk => ?_, fun k hk => ?_⟩
  · have e : k = 12 * (k / 12) + k % 12 := by omega
    rcases Nat.lt_or_ge (k % 12) C.no with u | u
    · obtain ⟨o1, o2, o3, o4, o5, o6, o7⟩ := h8.1 (k % 12) u
      have := o7 (k / 12) (by omega)
      rw [← e] at this
      rw [this.2]; exact this.1
    · have := (h8.2 (k % 12) u (by omega)).2 (k / 12) (by omega)
      rw [← e] at this
      rw [this]; decide
  · have e : k = 26280 * (k / 26280) + k % 26280 := by omega
    obtain ⟨a1, a2, a3, a4, a5, a6, a7, a8, a9, a10, a11⟩ := h9.1 (k / 26280) (by omega)
    have := a11 (k % 26280) (by omega)
    rw [← e] at this
    rw [this]
    exact lxC_range a1
theorem Rl.all (h : Rl C M) : mdAll M.no M.ca M.ba M.nl M.sa M.da M.la M.ra M.fa M.ta M.nf M.fo M.fh M.fs := by
  have hm := h.mdOK
  obtain ⟨h1, h2, h3, h4, h5, h6, h7, h8, h9, h10, h11, h12, h13⟩ := h
  obtain ⟨f1, f2, f3, f4⟩ := h7
  refine ⟨⟨by omega, by omega, fun o ho => ?_⟩, fun i hi => by rw [h5.2 i hi]; exact h5.1 i hi, by omega, by omega, ?_, ?_⟩
  · obtain ⟨o1, o2, o3, o4, o5, o6, o7⟩ := h8.1 o (by omega)
    have := o5.1
    refine ⟨by rw [o2]; exact o1, by rw [o4]; omega, fun k hk => ?_⟩
    obtain ⟨i, i1, i2, i3⟩ := (o6 _ _).mpr ⟨k, by omega, rfl, rfl⟩
    have := o5.2.2 i i1
    exact ⟨⟨by omega, by omega⟩, ⟨by omega, by omega⟩⟩
  · rw [show M.nl.toNat = C.nl by omega]; exact hm
  · rw [show M.nf.toNat = C.fn.toNat by omega]
    refine ⟨f2.1, fun i hi => ?_⟩
    obtain ⟨e1, e2, e3⟩ := f4 i hi
    rw [e1, e2, e3]; exact f2.2 i hi
theorem Rl.B (h : Rl C M) {o : Nat} (ho : o < C.no) : ∀ k, k < 26280 → mdB M.da M.sa M.la C.nl o k = exB C.dl (C.EC o).es C.nl C.LC k := by
  obtain ⟨h1, h2, h3, h4, h5, h6, h7, h8, h9, h10, h11, h12, h13⟩ := h
  intro k hk
  obtain ⟨o1, o2, o3, o4, o5, o6, o7⟩ := h8.1 o ho
  exact Brt_congr h6.2 (fun l hl => (o7 l (by omega)).2) (fun l hl => by
    obtain ⟨a1, a2, a3, a4, a5, a6, a7, a8, a9, a10, a11⟩ := h9.1 l hl
    exact a11 k hk)
theorem Rl.sh (h : Rl C M) {o : Nat} (ho : o < C.no) : ∀ k, shB (rowF M.fa o) (rowF M.ta o) (M.ra o).toNat k = shB (C.EC o).ef (C.EC o).et (C.EC o).en.toNat k := by
  obtain ⟨h1, h2, h3, h4, h5, h6, h7, h8, h9, h10, h11, h12, h13⟩ := h
  intro k
  obtain ⟨o1, o2, o3, o4, o5, o6, o7⟩ := h8.1 o ho
  rw [o4]
  exact (shB_map o6).symm
theorem Rl.got (h : Rl C M) {o a b : Nat} (ho : o < C.no) (hab : a ≤ b) (hb : b ≤ 26280) : gotM M.sa M.da M.la M.ra M.fa M.ta M.fo M.fh M.fs M.nl.toNat M.nf.toNat o a b = gotC C.dl C.nl C.LC C.fo C.fh C.fs C.fn.toNat (C.EC o) o a b := by
  have hB := h.B ho
  have hS := h.sh ho
  obtain ⟨h1, h2, h3, h4, h5, h6, h7, h8, h9, h10, h11, h12, h13⟩ := h
  obtain ⟨f1, f2, f3, f4⟩ := h7
  rw [show M.nl.toNat = C.nl by omega, show M.nf.toNat = C.fn.toNat by omega]
  exact got_congr hab hb hB (fun k _ => hS k) f4
theorem Rl.bd (h : Rl C M) {o : Nat} (ho : o < C.no) : M.ba (M.ca o).toNat = C.ba (C.EC o).kd.toNat := by
  obtain ⟨h1, h2, h3, h4, h5, h6, h7, h8, h9, h10, h11, h12, h13⟩ := h
  obtain ⟨o1, o2, o3, o4, o5, o6, o7⟩ := h8.1 o ho
  rw [o2, h5.2 _ (by omega)]
theorem Rl.has (h : Rl C M) {o y : Nat} (ho : o < C.no) (hy : y < 3) : hasM M.ca M.ba M.sa M.da M.la M.ra M.fa M.ta M.fo M.fh M.fs M.nl.toNat M.nf.toNat o y ↔ hasC C.ba C.dl C.nl C.LC C.fo C.fh C.fs C.fn.toNat C.EC o y := by
  unfold hasM hasC
  rw [h.bd ho, h.got ho (by omega) (by omega)]
theorem brIs_congr {G G' : Nat → Int} {b : Int} {y : Nat} {z : Int} (e : ∀ k, 8760 * y ≤ k → k ≤ 8760 * y + 8760 → G k = G' k) (h : brIs G b y z) : brIs G' b y z := by
  obtain ⟨k, k0, k1, k2, k3, k4⟩ := h
  exact ⟨k, k0, k1, k2, by rw [← e k (by omega) (by omega)]; exact k3, by rw [← e (k + 1) (by omega) (by omega)]; exact k4⟩
theorem Rl.hr (h : Rl C M) {o y : Nat} {z : Int} (ho : o < C.no) (hy : y < 3) (q : hrM M.ca M.ba M.sa M.da M.la M.ra M.fa M.ta M.fo M.fh M.fs M.nl.toNat M.nf.toNat o y z) : hrC C.ba C.dl C.nl C.LC C.fo C.fh C.fs C.fn.toNat C.EC o y z := by
  unfold hrM at q
  rw [h.bd ho] at q
  exact brIs_congr (fun k k1 k2 => h.got ho k1 (by omega)) q
/-- both have found the same breaches -/
theorem Rl.br (h : Rl C M) {gh go gh' go' : Nat → Int} {n n' : Nat} (a : brRun (hasC C.ba C.dl C.nl C.LC C.fo C.fh C.fs C.fn.toNat C.EC) (hrC C.ba C.dl C.nl C.LC C.fo C.fh C.fs C.fn.toNat C.EC) (3 * C.no) gh go n)
    (b : brRun (hasM M.ca M.ba M.sa M.da M.la M.ra M.fa M.ta M.fo M.fh M.fs M.nl.toNat M.nf.toNat) (hrM M.ca M.ba M.sa M.da M.la M.ra M.fa M.ta M.fo M.fh M.fs M.nl.toNat M.nf.toNat) (3 * M.no.toNat) gh' go' n') : n ≤ 36 ∧ n = n' ∧ ∀ j, j < n → (gh j = gh' j ∧ go j = go' j) ∧ r32 (gh j) ∧ r32 (go j) := by
  have hno : M.no = C.no := h.1.2
  have hno2 : C.no ≤ 12 := h.1.1
  rw [show M.no.toNat = C.no by omega] at b
  have b2 := brRun_congr (fun q y y1 y2 => h.has (by omega) y1) (fun q y z y1 y2 _ hz => h.hr (by omega) y1 hz) b
  have hfl : flOK C.fo C.fh C.fs C.fn.toNat := h.2.2.2.2.2.2.1.2.1
  have hex : ∀ o, o < C.no → exCOK C.dl C.ds C.nl C.LC (C.EC o) := fun o ho => h.exOK ho
  obtain ⟨f1, f2, f3⟩ := brRun_facts (fun o y z hy hz => hrC_range hy hz) a
  have u : n = n' ∧ ∀ j, j < n → gh j = gh' j ∧ go j = go' j := by
    refine brRun_one (has := hasC C.ba C.dl C.nl C.LC C.fo C.fh C.fs C.fn.toNat C.EC) (hr := fun o y z => o < C.no ∧ hrC C.ba C.dl C.nl C.LC C.fo C.fh C.fs C.fn.toNat C.EC o y z) (fun o y z z' hy q1 q2 => ?_) (brRun_congr (fun _ _ _ _ => Iff.rfl) (fun q y z y1 y2 _ hz => ⟨by omega, hz⟩) a) (brRun_congr (fun _ _ _ _ => Iff.rfl) (fun q y z y1 y2 _ hz => ⟨by omega, hz⟩) b2)
    exact brIs_one (fun p r h1 h2 => got_mono (fun k hk => (exB_range (hex o q1.1).1).1) hfl h1 (by omega)) q1.2 q2.2
  refine ⟨by omega, u.1, fun j hj => ⟨u.2 j hj, ?_⟩⟩
  have := f3 j hj
  exact ⟨⟨by omega, by omega⟩, ⟨by omega, by omega⟩⟩
end REL
