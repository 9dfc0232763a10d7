/-! WORLDS OF THE LAW: counting cells, the class's cells, handlers, calls of methods with handlers. -/
noncomputable def cnt {α : Type} (a : α) (l : List α) : Nat := letI : DecidableEq α := fun x y => Classical.propDecidable (x = y); l.count a
noncomputable def oneOf {α : Type} (a b : α) : Nat := cnt a [b]
theorem cnt_nil {α : Type} (a : α) : cnt a ([] : List α) = 0 := rfl
theorem cnt_app {α : Type} (a : α) (l l' : List α) : cnt a (l ++ l') = cnt a l + cnt a l' := by
  unfold cnt; letI : DecidableEq α := fun x y => Classical.propDecidable (x = y); exact List.count_append
theorem cnt_cons {α : Type} (a b : α) (l : List α) : cnt a (b :: l) = oneOf a b + cnt a l := cnt_app a [b] l
theorem perm_cnt {α : Type} {l l' : List α} (h : ∀ a, cnt a l = cnt a l') : l.Perm l' := by
  letI : DecidableEq α := fun x y => Classical.propDecidable (x = y)
  refine List.perm_iff_count.mpr (fun a => ?_)
  have := h a
  unfold cnt at this
  exact this
theorem cnt_perm {α : Type} {l l' : List α} (h : l.Perm l') (a : α) : cnt a l = cnt a l' := by
  unfold cnt; letI : DecidableEq α := fun x y => Classical.propDecidable (x = y); exact h.count_eq a
theorem cnt_split (g : Nat → va_W) {n i : Nat} (h : i < n) (a : Nat × va_E) : cnt a (pool g n) = cnt a (g i) + cnt a (poolBut g n i) := by
  rw [cnt_perm (pool_split g h) a, cnt_app]
theorem cnt_put {g g' : Nat → va_W} {n i : Nat} (h : i < n) (hg : ∀ j, j < n → j ≠ i → g j = g' j) (a : Nat × va_E) : cnt a (pool g' n) = cnt a (g' i) + cnt a (poolBut g n i) := by
  rw [← cnt_perm (pool_put h hg) a, cnt_app]
theorem nv_apart {A : Nat → Prop} {wc wr : va_W} {q : Nat × va_E} (hD : va_D A (wc ++ wr)) (hq : q ∈ wr) : q.1 ∉ wc.map Prod.fst := by
  intro h
  have hn := (nv_Dmem.mp hD).1
  rw [List.map_append, List.nodup_append] at hn
  exact hn.2.2 q.1 h q.1 (List.mem_map.mpr ⟨q, hq, rfl⟩) rfl
/-- rows of a table of handlers, up to the one that takes X -/
def nv_fnd (args : Array Value) (s : State) (own X : String) (pc hpc : Nat) : List (Nat × Nat × Nat × Nat) → Prop
  | [] => False
  | x :: r => (x.1 ≤ pc ∧ pc < x.2.1) ∧ x.2.2.2 ≠ 0 ∧ ∃ nm, (Cond.classLink own x.2.2.2 nm).before args s = true ∧ (((Cond.castable X nm).before args s = true ∧ x.2.2.1 = hpc) ∨ (va_Nc X nm s ∧ nv_fnd args s own X pc hpc r))
theorem nv_finds {l : Launch} {e : Env} {args : Array Value} {s : State} {own X : String} {m : MethodId} {pc hpc : Nat} (had : l.admits e) (hown : s.vm.findClass own = some m.cls) {cX : ClassId} (hX : s.vm.findClass X = some cX) : ∀ (tab : List ExceptionTableEntry) (hh : List (Nat × Nat × Nat × Nat)), tab.map (fun h => (h.startPc, h.endPc, h.handlerPc, h.catchType)) = hh → nv_fnd args s own X pc hpc hh → th_finds e.platform s m.cls pc cX hpc tab
  | [], hh, e1, h => by subst e1; exact h
  | x :: t, hh, e1, h => by
    subst e1
    have hpl : e.platform.magicAccessors = ({} : Platform).magicAccessors := by rw [had.platform]
    obtain ⟨⟨h1, h2⟩, h3, nm, h4, h5⟩ := h
    obtain ⟨c5, hc5, hcl5⟩ := Cond.classLink_spec hown h4 e.platform hpl
    refine ⟨by simp only [covers]; simpa using ⟨h1, h2⟩, h3, c5, hcl5, ?_⟩
    rcases h5 with ⟨h6, h7⟩ | ⟨h6, h7⟩
    · obtain ⟨c3, c4, hc3, hc4, hasg⟩ := Cond.castable_spec h6
      cases Option.some.inj (hc3.symm.trans hX)
      cases Option.some.inj (hc4.symm.trans hc5)
      exact Or.inl ⟨hasg, h7⟩
    · obtain ⟨a8, b8, q1, q2, q3⟩ := h6
      cases Option.some.inj (q1.symm.trans hX)
      cases Option.some.inj (q2.symm.trans hc5)
      exact Or.inr ⟨q3, nv_finds had hown hX t _ rfl h7⟩
theorem nv_table {p : Program} {l : Launch} {y : MethodName} {ws : List Cond} {rm : Room} {cc : ByteArray} {maxL : Nat} {ret : Option FieldType} {hh : List (Nat × Nat × Nat × Nat)} {e : Env} {s : State} {m : MethodId} {args : Array Value} {below : List Frame} {meth : Method} {c : Code} {s₁ : State} (B : BodyLoose p l y (headSpec (Cond.codeWith y cc maxL ret hh :: ws) rm) cc maxL ret e s m args below meth c s₁) (h : ∀ w ∈ (Cond.codeWith y cc maxL ret hh :: ws), w.before args s = true) : c.exceptionTable.toList.map (fun h => (h.startPc, h.endPc, h.handlerPc, h.catchType)) = hh := by
  obtain ⟨m', meth', c', h0, h1, h2, -, -, h5, -, -, -⟩ := Cond.codeWith_spec (h _ List.mem_cons_self)
  cases h0.symm.trans B.named
  have e1 : meth' = meth := Option.some.inj (h1.symm.trans B.method)
  subst e1
  have e2 : c' = c := Option.some.inj (h2.symm.trans (Stand.of_body B).code)
  subst e2
  exact h5
def evNs : List (String × String) := [("java/lang/IllegalStateException", "java/lang/IndexOutOfBoundsException"), ("java/lang/IllegalArgumentException", "java/lang/IndexOutOfBoundsException"), ("java/lang/IllegalArgumentException", "java/lang/IllegalStateException"), ("java/lang/IndexOutOfBoundsException", "java/lang/IllegalStateException"), ("java/lang/IndexOutOfBoundsException", "java/lang/IllegalArgumentException"), ("java/lang/IllegalStateException", "java/lang/IllegalArgumentException")]
def EvN (Z : State) : Prop := ∀ x ∈ evNs, va_Nc x.1 x.2 Z
theorem gdSW {own : String} {idx : Nat} {y : MethodName} {cw : Cond} (h5 : cw ∈ TG) : GoodIn TG (cw :: TG) := tg_good h5
section SW
variable {p : Program} {l : Launch} {e : Env} {R : Room} {s : State} {m : MethodId} {args : Array Value} {below : List Frame} {meth : Method} {c : Code} {H : Heap} {locs : List Loc} {cells slots : Nat} {Q : State → Prop}
variable {y : MethodName} {bytes cc : ByteArray} {maxL nL mc ms n index : Nat} {ret : Option FieldType} {hh : List (Nat × Nat × Nat × Nat)} {rm : Room} {Pc : Array Value → State → Prop} {Qc : Array Value → State → Outcome → State → Prop} {free : Addr → Prop} {own : String} {As rest : List Value} {g : JFrame}
/-- a call of a static method with handlers -/
theorem nv_runSW (S : CallFix p m c cc nL s args TG own) (hM : Met l y (Cond.codeWith y bytes maxL ret hh :: TG) rm Pc Qc mc ms free) (hts : ∀ w ∈ TG, w.before args s = true) (h1 : Cond.methodLink own index y ∈ TG) (h2 : Cond.static y ∈ TG) (h3 : Cond.initialized y.cls ∈ TG) (h5 : Cond.codeWith y bytes maxL ret hh ∈ TG) (hrc : rm.cells = mc) (hrs : rm.slots = ms)
    (hd : y.cls ≠ "java/lang/invoke/MethodHandle" ∧ y.cls ≠ "java/lang/invoke/VarHandle" ∧ (parseMethodDescriptor y.desc).map (fun d => d.parameters.length) = some n) (hR : rm.frames + 1 ≤ R.frames ∧ 8 + (maxL + 11) + rm.locals ≤ R.locals) (hp : PreS s H Pc As)
    (hg : g.method = m) (hn : As.length = n) (hsize : g.locals.size = nL) (hstack : g.stack = As.reverse ++ rest) (hW : 2 * g.monitorRoom + (rest.map fun v => v.category).sum ≤ 8) (hdg : decode cc g.pc = .ok (.invokestatic index, 3)) (hf : cells + mc ≤ R.cells ∧ slots + ms ≤ R.slots) :
    va_Run p l e R s m args below meth c H locs cells slots mc ms g rest (Qc As.toArray) (free) := by
  have hG : GoodIn TG (Cond.codeWith y bytes maxL ret hh :: TG) := tg_good h5
  have hK : Back l R p e below s args y 3 8 (PreOf R mc ms Pc) (PostOf Qc mc ms free) := va_backW (hh := hh) (bytes := bytes) (maxL := maxL) (ret := ret) hM hp.1 hrc hrs hR.1 hR.2 (pay_in hts hG) List.mem_cons_self (fun a' U hW => word_at hW (tg_ok h3) (hts _ h3))
  obtain ⟨hx, hb, hml, ho, -⟩ := S
  intro T hT X
  obtain ⟨v, vm₁, ⟨U', l2, c2, s2⟩, hW₁, X', ⟨g', mk, t, L, e1, e2, hq, q1, hL, q2, q3⟩, st⟩ := th_callSW X hx (bytes := bytes) (maxL := maxL) (ret := ret) (hh := hh) ho (hts _ h1) (hts _ h2) (hts _ h3) (hts _ h5) ⟨hd.1, hd.2.1⟩ hK hg (hsize.trans hml.symm) (argsL := As) (rest := rest) (fun sig h => hn.trans (by
      have h9 := hd.2.2
      rw [h] at h9
      exact (Option.some.inj h9).symm)) hstack hW (by rw [hb]; exact hdg)
    (fun vm₁ hW₁ => ⟨hf.1, hf.2, hp.2 (T.setVm vm₁) hT hW₁⟩)
  dsimp only [Pt.U, Pt.locs, Pt.cells, Pt.slots] at X' e1 e2 q1 q2 q3 st
  subst q1; subst q2; subst q3
  exact ⟨v, (T.setVm vm₁).calling g' mk As.toArray, t, U', L, hT, X', hL, e1, e2, hq, st⟩
end SW
abbrev LdA : Type := Nat × Nat × Nat × Nat × Nat × Nat × Nat × Nat × Nat × Nat × Nat × Nat × Nat × Nat × Nat × Nat × Nat × Nat × Nat × Nat × Nat × (Nat → Option Nat) × (Nat → Option Nat) × (Nat → ExA) × (Nat → LpA) × Int × Int
abbrev LdA.h0 (C : LdA) : Nat := C.1
abbrev LdA.x1 (C : LdA) : Nat := C.2.1
abbrev LdA.x2 (C : LdA) : Nat := C.2.2.1
abbrev LdA.y1 (C : LdA) : Nat := C.2.2.2.1
abbrev LdA.y2 (C : LdA) : Nat := C.2.2.2.2.1
abbrev LdA.al (C : LdA) : Nat := C.2.2.2.2.2.1
abbrev LdA.dy (C : LdA) : Nat := C.2.2.2.2.2.2.1
abbrev LdA.dy1 (C : LdA) : Nat := C.2.2.2.2.2.2.2.1
abbrev LdA.dy2 (C : LdA) : Nat := C.2.2.2.2.2.2.2.2.1
abbrev LdA.fl (C : LdA) : Nat := C.2.2.2.2.2.2.2.2.2.1
abbrev LdA.fl1 (C : LdA) : Nat := C.2.2.2.2.2.2.2.2.2.2.1
abbrev LdA.fl2 (C : LdA) : Nat := C.2.2.2.2.2.2.2.2.2.2.2.1
abbrev LdA.fl3 (C : LdA) : Nat := C.2.2.2.2.2.2.2.2.2.2.2.2.1
abbrev LdA.br (C : LdA) : Nat := C.2.2.2.2.2.2.2.2.2.2.2.2.2.1
abbrev LdA.br1 (C : LdA) : Nat := C.2.2.2.2.2.2.2.2.2.2.2.2.2.2.1
abbrev LdA.br2 (C : LdA) : Nat := C.2.2.2.2.2.2.2.2.2.2.2.2.2.2.2.1
abbrev LdA.bk (C : LdA) : Nat := C.2.2.2.2.2.2.2.2.2.2.2.2.2.2.2.2.1
abbrev LdA.bk1 (C : LdA) : Nat := C.2.2.2.2.2.2.2.2.2.2.2.2.2.2.2.2.2.1
abbrev LdA.bk2 (C : LdA) : Nat := C.2.2.2.2.2.2.2.2.2.2.2.2.2.2.2.2.2.2.1
abbrev LdA.xc (C : LdA) : Nat := C.2.2.2.2.2.2.2.2.2.2.2.2.2.2.2.2.2.2.2.1
abbrev LdA.yc (C : LdA) : Nat := C.2.2.2.2.2.2.2.2.2.2.2.2.2.2.2.2.2.2.2.2.1
abbrev LdA.xf (C : LdA) : Nat → Option Nat := C.2.2.2.2.2.2.2.2.2.2.2.2.2.2.2.2.2.2.2.2.2.1
abbrev LdA.yf (C : LdA) : Nat → Option Nat := C.2.2.2.2.2.2.2.2.2.2.2.2.2.2.2.2.2.2.2.2.2.2.1
abbrev LdA.EA (C : LdA) : Nat → ExA := C.2.2.2.2.2.2.2.2.2.2.2.2.2.2.2.2.2.2.2.2.2.2.2.1
abbrev LdA.LA (C : LdA) : Nat → LpA := C.2.2.2.2.2.2.2.2.2.2.2.2.2.2.2.2.2.2.2.2.2.2.2.2.1
abbrev LdA.xm (C : LdA) : Int := C.2.2.2.2.2.2.2.2.2.2.2.2.2.2.2.2.2.2.2.2.2.2.2.2.2.1
abbrev LdA.ym (C : LdA) : Int := C.2.2.2.2.2.2.2.2.2.2.2.2.2.2.2.2.2.2.2.2.2.2.2.2.2.2
abbrev LdC : Type := Nat × Nat × Int × Int × (Nat → Int) × (Nat → Int) × (Nat → Int) × (Nat → Int) × (Nat → Int) × (Nat → Int) × Int × (Nat → Int) × (Nat → Int) × Int × (Nat → Int) × (Nat → Int) × Int × Int × (Nat → ExC) × (Nat → LpC)
abbrev LdC.no (C : LdC) : Nat := C.1
abbrev LdC.nl (C : LdC) : Nat := C.2.1
abbrev LdC.fr (C : LdC) : Int := C.2.2.1
abbrev LdC.po (C : LdC) : Int := C.2.2.2.1
abbrev LdC.ba (C : LdC) : Nat → Int := C.2.2.2.2.1
abbrev LdC.dl (C : LdC) : Nat → Int := C.2.2.2.2.2.1
abbrev LdC.ds (C : LdC) : Nat → Int := C.2.2.2.2.2.2.1
abbrev LdC.fo (C : LdC) : Nat → Int := C.2.2.2.2.2.2.2.1
abbrev LdC.fh (C : LdC) : Nat → Int := C.2.2.2.2.2.2.2.2.1
abbrev LdC.fs (C : LdC) : Nat → Int := C.2.2.2.2.2.2.2.2.2.1
abbrev LdC.fn (C : LdC) : Int := C.2.2.2.2.2.2.2.2.2.2.1
abbrev LdC.bh (C : LdC) : Nat → Int := C.2.2.2.2.2.2.2.2.2.2.2.1
abbrev LdC.bo (C : LdC) : Nat → Int := C.2.2.2.2.2.2.2.2.2.2.2.2.1
abbrev LdC.bn (C : LdC) : Int := C.2.2.2.2.2.2.2.2.2.2.2.2.2.1
abbrev LdC.kh (C : LdC) : Nat → Int := C.2.2.2.2.2.2.2.2.2.2.2.2.2.2.1
abbrev LdC.kc (C : LdC) : Nat → Int := C.2.2.2.2.2.2.2.2.2.2.2.2.2.2.2.1
abbrev LdC.kp (C : LdC) : Int := C.2.2.2.2.2.2.2.2.2.2.2.2.2.2.2.2.1
abbrev LdC.kn (C : LdC) : Int := C.2.2.2.2.2.2.2.2.2.2.2.2.2.2.2.2.2.1
abbrev LdC.EC (C : LdC) : Nat → ExC := C.2.2.2.2.2.2.2.2.2.2.2.2.2.2.2.2.2.2.1
abbrev LdC.LC (C : LdC) : Nat → LpC := C.2.2.2.2.2.2.2.2.2.2.2.2.2.2.2.2.2.2.2
abbrev wBase (cI cJ : ClassId) (A : LdA) (C : LdC) : va_W := [(A.h0, .inr (7, [.ref A.x1, .ref A.y1, .ref A.al, .ref A.dy, .ref A.fl, .ref A.br, .ref A.bk, .int (iI C.fr), .int (iI C.po)])), (A.x1, .inr (9, [.ref A.x2, .int (iI (C.no : Int)), .int (iI A.xm)])), (A.y1, .inr (9, [.ref A.y2, .int (iI (C.nl : Int)), .int (iI A.ym)])), (A.al, .inl (cI, 6, .inl (fun k => iI (C.ba k)))), (A.dy, .inr (3, [.ref A.dy1, .ref A.dy2])), (A.dy1, .inl (cI, 24, .inl (fun k => iI (C.dl k)))), (A.dy2, .inl (cJ, 25, .inr (.inl (fun k => lI (C.ds k))))), (A.fl, .inr (5, [.ref A.fl1, .ref A.fl2, .ref A.fl3, .int (iI C.fn)])), (A.fl1, .inl (cI, 40, .inl (fun k => iI (C.fo k)))), (A.fl2, .inl (cI, 40, .inl (fun k => iI (C.fh k)))), (A.fl3, .inl (cI, 40, .inl (fun k => iI (C.fs k)))), (A.br, .inr (1, [.ref A.br1, .ref A.br2, .int (iI C.bn)])), (A.br1, .inl (cI, 36, .inl (fun k => iI (C.bh k)))), (A.br2, .inl (cI, 36, .inl (fun k => iI (C.bo k)))), (A.bk, .inr (0, [.ref A.bk1, .ref A.bk2, .int (iI C.kp), .int (iI C.kn)])), (A.bk1, .inl (cI, 12, .inl (fun k => iI (C.kh k)))), (A.bk2, .inl (cI, 12, .inl (fun k => iI (C.kc k))))]
abbrev cXA (cO : ClassId) (A : LdA) : Nat × va_E := (A.x2, .inl (cO, A.xc, .inr (.inr (.inr (.inr A.xf)))))
abbrev cYA (cO : ClassId) (A : LdA) : Nat × va_E := (A.y2, .inl (cO, A.yc, .inr (.inr (.inr (.inr A.yf)))))
def arrE (cO : ClassId) (A : LdA) (C : LdC) : va_W := if C.no = 0 then [] else [cXA cO A]
def arrL (cO : ClassId) (A : LdA) (C : LdC) : va_W := if C.nl = 0 then [] else [cYA cO A]
abbrev gEx (cI : ClassId) (A : LdA) (C : LdC) : Nat → va_W := fun i => wEx cI (A.EA i) (C.EC i)
abbrev gLp (cI cJ : ClassId) (A : LdA) (C : LdC) : Nat → va_W := fun i => wLp cI cJ (A.LA i) (C.LC i)
/-- the class's cells -/
def LDW (cI cJ cO : ClassId) (A : LdA) (C : LdC) : va_W := wBase cI cJ A C ++ (arrE cO A C ++ (arrL cO A C ++ (pool (gEx cI A C) C.no ++ pool (gLp cI cJ A C) C.nl)))
/-- the lists and their arrays -/
def ldA (qd : Nat) (A : LdA) (C : LdC) : Prop := (C.no = 0 → A.x2 = qd) ∧ (C.nl = 0 → A.y2 = qd) ∧ (0 < C.no → C.no ≤ A.xc ∧ (A.xc = 10 ∨ A.xc = 15)) ∧ (0 < C.nl → C.nl ≤ A.yc ∧ A.yc = 10) ∧ (∀ k, k < C.no → A.xf k = some (A.EA k).a0) ∧ (∀ k, k < C.nl → A.yf k = some (A.LA k).a0) ∧ C.no ≤ 12 ∧ C.nl ≤ 8 ∧ A.xc ≤ 15 ∧ A.yc ≤ 15
abbrev cOut (cJ : ClassId) (o : Nat) (f : Nat → Int) : Nat × va_E := (o, .inl (cJ, 1, .inr (.inl (fun k => lI (f k)))))
theorem arrE_pos {cO : ClassId} {A : LdA} {C : LdC} (h : 0 < C.no) : arrE cO A C = [cXA cO A] := if_neg (by omega)
theorem arrL_pos {cO : ClassId} {A : LdA} {C : LdC} (h : 0 < C.nl) : arrL cO A C = [cYA cO A] := if_neg (by omega)
theorem arrE_0 {cO : ClassId} {A : LdA} {C : LdC} (h : C.no = 0) : arrE cO A C = [] := if_pos h
theorem arrL_0 {cO : ClassId} {A : LdA} {C : LdC} (h : C.nl = 0) : arrL cO A C = [] := if_pos h
