/-! MODULE LightDoses: what reads an exhibit and the lamps -/
abbrev LpA : Type := Nat × Nat × Nat × Nat × Nat × Nat × Nat × Nat × Nat × Nat
abbrev LpA.a0 (C : LpA) : Nat := C.1
abbrev LpA.a1 (C : LpA) : Nat := C.2.1
abbrev LpA.a2 (C : LpA) : Nat := C.2.2.1
abbrev LpA.a3 (C : LpA) : Nat := C.2.2.2.1
abbrev LpA.a4 (C : LpA) : Nat := C.2.2.2.2.1
abbrev LpA.a5 (C : LpA) : Nat := C.2.2.2.2.2.1
abbrev LpA.a6 (C : LpA) : Nat := C.2.2.2.2.2.2.1
abbrev LpA.a7 (C : LpA) : Nat := C.2.2.2.2.2.2.2.1
abbrev LpA.a8 (C : LpA) : Nat := C.2.2.2.2.2.2.2.2.1
abbrev LpA.a9 (C : LpA) : Nat := C.2.2.2.2.2.2.2.2.2
abbrev LpC : Type := Int × (Nat → Int) × (Nat → Int) × Int × Int × (Nat → Int) × (Nat → Int) × Int × (Nat → Int) × (Nat → Int) × (Nat → Int) × Int
abbrev LpC.wfst (C : LpC) : Int := C.1
abbrev LpC.wh (C : LpC) : Nat → Int := C.2.1
abbrev LpC.wv (C : LpC) : Nat → Int := C.2.2.1
abbrev LpC.wn (C : LpC) : Int := C.2.2.2.1
abbrev LpC.mfst (C : LpC) : Int := C.2.2.2.2.1
abbrev LpC.mh (C : LpC) : Nat → Int := C.2.2.2.2.2.1
abbrev LpC.mv (C : LpC) : Nat → Int := C.2.2.2.2.2.2.1
abbrev LpC.mn (C : LpC) : Int := C.2.2.2.2.2.2.2.1
abbrev LpC.ps (C : LpC) : Nat → Int := C.2.2.2.2.2.2.2.2.1
abbrev LpC.pl (C : LpC) : Nat → Int := C.2.2.2.2.2.2.2.2.2.1
abbrev LpC.pt (C : LpC) : Nat → Int := C.2.2.2.2.2.2.2.2.2.2.1
abbrev LpC.np (C : LpC) : Int := C.2.2.2.2.2.2.2.2.2.2.2
abbrev ExA : Type := Nat × Nat × Nat × Nat
abbrev ExA.a0 (C : ExA) : Nat := C.1
abbrev ExA.a1 (C : ExA) : Nat := C.2.1
abbrev ExA.a2 (C : ExA) : Nat := C.2.2.1
abbrev ExA.a3 (C : ExA) : Nat := C.2.2.2
abbrev ExC : Type := Int × (Nat → Int) × (Nat → Int) × (Nat → Int) × Int
abbrev ExC.kd (C : ExC) : Int := C.1
abbrev ExC.es (C : ExC) : Nat → Int := C.2.1
abbrev ExC.ef (C : ExC) : Nat → Int := C.2.2.1
abbrev ExC.et (C : ExC) : Nat → Int := C.2.2.2.1
abbrev ExC.en (C : ExC) : Int := C.2.2.2.2
abbrev wLp (cI cJ : ClassId) (A : LpA) (C : LpC) : va_W := [(A.a0, .inr (6, [.ref A.a1, .ref A.a4, .ref A.a7, .ref A.a8, .ref A.a9, .int (iI C.np)])), (A.a1, .inr (2, [.int (iI C.wfst), .ref A.a2, .ref A.a3, .int (iI C.wn)])), (A.a2, .inl (cI, 20, .inl (fun k => iI (C.wh k)))), (A.a3, .inl (cI, 20, .inl (fun k => iI (C.wv k)))), (A.a4, .inr (2, [.int (iI C.mfst), .ref A.a5, .ref A.a6, .int (iI C.mn)])), (A.a5, .inl (cI, 20, .inl (fun k => iI (C.mh k)))), (A.a6, .inl (cI, 20, .inl (fun k => iI (C.mv k)))), (A.a7, .inl (cI, 41, .inl (fun k => iI (C.ps k)))), (A.a8, .inl (cI, 41, .inl (fun k => iI (C.pl k)))), (A.a9, .inl (cJ, 41, .inr (.inl (fun k => lI (C.pt k)))))]
abbrev wEx (cI : ClassId) (A : ExA) (C : ExC) : va_W := [(A.a0, .inr (4, [.int (iI C.kd), .ref A.a1, .ref A.a2, .ref A.a3, .int (iI C.en)])), (A.a1, .inl (cI, 8, .inl (fun k => iI (C.es k)))), (A.a2, .inl (cI, 16, .inl (fun k => iI (C.ef k)))), (A.a3, .inl (cI, 16, .inl (fun k => iI (C.et k))))]
/-- a lamp, and the list's array before it -/
abbrev gLr (cI cJ cO : ClassId) (y2 yc : Nat) (yf : Nat → Option Nat) (LA : Nat → LpA) (LC : Nat → LpC) (i : Nat) : va_W := (y2, .inl (cO, yc, .inr (.inr (.inr (.inr yf))))) :: wLp cI cJ (LA i) (LC i)
abbrev gEr (cI cO : ClassId) (x2 xc : Nat) (xf : Nat → Option Nat) (EA : Nat → ExA) (EC : Nat → ExC) (i : Nat) : va_W := (x2, .inl (cO, xc, .inr (.inr (.inr (.inr xf))))) :: wEx cI (EA i) (EC i)
theorem ld_lamp {D : va_G} {cl : List vw_C} {ws : va_W} {g : Nat → va_W} {n k : Nat} {H : Heap} (h : va_P D cl (ws ++ pool g n) H) (hk : k < n) : va_P D cl (g k) H := nv_Pmem.mpr (fun q hq => nv_Pmem.mp h q (List.mem_append_right _ (pool_mem hk hq)))
theorem nv_two {D : va_G} {cl : List vw_C} {q1 q2 : Nat × va_E} {H : Heap} (h1 : va_at D cl q1 H) (h2 : va_at D cl q2 H) : va_P D cl [q1, q2] H := nv_Pmem.mpr (fun q hq => by
  rcases List.mem_cons.mp hq with rfl | hq
  · exact h1
  · rw [List.mem_singleton] at hq; rw [hq]; exact h2)

theorem d_LD_partsIfShown_0 : decode prog_1_method_29_code 0 = .ok (.ldc2_w 158, 3) := by decide +kernel
theorem d_LD_partsIfShown_3 : decode prog_1_method_29_code 3 = .ok (.aload_n 0, 1) := by decide +kernel
theorem d_LD_partsIfShown_4 : decode prog_1_method_29_code 4 = .ok (.getfield 32, 3) := by decide +kernel
theorem d_LD_partsIfShown_7 : decode prog_1_method_29_code 7 = .ok (.iload_n 3, 1) := by decide +kernel
theorem d_LD_partsIfShown_8 : decode prog_1_method_29_code 8 = .ok (.invokevirtual 257, 3) := by decide +kernel
theorem d_LD_partsIfShown_11 : decode prog_1_method_29_code 11 = .ok (.aload_n 0, 1) := by decide +kernel
theorem d_LD_partsIfShown_12 : decode prog_1_method_29_code 12 = .ok (.getfield 32, 3) := by decide +kernel
theorem d_LD_partsIfShown_15 : decode prog_1_method_29_code 15 = .ok (.iload_n 2, 1) := by decide +kernel
theorem d_LD_partsIfShown_16 : decode prog_1_method_29_code 16 = .ok (.invokevirtual 257, 3) := by decide +kernel
theorem d_LD_partsIfShown_19 : decode prog_1_method_29_code 19 = .ok (.lsub, 1) := by decide +kernel
theorem d_LD_partsIfShown_20 : decode prog_1_method_29_code 20 = .ok (.lmul, 1) := by decide +kernel
theorem d_LD_partsIfShown_21 : decode prog_1_method_29_code 21 = .ok (.lstore 4, 2) := by decide +kernel
theorem d_LD_partsIfShown_23 : decode prog_1_method_29_code 23 = .ok (.iconst 0, 1) := by decide +kernel
theorem d_LD_partsIfShown_24 : decode prog_1_method_29_code 24 = .ok (.istore 6, 2) := by decide +kernel
theorem d_LD_partsIfShown_26 : decode prog_1_method_29_code 26 = .ok (.iload 6, 2) := by decide +kernel
theorem d_LD_partsIfShown_28 : decode prog_1_method_29_code 28 = .ok (.aload_n 0, 1) := by decide +kernel
theorem d_LD_partsIfShown_29 : decode prog_1_method_29_code 29 = .ok (.getfield 16, 3) := by decide +kernel
theorem d_LD_partsIfShown_32 : decode prog_1_method_29_code 32 = .ok (.invokevirtual 69, 3) := by decide +kernel
theorem d_LD_partsIfShown_35 : decode prog_1_method_29_code 35 = .ok (.if_icmp .ge 63, 3) := by decide +kernel
theorem d_LD_partsIfShown_38 : decode prog_1_method_29_code 38 = .ok (.aload_n 1, 1) := by decide +kernel
theorem d_LD_partsIfShown_39 : decode prog_1_method_29_code 39 = .ok (.getfield 103, 3) := by decide +kernel
theorem d_LD_partsIfShown_42 : decode prog_1_method_29_code 42 = .ok (.iload 6, 2) := by decide +kernel
theorem d_LD_partsIfShown_44 : decode prog_1_method_29_code 44 = .ok (.iaload, 1) := by decide +kernel
theorem d_LD_partsIfShown_45 : decode prog_1_method_29_code 45 = .ok (.istore 7, 2) := by decide +kernel
theorem d_LD_partsIfShown_47 : decode prog_1_method_29_code 47 = .ok (.iload 7, 2) := by decide +kernel
theorem d_LD_partsIfShown_49 : decode prog_1_method_29_code 49 = .ok (.ifCond .le 43, 3) := by decide +kernel
theorem d_LD_partsIfShown_52 : decode prog_1_method_29_code 52 = .ok (.aload_n 0, 1) := by decide +kernel
theorem d_LD_partsIfShown_53 : decode prog_1_method_29_code 53 = .ok (.getfield 16, 3) := by decide +kernel
theorem d_LD_partsIfShown_56 : decode prog_1_method_29_code 56 = .ok (.iload 6, 2) := by decide +kernel
theorem d_LD_partsIfShown_58 : decode prog_1_method_29_code 58 = .ok (.invokevirtual 232, 3) := by decide +kernel
theorem d_LD_partsIfShown_61 : decode prog_1_method_29_code 61 = .ok (.checkcast 96, 3) := by decide +kernel
theorem d_LD_partsIfShown_64 : decode prog_1_method_29_code 64 = .ok (.astore 8, 2) := by decide +kernel
theorem d_LD_partsIfShown_66 : decode prog_1_method_29_code 66 = .ok (.lload 4, 2) := by decide +kernel
theorem d_LD_partsIfShown_68 : decode prog_1_method_29_code 68 = .ok (.ldc2_w 261, 3) := by decide +kernel
theorem d_LD_partsIfShown_71 : decode prog_1_method_29_code 71 = .ok (.iload 7, 2) := by decide +kernel
theorem d_LD_partsIfShown_73 : decode prog_1_method_29_code 73 = .ok (.i2l, 1) := by decide +kernel
theorem d_LD_partsIfShown_74 : decode prog_1_method_29_code 74 = .ok (.lmul, 1) := by decide +kernel
theorem d_LD_partsIfShown_75 : decode prog_1_method_29_code 75 = .ok (.aload 8, 2) := by decide +kernel
theorem d_LD_partsIfShown_77 : decode prog_1_method_29_code 77 = .ok (.iload_n 3, 1) := by decide +kernel
theorem d_LD_partsIfShown_78 : decode prog_1_method_29_code 78 = .ok (.invokevirtual 263, 3) := by decide +kernel
theorem d_LD_partsIfShown_81 : decode prog_1_method_29_code 81 = .ok (.aload 8, 2) := by decide +kernel
theorem d_LD_partsIfShown_83 : decode prog_1_method_29_code 83 = .ok (.iload_n 2, 1) := by decide +kernel
theorem d_LD_partsIfShown_84 : decode prog_1_method_29_code 84 = .ok (.invokevirtual 263, 3) := by decide +kernel
theorem d_LD_partsIfShown_87 : decode prog_1_method_29_code 87 = .ok (.lsub, 1) := by decide +kernel
theorem d_LD_partsIfShown_88 : decode prog_1_method_29_code 88 = .ok (.lmul, 1) := by decide +kernel
theorem d_LD_partsIfShown_89 : decode prog_1_method_29_code 89 = .ok (.ladd, 1) := by decide +kernel
theorem d_LD_partsIfShown_90 : decode prog_1_method_29_code 90 = .ok (.lstore 4, 2) := by decide +kernel
theorem d_LD_partsIfShown_92 : decode prog_1_method_29_code 92 = .ok (.iinc 6 1, 3) := by decide +kernel
theorem d_LD_partsIfShown_95 : decode prog_1_method_29_code 95 = .ok (.goto (-69), 3) := by decide +kernel
theorem d_LD_partsIfShown_98 : decode prog_1_method_29_code 98 = .ok (.lload 4, 2) := by decide +kernel
theorem d_LD_partsIfShown_100 : decode prog_1_method_29_code 100 = .ok (.lreturn, 1) := by decide +kernel
def vc_LD_partsIfShown (fr : Int) (po : Int) (xc : Nat) (xf : Nat → Option Nat) (kd : Int) (es : Nat → Int) (ef : Nat → Int) (et : Nat → Int) (en : Int) (no : Nat) (xm : Int) (nl : Nat) (ym : Int) (ba : Nat → Int) (dl : Nat → Int) (ds : Nat → Int) (fo : Nat → Int) (fh : Nat → Int) (fs : Nat → Int) (fn : Int) (yc : Nat) (yf : Nat → Option Nat) (LA : Nat → LpA) (LC : Nat → LpC) (ob : Nat) (from_ : Int) (to_ : Int) (post : Int → Prop) : Prop := ∃ P1 : Int → Prop, vc_Dy_luxHoursBefore dl ds to_ P1 ∧ ∀ z2 : Int, P1 z2 → ∃ P4 : Int → Prop, vc_Dy_luxHoursBefore dl ds from_ P4 ∧ ∀ z5 : Int, P4 z5 → ∃ (I7 : Int → Int → Prop) (μ8 : Int → Int → Nat), I7 (3600000 * (z2 - z5)) 0 ∧ ∀ (tot : Int) (j : Int), I7 tot j → (r32 j) ∧ ((r32 (nl : Int)) ∧ (((nl : Int) ≤ j → post tot) ∧ (j < (nl : Int) → (0 ≤ j ∧ j < 8) ∧ ((r32 (es (j).toNat)) ∧ ((es (j).toNat ≤ 0 → I7 tot (j + 1) ∧ μ8 tot (j + 1) < μ8 tot j) ∧ (0 < es (j).toNat → (0 ≤ j ∧ j < (nl : Int)) ∧ (∃ P19 : Int → Prop, vc_Lp_luxHoursBefore ((LC ((j).toNat)).wfst) ((LC ((j).toNat)).wh) ((LC ((j).toNat)).wv) ((LC ((j).toNat)).wn) ((LC ((j).toNat)).mfst) ((LC ((j).toNat)).mh) ((LC ((j).toNat)).mv) ((LC ((j).toNat)).mn) ((LC ((j).toNat)).ps) ((LC ((j).toNat)).pl) ((LC ((j).toNat)).pt) ((LC ((j).toNat)).np) to_ P19 ∧ ∀ z20 : Int, P19 z20 → ∃ P22 : Int → Prop, vc_Lp_luxHoursBefore ((LC ((j).toNat)).wfst) ((LC ((j).toNat)).wh) ((LC ((j).toNat)).wv) ((LC ((j).toNat)).wn) ((LC ((j).toNat)).mfst) ((LC ((j).toNat)).mh) ((LC ((j).toNat)).mv) ((LC ((j).toNat)).mn) ((LC ((j).toNat)).ps) ((LC ((j).toNat)).pl) ((LC ((j).toNat)).pt) ((LC ((j).toNat)).np) from_ P22 ∧ ∀ z23 : Int, P22 z23 → I7 (tot + ((3600 * (es (j).toNat)) * (z20 - z23))) (j + 1) ∧ μ8 (tot + ((3600 * (es (j).toNat)) * (z20 - z23))) (j + 1) < μ8 tot j)))))))
set_option maxHeartbeats 4000000 in
set_option maxRecDepth 100000 in
theorem m_LD_partsIfShown (l : Launch) (D : va_G) (cI cJ cO cZ : ClassId) (h0 x1 y1 al dy fl br bk x2 e0 e1 e2 e3 y2 dy1 dy2 fl1 fl2 fl3 : Nat) (fr : Int) (po : Int) (xc : Nat) (xf : Nat → Option Nat) (kd : Int) (es : Nat → Int) (ef : Nat → Int) (et : Nat → Int) (en : Int) (no : Nat) (xm : Int) (nl : Nat) (ym : Int) (ba : Nat → Int) (dl : Nat → Int) (ds : Nat → Int) (fo : Nat → Int) (fh : Nat → Int) (fs : Nat → Int) (fn : Int) (yc : Nat) (yf : Nat → Option Nat) (LA : Nat → LpA) (LC : Nat → LpC) (ob : Nat) (from_ : Int) (to_ : Int) (hxf : xf ob = some e0) (hob : ob < no) (hxn : no ≤ xc) (hxc : xc < 1000000) (hyF : ∀ k, k < nl → yf k = some (LA k).a0) (hyn : nl ≤ yc) (hyc : yc < 1000000) (hno : no ≤ 12) (hnl : nl ≤ 8) (post : Int → Prop) (v : vc_LD_partsIfShown fr po xc xf kd es ef et en no xm nl ym ba dl ds fo fh fs fn yc yf LA LC ob from_ to_ post) : Met l ⟨"LightDoses", "partsIfShown", "(LLightDoses$Exhibit;II)J"⟩ (.code ⟨"LightDoses", "partsIfShown", "(LLightDoses$Exhibit;II)J"⟩ prog_1_method_29_code 9 (some .long) :: TG) { frames := 3, cells := 0, slots := 0, locals := 64 } (va_Pc [.ref h0, .ref e0, .int (iI from_), .int (iI to_)] (fun U => va_K D vwCl (tyx cI cJ cO cZ) U ∧ va_P D vwCl ([(h0, .inr (7, [.ref x1, .ref y1, .ref al, .ref dy, .ref fl, .ref br, .ref bk, .int (iI fr), .int (iI po)])), (x2, .inl (cO, xc, .inr (.inr (.inr (.inr xf))))), (e0, .inr (4, [.int (iI kd), .ref e1, .ref e2, .ref e3, .int (iI en)])), (e1, .inl (cI, 8, .inl (fun k => iI (es k)))), (e2, .inl (cI, 16, .inl (fun k => iI (ef k)))), (e3, .inl (cI, 16, .inl (fun k => iI (et k)))), (x1, .inr (9, [.ref x2, .int (iI (no : Int)), .int (iI xm)])), (y1, .inr (9, [.ref y2, .int (iI (nl : Int)), .int (iI ym)])), (al, .inl (cI, 6, .inl (fun k => iI (ba k)))), (dy, .inr (3, [.ref dy1, .ref dy2])), (dy1, .inl (cI, 24, .inl (fun k => iI (dl k)))), (dy2, .inl (cJ, 25, .inr (.inl (fun k => lI (ds k))))), (fl, .inr (5, [.ref fl1, .ref fl2, .ref fl3, .int (iI fn)])), (fl1, .inl (cI, 40, .inl (fun k => iI (fo k)))), (fl2, .inl (cI, 40, .inl (fun k => iI (fh k)))), (fl3, .inl (cI, 40, .inl (fun k => iI (fs k))))] ++ pool (gLr cI cJ cO y2 yc yf LA LC) nl) U.heap)) (vp_Sl (fun r => ∃ z : Int, r = lI z ∧ post z)) 0 0 (fun _ => False) := by
  refine Met.ofW (cc := prog_1_method_29_code) (maxL := 9) (ret := (some .long)) (by decide) rfl ?_
  intro p e s m args below meth c s₁ B hml hv
  obtain ⟨rfl, hK, hP⟩ := hv
  have hx := B.exec
  have hb := B.bytes
  have hr := B.returns
  have hts0 := atoms_spec (ws := (.code ⟨"LightDoses", "partsIfShown", "(LLightDoses$Exhibit;II)J"⟩ prog_1_method_29_code 9 (some .long) :: TG)) B.pre
  have hts : ∀ w ∈ TG, w.before _ s = true := fun w h => hts0 w (List.mem_cons_of_mem _ h)
  have hown : s.vm.findClass "LightDoses" = some m.cls := findClass_of_methodNamed B.named
  have hlocks := B.notSynchronized
  have hP : va_P D vwCl ([(h0, .inr (7, [.ref x1, .ref y1, .ref al, .ref dy, .ref fl, .ref br, .ref bk, .int (iI fr), .int (iI po)])), (x2, .inl (cO, xc, .inr (.inr (.inr (.inr xf))))), (e0, .inr (4, [.int (iI kd), .ref e1, .ref e2, .ref e3, .int (iI en)])), (e1, .inl (cI, 8, .inl (fun k => iI (es k)))), (e2, .inl (cI, 16, .inl (fun k => iI (ef k)))), (e3, .inl (cI, 16, .inl (fun k => iI (et k)))), (x1, .inr (9, [.ref x2, .int (iI (no : Int)), .int (iI xm)])), (y1, .inr (9, [.ref y2, .int (iI (nl : Int)), .int (iI ym)])), (al, .inl (cI, 6, .inl (fun k => iI (ba k)))), (dy, .inr (3, [.ref dy1, .ref dy2])), (dy1, .inl (cI, 24, .inl (fun k => iI (dl k)))), (dy2, .inl (cJ, 25, .inr (.inl (fun k => lI (ds k))))), (fl, .inr (5, [.ref fl1, .ref fl2, .ref fl3, .int (iI fn)])), (fl1, .inl (cI, 40, .inl (fun k => iI (fo k)))), (fl2, .inl (cI, 40, .inl (fun k => iI (fh k)))), (fl3, .inl (cI, 40, .inl (fun k => iI (fs k))))] ++ pool (gLr cI cJ cO y2 yc yf LA LC) nl) s.heap := hP
  have hl := lv_entry ([Value.ref h0, Value.ref e0, Value.int (iI from_), Value.int (iI to_)]) (n := 9) (Nat.le_of_ble_eq_true rfl)
  rw [lg_entry_eq]
  generalize (lg_sl ([Value.ref h0, Value.ref e0, Value.int (iI from_), Value.int (iI to_)]) ++ List.replicate (9 - (lg_sl ([Value.ref h0, Value.ref e0, Value.int (iI from_), Value.int (iI to_)])).length) Slot.unset).toArray = ls at hl ⊢
  have hl : lv_has ls 9 [(0, .ref h0), (1, .ref e0), (2, .int (iI from_)), (3, .int (iI to_))] := hl
  unfold vc_LD_partsIfShown at v
  refine nv_ldc2 (z := 3600000) hx hb hown (hts _ wd_282) (by decide) d_LD_partsIfShown_0 ?_
  refine lv_aload_n hx hb d_LD_partsIfShown_3 rfl (lv_at hl 0 rfl) ?_
  refine va_get (D := D) (ci := 7) (v := .ref dy) (C := "LightDoses") (T := T_LD) (N := 9) hx hb hts in_LD hown hK hP 0 rfl rfl 3 (by decide) (hts _ wd_142) (fun _ h9 => h9) rfl d_LD_partsIfShown_4 ?_
  refine lv_iload_n hx hb d_LD_partsIfShown_7 rfl (lv_at hl 3 rfl) ?_
  obtain ⟨P1, q3, v⟩ := v
  refine vp_callSl (nv_runV (wc := [(dy, .inr (3, [.ref dy1, .ref dy2])), (dy1, .inl (cI, 24, .inl (fun k => iI (dl k)))), (dy2, .inl (cJ, 25, .inr (.inl (fun k => lI (ds k)))))]) (As := [.int (iI to_)]) (rest := [.long (lI 3600000)]) ⟨hx, hb, hml, hown, hts⟩ (m_Dy_luxHoursBefore l D cI cJ cO cZ dy dy1 dy2 dl ds to_ P1 q3) (nv_cwV (n := 1) hts wd_301 wd_302 wd_303 wd_6 wd_304 (by decide +kernel) ⟨Nat.le_of_ble_eq_true rfl, Nat.le_of_ble_eq_true rfl⟩) hK (hP.sub [9, 10, 11] rfl) (va_recv hK hP (ci := 3) (q0 := 9) rfl rfl) rfl hl.1 rfl (Nat.le_of_ble_eq_true rfl) d_LD_partsIfShown_8 (Nat.le_of_ble_eq_true rfl) (Nat.le_of_ble_eq_true rfl)) (fun r hr => ?_)
  obtain ⟨z2, rfl, hz⟩ := hr
  replace v := v z2 hz
  refine lv_aload_n hx hb d_LD_partsIfShown_11 rfl (lv_at hl 0 rfl) ?_
  refine va_get (D := D) (ci := 7) (v := .ref dy) (C := "LightDoses") (T := T_LD) (N := 9) hx hb hts in_LD hown hK hP 0 rfl rfl 3 (by decide) (hts _ wd_142) (fun _ h9 => h9) rfl d_LD_partsIfShown_12 ?_
  refine lv_iload_n hx hb d_LD_partsIfShown_15 rfl (lv_at hl 2 rfl) ?_
  obtain ⟨P4, q6, v⟩ := v
  refine vp_callSl (nv_runV (wc := [(dy, .inr (3, [.ref dy1, .ref dy2])), (dy1, .inl (cI, 24, .inl (fun k => iI (dl k)))), (dy2, .inl (cJ, 25, .inr (.inl (fun k => lI (ds k)))))]) (As := [.int (iI from_)]) (rest := [.long (lI z2), .long (lI 3600000)]) ⟨hx, hb, hml, hown, hts⟩ (m_Dy_luxHoursBefore l D cI cJ cO cZ dy dy1 dy2 dl ds from_ P4 q6) (nv_cwV (n := 1) hts wd_301 wd_302 wd_303 wd_6 wd_304 (by decide +kernel) ⟨Nat.le_of_ble_eq_true rfl, Nat.le_of_ble_eq_true rfl⟩) hK (hP.sub [9, 10, 11] rfl) (va_recv hK hP (ci := 3) (q0 := 9) rfl rfl) rfl hl.1 rfl (Nat.le_of_ble_eq_true rfl) d_LD_partsIfShown_16 (Nat.le_of_ble_eq_true rfl) (Nat.le_of_ble_eq_true rfl)) (fun r hr => ?_)
  obtain ⟨z5, rfl, hz⟩ := hr
  replace v := v z5 hz
  refine nv_lsub (z := z2 - z5) hx hb d_LD_partsIfShown_19 (by first | rfl | omega) ?_
  refine nv_lmul (z := 3600000 * (z2 - z5)) hx hb d_LD_partsIfShown_20 (by first | rfl | omega) ?_
  refine lv_lstore (lv' := [(4, .long (lI (3600000 * (z2 - z5)))), (0, .ref h0), (1, .ref e0), (2, .int (iI from_)), (3, .int (iI to_))]) hx hb d_LD_partsIfShown_21 hl (by decide) rfl (fun ls hl => ?_)
  refine nv_iconst (n := 0) hx hb d_LD_partsIfShown_23 ?_
  refine lv_istore (lv' := [(6, .int (iI 0)), (4, .long (lI (3600000 * (z2 - z5)))), (0, .ref h0), (1, .ref e0), (2, .int (iI from_)), (3, .int (iI to_))]) hx hb d_LD_partsIfShown_24 hl (by decide) rfl (fun ls hl => ?_)
  obtain ⟨I7, μ8, v25, v26⟩ := v
  have L27 : ∀ (N : Nat) (tot : Int) (j : Int) (ls : Array Slot), μ8 tot j < N → I7 tot j → lv_has ls 9 [(0, .ref h0), (1, .ref e0), (2, .int (iI from_)), (3, .int (iI to_)), (4, .long (lI tot)), (6, .int (iI j))] → W p l e (headSpec (.code ⟨"LightDoses", "partsIfShown", "(LLightDoses$Exhibit;II)J"⟩ prog_1_method_29_code 9 (some .long) :: TG) { frames := 3, cells := 0, slots := 0, locals := 64 }).room s m ([Value.ref h0, Value.ref e0, Value.int (iI from_), Value.int (iI to_)] : List Value).toArray below meth c s.heap [] 0 0 (MQ below (vp_Sl (fun r => ∃ z : Int, r = lI z ∧ post z)) ([Value.ref h0, Value.ref e0, Value.int (iI from_), Value.int (iI to_)] : List Value).toArray s 0 0 (fun _ => False)) (F0 m 26 ls []) := by
    intro N
    induction N with
    | zero => intro tot j ls hN; exact absurd hN (Nat.not_lt_zero _)
    | succ N ih9 =>
      intro tot j ls hN10 hI hl
      have v := v26 tot j hI
      refine lv_iload hx hb d_LD_partsIfShown_26 (lv_at hl 5 rfl) ?_
      refine lv_aload_n hx hb d_LD_partsIfShown_28 rfl (lv_at hl 0 rfl) ?_
      refine va_get (D := D) (ci := 7) (v := .ref y1) (C := "LightDoses") (T := T_LD) (N := 9) hx hb hts in_LD hown hK hP 0 rfl rfl 1 (by decide) (hts _ wd_140) (fun _ h9 => h9) rfl d_LD_partsIfShown_29 ?_
      refine vp_callSi (nv_runV (wc := [(y1, .inr (9, [.ref y2, .int (iI (nl : Int)), .int (iI ym)]))]) (As := []) (rest := [.int (iI j)]) ⟨hx, hb, hml, hown, hts⟩ (m_AL_size l D cI cJ cO cZ y1 y2 (nl : Int) ym (fun z => z = (nl : Int)) (by unfold vc_AL_size; rfl)) (nv_cwV (n := 0) hts wd_179 wd_180 wd_181 wd_4 wd_182 (by decide +kernel) ⟨Nat.le_of_ble_eq_true rfl, Nat.le_of_ble_eq_true rfl⟩) hK (hP.sub [7] rfl) (va_recv hK hP (ci := 9) (q0 := 7) rfl rfl) rfl hl.1 rfl (Nat.le_of_ble_eq_true rfl) d_LD_partsIfShown_32 (Nat.le_of_ble_eq_true rfl) (Nat.le_of_ble_eq_true rfl)) (fun r9 hr9 => ?_)
      obtain ⟨_, rfl, rfl⟩ := hr9
      obtain ⟨k11, v⟩ := v
      obtain ⟨k12, v⟩ := v
      refine nv_icmp_ge (tgt := 98) hx hb d_LD_partsIfShown_35 (by decide) k11 k12 (fun c13 => ?_) (fun c13 => ?_)
      · replace v := v.1 c13
        refine lv_lload hx hb d_LD_partsIfShown_98 (lv_at hl 4 rfl) ?_
        exact W.lret hx hb hr (fun t ht hW => ⟨_, rfl, ⟨_, rfl, v⟩, ht⟩) (fun q h => by cases h) d_LD_partsIfShown_100
      · replace v := v.2 c13
        refine lv_aload_n hx hb d_LD_partsIfShown_38 rfl (lv_at hl 1 rfl) ?_
        refine va_get (D := D) (ci := 4) (v := .ref e1) (C := "LightDoses$Exhibit") (T := T_Ex) (N := 5) hx hb hts in_Ex hown hK hP 2 rfl rfl 1 (by decide) (hts _ wd_357) (fun _ h9 => h9) rfl d_LD_partsIfShown_39 ?_
        refine lv_iload hx hb d_LD_partsIfShown_42 (lv_at hl 5 rfl) ?_
        obtain ⟨k14, v⟩ := v
        refine nv_iald (f := es) hx hb hK 0 (hP 3 _ rfl) rfl (j).toNat (Int.toNat_of_nonneg k14.1).symm (by omega) (by decide) d_LD_partsIfShown_44 ?_
        refine lv_istore (lv' := [(7, .int (iI (es (j).toNat))), (0, .ref h0), (1, .ref e0), (2, .int (iI from_)), (3, .int (iI to_)), (4, .long (lI tot)), (6, .int (iI j))]) hx hb d_LD_partsIfShown_45 hl (by decide) rfl (fun ls hl => ?_)
        refine lv_iload hx hb d_LD_partsIfShown_47 (lv_at hl 0 rfl) ?_
        obtain ⟨k15, v⟩ := v
        refine nv_if_le (tgt := 92) hx hb d_LD_partsIfShown_49 (by decide) k15 (fun c16 => ?_) (fun c16 => ?_)
        · replace v := v.1 c16
          refine nv_iinc (k := 6) (z := j + 1) (lv' := [(6, .int (iI (j + 1))), (7, .int (iI (es (j).toNat))), (0, .ref h0), (1, .ref e0), (2, .int (iI from_)), (3, .int (iI to_)), (4, .long (lI tot))]) hx hb d_LD_partsIfShown_92 hl rfl (by omega) (by decide) rfl (fun ls hl => ?_)
          refine lv_goto (tgt := 26) hx hb d_LD_partsIfShown_95 (by decide) ?_
          exact ih9 tot (j + 1) ls (Nat.lt_of_lt_of_le v.2 (Nat.le_of_lt_succ hN10)) v.1 (lv_sub hl [2, 3, 4, 5, 6, 0] rfl)
        · replace v := v.2 c16
          refine lv_aload_n hx hb d_LD_partsIfShown_52 rfl (lv_at hl 1 rfl) ?_
          refine va_get (D := D) (ci := 7) (v := .ref y1) (C := "LightDoses") (T := T_LD) (N := 9) hx hb hts in_LD hown hK hP 0 rfl rfl 1 (by decide) (hts _ wd_140) (fun _ h9 => h9) rfl d_LD_partsIfShown_53 ?_
          refine lv_iload hx hb d_LD_partsIfShown_56 (lv_at hl 6 rfl) ?_
          obtain ⟨k17, v⟩ := v
          have hq18 : va_P D vwCl (gLr cI cJ cO y2 yc yf LA LC ((j).toNat)) s.heap := ld_lamp hP (by omega)
          refine va_csr (nv_runV (wc := [(y1, .inr (9, [.ref y2, .int (iI (nl : Int)), .int (iI ym)])), (y2, .inl (cO, yc, .inr (.inr (.inr (.inr yf)))))]) (As := [.int (iI ((j).toNat : Int))]) (rest := []) ⟨hx, hb, hml, hown, hts⟩ (m_AL_get l D cI cJ cO cZ y1 y2 (nl : Int) ym yc yf ((j).toNat) ((LA ((j).toNat)).a0) (hyF _ (by omega)) (by omega) (by omega) hyc) (nv_cwV (n := 1) hts wd_266 wd_267 wd_268 wd_4 wd_269 (by decide +kernel) ⟨Nat.le_of_ble_eq_true rfl, Nat.le_of_ble_eq_true rfl⟩) hK (nv_two (hP 7 _ rfl) (hq18 0 _ rfl)) (va_recv hK hP (ci := 9) (q0 := 7) rfl rfl) rfl hl.1 (by rw [Int.toNat_of_nonneg (by omega)]; rfl) (Nat.le_of_ble_eq_true rfl) d_LD_partsIfShown_58 (Nat.le_of_ble_eq_true rfl) (Nat.le_of_ble_eq_true rfl)) (fun r9 hr9 => ?_)
          have hr9 : r9 = (LA ((j).toNat)).a0 := hr9
          rw [hr9]
          have hP : va_P D vwCl ([(y2, .inl (cO, yc, .inr (.inr (.inr (.inr yf))))), ((LA ((j).toNat)).a0, .inr (6, [.ref ((LA ((j).toNat)).a1), .ref ((LA ((j).toNat)).a4), .ref ((LA ((j).toNat)).a7), .ref ((LA ((j).toNat)).a8), .ref ((LA ((j).toNat)).a9), .int (iI ((LC ((j).toNat)).np))])), ((LA ((j).toNat)).a1, .inr (2, [.int (iI ((LC ((j).toNat)).wfst)), .ref ((LA ((j).toNat)).a2), .ref ((LA ((j).toNat)).a3), .int (iI ((LC ((j).toNat)).wn))])), ((LA ((j).toNat)).a2, .inl (cI, 20, .inl (fun k => iI (((LC ((j).toNat)).wh) k)))), ((LA ((j).toNat)).a3, .inl (cI, 20, .inl (fun k => iI (((LC ((j).toNat)).wv) k)))), ((LA ((j).toNat)).a4, .inr (2, [.int (iI ((LC ((j).toNat)).mfst)), .ref ((LA ((j).toNat)).a5), .ref ((LA ((j).toNat)).a6), .int (iI ((LC ((j).toNat)).mn))])), ((LA ((j).toNat)).a5, .inl (cI, 20, .inl (fun k => iI (((LC ((j).toNat)).mh) k)))), ((LA ((j).toNat)).a6, .inl (cI, 20, .inl (fun k => iI (((LC ((j).toNat)).mv) k)))), ((LA ((j).toNat)).a7, .inl (cI, 41, .inl (fun k => iI (((LC ((j).toNat)).ps) k)))), ((LA ((j).toNat)).a8, .inl (cI, 41, .inl (fun k => iI (((LC ((j).toNat)).pl) k)))), ((LA ((j).toNat)).a9, .inl (cJ, 41, .inr (.inl (fun k => lI (((LC ((j).toNat)).pt) k))))), (h0, .inr (7, [.ref x1, .ref y1, .ref al, .ref dy, .ref fl, .ref br, .ref bk, .int (iI fr), .int (iI po)])), (x2, .inl (cO, xc, .inr (.inr (.inr (.inr xf))))), (e0, .inr (4, [.int (iI kd), .ref e1, .ref e2, .ref e3, .int (iI en)])), (e1, .inl (cI, 8, .inl (fun k => iI (es k)))), (e2, .inl (cI, 16, .inl (fun k => iI (ef k)))), (e3, .inl (cI, 16, .inl (fun k => iI (et k)))), (x1, .inr (9, [.ref x2, .int (iI (no : Int)), .int (iI xm)])), (y1, .inr (9, [.ref y2, .int (iI (nl : Int)), .int (iI ym)])), (al, .inl (cI, 6, .inl (fun k => iI (ba k)))), (dy, .inr (3, [.ref dy1, .ref dy2])), (dy1, .inl (cI, 24, .inl (fun k => iI (dl k)))), (dy2, .inl (cJ, 25, .inr (.inl (fun k => lI (ds k))))), (fl, .inr (5, [.ref fl1, .ref fl2, .ref fl3, .int (iI fn)])), (fl1, .inl (cI, 40, .inl (fun k => iI (fo k)))), (fl2, .inl (cI, 40, .inl (fun k => iI (fh k)))), (fl3, .inl (cI, 40, .inl (fun k => iI (fs k))))] ++ pool (gLr cI cJ cO y2 yc yf LA LC) nl) s.heap := (nv_Papp (w1 := gLr cI cJ cO y2 yc yf LA LC ((j).toNat)) (w2 := ([(h0, .inr (7, [.ref x1, .ref y1, .ref al, .ref dy, .ref fl, .ref br, .ref bk, .int (iI fr), .int (iI po)])), (x2, .inl (cO, xc, .inr (.inr (.inr (.inr xf))))), (e0, .inr (4, [.int (iI kd), .ref e1, .ref e2, .ref e3, .int (iI en)])), (e1, .inl (cI, 8, .inl (fun k => iI (es k)))), (e2, .inl (cI, 16, .inl (fun k => iI (ef k)))), (e3, .inl (cI, 16, .inl (fun k => iI (et k)))), (x1, .inr (9, [.ref x2, .int (iI (no : Int)), .int (iI xm)])), (y1, .inr (9, [.ref y2, .int (iI (nl : Int)), .int (iI ym)])), (al, .inl (cI, 6, .inl (fun k => iI (ba k)))), (dy, .inr (3, [.ref dy1, .ref dy2])), (dy1, .inl (cI, 24, .inl (fun k => iI (dl k)))), (dy2, .inl (cJ, 25, .inr (.inl (fun k => lI (ds k))))), (fl, .inr (5, [.ref fl1, .ref fl2, .ref fl3, .int (iI fn)])), (fl1, .inl (cI, 40, .inl (fun k => iI (fo k)))), (fl2, .inl (cI, 40, .inl (fun k => iI (fh k)))), (fl3, .inl (cI, 40, .inl (fun k => iI (fs k))))] ++ pool (gLr cI cJ cO y2 yc yf LA LC) nl))).mpr ⟨hq18, hP⟩
          refine va_castS hx hb hown (hts _ wd_305) (hK.1 6 _ rfl).2 (va_recv hK hP (ci := 6) (q0 := 1) rfl rfl) d_LD_partsIfShown_61 ?_
          refine lv_astore (lv' := [(8, .ref ((LA ((j).toNat)).a0)), (7, .int (iI (es (j).toNat))), (0, .ref h0), (1, .ref e0), (2, .int (iI from_)), (3, .int (iI to_)), (4, .long (lI tot)), (6, .int (iI j))]) hx hb d_LD_partsIfShown_64 hl (by decide) rfl (fun ls hl => ?_)
          refine lv_lload hx hb d_LD_partsIfShown_66 (lv_at hl 6 rfl) ?_
          refine nv_ldc2 (z := 3600) hx hb hown (hts _ wd_306) (by decide) d_LD_partsIfShown_68 ?_
          refine lv_iload hx hb d_LD_partsIfShown_71 (lv_at hl 1 rfl) ?_
          refine nv_i2l hx hb d_LD_partsIfShown_73 k15 ?_
          refine nv_lmul (z := 3600 * (es (j).toNat)) hx hb d_LD_partsIfShown_74 (by first | rfl | omega) ?_
          refine lv_aload hx hb d_LD_partsIfShown_75 (lv_at hl 0 rfl) ?_
          refine lv_iload_n hx hb d_LD_partsIfShown_77 rfl (lv_at hl 5 rfl) ?_
          obtain ⟨P19, q21, v⟩ := v
          refine vp_callSl (nv_runV (wc := [((LA ((j).toNat)).a0, .inr (6, [.ref ((LA ((j).toNat)).a1), .ref ((LA ((j).toNat)).a4), .ref ((LA ((j).toNat)).a7), .ref ((LA ((j).toNat)).a8), .ref ((LA ((j).toNat)).a9), .int (iI ((LC ((j).toNat)).np))])), ((LA ((j).toNat)).a1, .inr (2, [.int (iI ((LC ((j).toNat)).wfst)), .ref ((LA ((j).toNat)).a2), .ref ((LA ((j).toNat)).a3), .int (iI ((LC ((j).toNat)).wn))])), ((LA ((j).toNat)).a2, .inl (cI, 20, .inl (fun k => iI (((LC ((j).toNat)).wh) k)))), ((LA ((j).toNat)).a3, .inl (cI, 20, .inl (fun k => iI (((LC ((j).toNat)).wv) k)))), ((LA ((j).toNat)).a4, .inr (2, [.int (iI ((LC ((j).toNat)).mfst)), .ref ((LA ((j).toNat)).a5), .ref ((LA ((j).toNat)).a6), .int (iI ((LC ((j).toNat)).mn))])), ((LA ((j).toNat)).a5, .inl (cI, 20, .inl (fun k => iI (((LC ((j).toNat)).mh) k)))), ((LA ((j).toNat)).a6, .inl (cI, 20, .inl (fun k => iI (((LC ((j).toNat)).mv) k)))), ((LA ((j).toNat)).a7, .inl (cI, 41, .inl (fun k => iI (((LC ((j).toNat)).ps) k)))), ((LA ((j).toNat)).a8, .inl (cI, 41, .inl (fun k => iI (((LC ((j).toNat)).pl) k)))), ((LA ((j).toNat)).a9, .inl (cJ, 41, .inr (.inl (fun k => lI (((LC ((j).toNat)).pt) k)))))]) (As := [.int (iI to_)]) (rest := [.long (lI (3600 * (es (j).toNat))), .long (lI tot)]) ⟨hx, hb, hml, hown, hts⟩ (m_Lp_luxHoursBefore l D cI cJ cO cZ (LA ((j).toNat)).a0 (LA ((j).toNat)).a1 (LA ((j).toNat)).a2 (LA ((j).toNat)).a3 (LA ((j).toNat)).a4 (LA ((j).toNat)).a5 (LA ((j).toNat)).a6 (LA ((j).toNat)).a7 (LA ((j).toNat)).a8 (LA ((j).toNat)).a9 ((LC ((j).toNat)).wfst) ((LC ((j).toNat)).wh) ((LC ((j).toNat)).wv) ((LC ((j).toNat)).wn) ((LC ((j).toNat)).mfst) ((LC ((j).toNat)).mh) ((LC ((j).toNat)).mv) ((LC ((j).toNat)).mn) ((LC ((j).toNat)).ps) ((LC ((j).toNat)).pl) ((LC ((j).toNat)).pt) ((LC ((j).toNat)).np) to_ P19 q21) (nv_cwV (n := 1) hts wd_307 wd_308 wd_309 wd_21 wd_310 (by decide +kernel) ⟨Nat.le_of_ble_eq_true rfl, Nat.le_of_ble_eq_true rfl⟩) hK (hP.sub [1, 2, 3, 4, 5, 6, 7, 8, 9, 10] rfl) (va_recv hK hP (ci := 6) (q0 := 1) rfl rfl) rfl hl.1 rfl (Nat.le_of_ble_eq_true rfl) d_LD_partsIfShown_78 (Nat.le_of_ble_eq_true rfl) (Nat.le_of_ble_eq_true rfl)) (fun r hr => ?_)
          obtain ⟨z20, rfl, hz⟩ := hr
          replace v := v z20 hz
          refine lv_aload hx hb d_LD_partsIfShown_81 (lv_at hl 0 rfl) ?_
          refine lv_iload_n hx hb d_LD_partsIfShown_83 rfl (lv_at hl 4 rfl) ?_
          obtain ⟨P22, q24, v⟩ := v
          refine vp_callSl (nv_runV (wc := [((LA ((j).toNat)).a0, .inr (6, [.ref ((LA ((j).toNat)).a1), .ref ((LA ((j).toNat)).a4), .ref ((LA ((j).toNat)).a7), .ref ((LA ((j).toNat)).a8), .ref ((LA ((j).toNat)).a9), .int (iI ((LC ((j).toNat)).np))])), ((LA ((j).toNat)).a1, .inr (2, [.int (iI ((LC ((j).toNat)).wfst)), .ref ((LA ((j).toNat)).a2), .ref ((LA ((j).toNat)).a3), .int (iI ((LC ((j).toNat)).wn))])), ((LA ((j).toNat)).a2, .inl (cI, 20, .inl (fun k => iI (((LC ((j).toNat)).wh) k)))), ((LA ((j).toNat)).a3, .inl (cI, 20, .inl (fun k => iI (((LC ((j).toNat)).wv) k)))), ((LA ((j).toNat)).a4, .inr (2, [.int (iI ((LC ((j).toNat)).mfst)), .ref ((LA ((j).toNat)).a5), .ref ((LA ((j).toNat)).a6), .int (iI ((LC ((j).toNat)).mn))])), ((LA ((j).toNat)).a5, .inl (cI, 20, .inl (fun k => iI (((LC ((j).toNat)).mh) k)))), ((LA ((j).toNat)).a6, .inl (cI, 20, .inl (fun k => iI (((LC ((j).toNat)).mv) k)))), ((LA ((j).toNat)).a7, .inl (cI, 41, .inl (fun k => iI (((LC ((j).toNat)).ps) k)))), ((LA ((j).toNat)).a8, .inl (cI, 41, .inl (fun k => iI (((LC ((j).toNat)).pl) k)))), ((LA ((j).toNat)).a9, .inl (cJ, 41, .inr (.inl (fun k => lI (((LC ((j).toNat)).pt) k)))))]) (As := [.int (iI from_)]) (rest := [.long (lI z20), .long (lI (3600 * (es (j).toNat))), .long (lI tot)]) ⟨hx, hb, hml, hown, hts⟩ (m_Lp_luxHoursBefore l D cI cJ cO cZ (LA ((j).toNat)).a0 (LA ((j).toNat)).a1 (LA ((j).toNat)).a2 (LA ((j).toNat)).a3 (LA ((j).toNat)).a4 (LA ((j).toNat)).a5 (LA ((j).toNat)).a6 (LA ((j).toNat)).a7 (LA ((j).toNat)).a8 (LA ((j).toNat)).a9 ((LC ((j).toNat)).wfst) ((LC ((j).toNat)).wh) ((LC ((j).toNat)).wv) ((LC ((j).toNat)).wn) ((LC ((j).toNat)).mfst) ((LC ((j).toNat)).mh) ((LC ((j).toNat)).mv) ((LC ((j).toNat)).mn) ((LC ((j).toNat)).ps) ((LC ((j).toNat)).pl) ((LC ((j).toNat)).pt) ((LC ((j).toNat)).np) from_ P22 q24) (nv_cwV (n := 1) hts wd_307 wd_308 wd_309 wd_21 wd_310 (by decide +kernel) ⟨Nat.le_of_ble_eq_true rfl, Nat.le_of_ble_eq_true rfl⟩) hK (hP.sub [1, 2, 3, 4, 5, 6, 7, 8, 9, 10] rfl) (va_recv hK hP (ci := 6) (q0 := 1) rfl rfl) rfl hl.1 rfl (Nat.le_of_ble_eq_true rfl) d_LD_partsIfShown_84 (Nat.le_of_ble_eq_true rfl) (Nat.le_of_ble_eq_true rfl)) (fun r hr => ?_)
          obtain ⟨z23, rfl, hz⟩ := hr
          replace v := v z23 hz
          refine nv_lsub (z := z20 - z23) hx hb d_LD_partsIfShown_87 (by first | rfl | omega) ?_
          refine nv_lmul (z := (3600 * (es (j).toNat)) * (z20 - z23)) hx hb d_LD_partsIfShown_88 (by first | rfl | omega) ?_
          refine nv_ladd (z := tot + ((3600 * (es (j).toNat)) * (z20 - z23))) hx hb d_LD_partsIfShown_89 (by first | rfl | omega) ?_
          refine lv_lstore (lv' := [(4, .long (lI (tot + ((3600 * (es (j).toNat)) * (z20 - z23))))), (8, .ref ((LA ((j).toNat)).a0)), (7, .int (iI (es (j).toNat))), (0, .ref h0), (1, .ref e0), (2, .int (iI from_)), (3, .int (iI to_)), (6, .int (iI j))]) hx hb d_LD_partsIfShown_90 hl (by decide) rfl (fun ls hl => ?_)
          refine nv_iinc (k := 7) (z := j + 1) (lv' := [(6, .int (iI (j + 1))), (4, .long (lI (tot + ((3600 * (es (j).toNat)) * (z20 - z23))))), (8, .ref ((LA ((j).toNat)).a0)), (7, .int (iI (es (j).toNat))), (0, .ref h0), (1, .ref e0), (2, .int (iI from_)), (3, .int (iI to_))]) hx hb d_LD_partsIfShown_92 hl rfl (by omega) (by decide) rfl (fun ls hl => ?_)
          refine lv_goto (tgt := 26) hx hb d_LD_partsIfShown_95 (by decide) ?_
          exact ih9 (tot + ((3600 * (es (j).toNat)) * (z20 - z23))) (j + 1) ls (Nat.lt_of_lt_of_le v.2 (Nat.le_of_lt_succ hN10)) v.1 (lv_sub hl [4, 5, 6, 7, 1, 0] rfl)
  exact L27 _ (3600000 * (z2 - z5)) 0 ls (Nat.lt_succ_self _) v25 (lv_sub hl [2, 3, 4, 5, 1, 0] rfl)

theorem d_LD_partsWhileShown_0 : decode prog_1_method_28_code 0 = .ok (.lconst 0, 1) := by decide +kernel
theorem d_LD_partsWhileShown_1 : decode prog_1_method_28_code 1 = .ok (.lstore 4, 2) := by decide +kernel
theorem d_LD_partsWhileShown_3 : decode prog_1_method_28_code 3 = .ok (.iload_n 2, 1) := by decide +kernel
theorem d_LD_partsWhileShown_4 : decode prog_1_method_28_code 4 = .ok (.istore 6, 2) := by decide +kernel
theorem d_LD_partsWhileShown_6 : decode prog_1_method_28_code 6 = .ok (.iconst 0, 1) := by decide +kernel
theorem d_LD_partsWhileShown_7 : decode prog_1_method_28_code 7 = .ok (.istore 7, 2) := by decide +kernel
theorem d_LD_partsWhileShown_9 : decode prog_1_method_28_code 9 = .ok (.iload 7, 2) := by decide +kernel
theorem d_LD_partsWhileShown_11 : decode prog_1_method_28_code 11 = .ok (.aload_n 1, 1) := by decide +kernel
theorem d_LD_partsWhileShown_12 : decode prog_1_method_28_code 12 = .ok (.getfield 112, 3) := by decide +kernel
theorem d_LD_partsWhileShown_15 : decode prog_1_method_28_code 15 = .ok (.if_icmp .ge 61, 3) := by decide +kernel
theorem d_LD_partsWhileShown_18 : decode prog_1_method_28_code 18 = .ok (.iload 6, 2) := by decide +kernel
theorem d_LD_partsWhileShown_20 : decode prog_1_method_28_code 20 = .ok (.aload_n 1, 1) := by decide +kernel
theorem d_LD_partsWhileShown_21 : decode prog_1_method_28_code 21 = .ok (.getfield 245, 3) := by decide +kernel
theorem d_LD_partsWhileShown_24 : decode prog_1_method_28_code 24 = .ok (.iload 7, 2) := by decide +kernel
theorem d_LD_partsWhileShown_26 : decode prog_1_method_28_code 26 = .ok (.iaload, 1) := by decide +kernel
theorem d_LD_partsWhileShown_27 : decode prog_1_method_28_code 27 = .ok (.invokestatic 248, 3) := by decide +kernel
theorem d_LD_partsWhileShown_30 : decode prog_1_method_28_code 30 = .ok (.istore 8, 2) := by decide +kernel
theorem d_LD_partsWhileShown_32 : decode prog_1_method_28_code 32 = .ok (.iload_n 3, 1) := by decide +kernel
theorem d_LD_partsWhileShown_33 : decode prog_1_method_28_code 33 = .ok (.aload_n 1, 1) := by decide +kernel
theorem d_LD_partsWhileShown_34 : decode prog_1_method_28_code 34 = .ok (.getfield 251, 3) := by decide +kernel
theorem d_LD_partsWhileShown_37 : decode prog_1_method_28_code 37 = .ok (.iload 7, 2) := by decide +kernel
theorem d_LD_partsWhileShown_39 : decode prog_1_method_28_code 39 = .ok (.iaload, 1) := by decide +kernel
theorem d_LD_partsWhileShown_40 : decode prog_1_method_28_code 40 = .ok (.invokestatic 174, 3) := by decide +kernel
theorem d_LD_partsWhileShown_43 : decode prog_1_method_28_code 43 = .ok (.istore 9, 2) := by decide +kernel
theorem d_LD_partsWhileShown_45 : decode prog_1_method_28_code 45 = .ok (.iload 8, 2) := by decide +kernel
theorem d_LD_partsWhileShown_47 : decode prog_1_method_28_code 47 = .ok (.iload 9, 2) := by decide +kernel
theorem d_LD_partsWhileShown_49 : decode prog_1_method_28_code 49 = .ok (.if_icmp .ge 21, 3) := by decide +kernel
theorem d_LD_partsWhileShown_52 : decode prog_1_method_28_code 52 = .ok (.lload 4, 2) := by decide +kernel
theorem d_LD_partsWhileShown_54 : decode prog_1_method_28_code 54 = .ok (.aload_n 0, 1) := by decide +kernel
theorem d_LD_partsWhileShown_55 : decode prog_1_method_28_code 55 = .ok (.aload_n 1, 1) := by decide +kernel
theorem d_LD_partsWhileShown_56 : decode prog_1_method_28_code 56 = .ok (.iload 8, 2) := by decide +kernel
theorem d_LD_partsWhileShown_58 : decode prog_1_method_28_code 58 = .ok (.iload 9, 2) := by decide +kernel
theorem d_LD_partsWhileShown_60 : decode prog_1_method_28_code 60 = .ok (.invokevirtual 254, 3) := by decide +kernel
theorem d_LD_partsWhileShown_63 : decode prog_1_method_28_code 63 = .ok (.ladd, 1) := by decide +kernel
theorem d_LD_partsWhileShown_64 : decode prog_1_method_28_code 64 = .ok (.lstore 4, 2) := by decide +kernel
theorem d_LD_partsWhileShown_66 : decode prog_1_method_28_code 66 = .ok (.iload 9, 2) := by decide +kernel
theorem d_LD_partsWhileShown_68 : decode prog_1_method_28_code 68 = .ok (.istore 6, 2) := by decide +kernel
theorem d_LD_partsWhileShown_70 : decode prog_1_method_28_code 70 = .ok (.iinc 7 1, 3) := by decide +kernel
theorem d_LD_partsWhileShown_73 : decode prog_1_method_28_code 73 = .ok (.goto (-64), 3) := by decide +kernel
theorem d_LD_partsWhileShown_76 : decode prog_1_method_28_code 76 = .ok (.lload 4, 2) := by decide +kernel
theorem d_LD_partsWhileShown_78 : decode prog_1_method_28_code 78 = .ok (.lreturn, 1) := by decide +kernel
def vc_LD_partsWhileShown (fr : Int) (po : Int) (xc : Nat) (xf : Nat → Option Nat) (kd : Int) (es : Nat → Int) (ef : Nat → Int) (et : Nat → Int) (en : Int) (no : Nat) (xm : Int) (nl : Nat) (ym : Int) (ba : Nat → Int) (dl : Nat → Int) (ds : Nat → Int) (fo : Nat → Int) (fh : Nat → Int) (fs : Nat → Int) (fn : Int) (yc : Nat) (yf : Nat → Option Nat) (LA : Nat → LpA) (LC : Nat → LpC) (ob : Nat) (from_ : Int) (to_ : Int) (post : Int → Prop) : Prop := ∃ (I1 : Int → Int → Int → Prop) (μ2 : Int → Int → Int → Nat), I1 0 from_ 0 ∧ ∀ (tot : Int) (cnt : Int) (j : Int), I1 tot cnt j → (r32 j) ∧ ((r32 en) ∧ ((en ≤ j → post tot) ∧ (j < en → (0 ≤ j ∧ j < 16) ∧ ((r32 cnt) ∧ ((r32 (ef (j).toNat)) ∧ ((0 ≤ j ∧ j < 16) ∧ ((r32 to_) ∧ ((r32 (et (j).toNat)) ∧ ((r32 (max cnt (ef (j).toNat))) ∧ ((r32 (min to_ (et (j).toNat))) ∧ ((min to_ (et (j).toNat) ≤ max cnt (ef (j).toNat) → I1 tot cnt (j + 1) ∧ μ2 tot cnt (j + 1) < μ2 tot cnt j) ∧ (max cnt (ef (j).toNat) < min to_ (et (j).toNat) → ∃ P17 : Int → Prop, vc_LD_partsIfShown fr po xc xf kd es ef et en no xm nl ym ba dl ds fo fh fs fn yc yf LA LC ob (max cnt (ef (j).toNat)) (min to_ (et (j).toNat)) P17 ∧ ∀ z18 : Int, P17 z18 → I1 (tot + z18) (min to_ (et (j).toNat)) (j + 1) ∧ μ2 (tot + z18) (min to_ (et (j).toNat)) (j + 1) < μ2 tot cnt j))))))))))))
set_option maxHeartbeats 4000000 in
set_option maxRecDepth 100000 in
theorem m_LD_partsWhileShown (l : Launch) (D : va_G) (cI cJ cO cZ : ClassId) (h0 x1 y1 al dy fl br bk x2 e0 e1 e2 e3 y2 dy1 dy2 fl1 fl2 fl3 : Nat) (fr : Int) (po : Int) (xc : Nat) (xf : Nat → Option Nat) (kd : Int) (es : Nat → Int) (ef : Nat → Int) (et : Nat → Int) (en : Int) (no : Nat) (xm : Int) (nl : Nat) (ym : Int) (ba : Nat → Int) (dl : Nat → Int) (ds : Nat → Int) (fo : Nat → Int) (fh : Nat → Int) (fs : Nat → Int) (fn : Int) (yc : Nat) (yf : Nat → Option Nat) (LA : Nat → LpA) (LC : Nat → LpC) (ob : Nat) (from_ : Int) (to_ : Int) (hxf : xf ob = some e0) (hob : ob < no) (hxn : no ≤ xc) (hxc : xc < 1000000) (hyF : ∀ k, k < nl → yf k = some (LA k).a0) (hyn : nl ≤ yc) (hyc : yc < 1000000) (hno : no ≤ 12) (hnl : nl ≤ 8) (post : Int → Prop) (v : vc_LD_partsWhileShown fr po xc xf kd es ef et en no xm nl ym ba dl ds fo fh fs fn yc yf LA LC ob from_ to_ post) : Met l ⟨"LightDoses", "partsWhileShown", "(LLightDoses$Exhibit;II)J"⟩ (.code ⟨"LightDoses", "partsWhileShown", "(LLightDoses$Exhibit;II)J"⟩ prog_1_method_28_code 10 (some .long) :: TG) { frames := 4, cells := 0, slots := 0, locals := 92 } (va_Pc [.ref h0, .ref e0, .int (iI from_), .int (iI to_)] (fun U => va_K D vwCl (tyx cI cJ cO cZ) U ∧ va_P D vwCl ([(h0, .inr (7, [.ref x1, .ref y1, .ref al, .ref dy, .ref fl, .ref br, .ref bk, .int (iI fr), .int (iI po)])), (x2, .inl (cO, xc, .inr (.inr (.inr (.inr xf))))), (e0, .inr (4, [.int (iI kd), .ref e1, .ref e2, .ref e3, .int (iI en)])), (e1, .inl (cI, 8, .inl (fun k => iI (es k)))), (e2, .inl (cI, 16, .inl (fun k => iI (ef k)))), (e3, .inl (cI, 16, .inl (fun k => iI (et k)))), (x1, .inr (9, [.ref x2, .int (iI (no : Int)), .int (iI xm)])), (y1, .inr (9, [.ref y2, .int (iI (nl : Int)), .int (iI ym)])), (al, .inl (cI, 6, .inl (fun k => iI (ba k)))), (dy, .inr (3, [.ref dy1, .ref dy2])), (dy1, .inl (cI, 24, .inl (fun k => iI (dl k)))), (dy2, .inl (cJ, 25, .inr (.inl (fun k => lI (ds k))))), (fl, .inr (5, [.ref fl1, .ref fl2, .ref fl3, .int (iI fn)])), (fl1, .inl (cI, 40, .inl (fun k => iI (fo k)))), (fl2, .inl (cI, 40, .inl (fun k => iI (fh k)))), (fl3, .inl (cI, 40, .inl (fun k => iI (fs k))))] ++ pool (gLr cI cJ cO y2 yc yf LA LC) nl) U.heap)) (vp_Sl (fun r => ∃ z : Int, r = lI z ∧ post z)) 0 0 (fun _ => False) := by
  refine Met.ofW (cc := prog_1_method_28_code) (maxL := 10) (ret := (some .long)) (by decide) rfl ?_
  intro p e s m args below meth c s₁ B hml hv
  obtain ⟨rfl, hK, hP⟩ := hv
  have hx := B.exec
  have hb := B.bytes
  have hr := B.returns
  have hts0 := atoms_spec (ws := (.code ⟨"LightDoses", "partsWhileShown", "(LLightDoses$Exhibit;II)J"⟩ prog_1_method_28_code 10 (some .long) :: TG)) B.pre
  have hts : ∀ w ∈ TG, w.before _ s = true := fun w h => hts0 w (List.mem_cons_of_mem _ h)
  have hown : s.vm.findClass "LightDoses" = some m.cls := findClass_of_methodNamed B.named
  have hlocks := B.notSynchronized
  have hP : va_P D vwCl ([(h0, .inr (7, [.ref x1, .ref y1, .ref al, .ref dy, .ref fl, .ref br, .ref bk, .int (iI fr), .int (iI po)])), (x2, .inl (cO, xc, .inr (.inr (.inr (.inr xf))))), (e0, .inr (4, [.int (iI kd), .ref e1, .ref e2, .ref e3, .int (iI en)])), (e1, .inl (cI, 8, .inl (fun k => iI (es k)))), (e2, .inl (cI, 16, .inl (fun k => iI (ef k)))), (e3, .inl (cI, 16, .inl (fun k => iI (et k)))), (x1, .inr (9, [.ref x2, .int (iI (no : Int)), .int (iI xm)])), (y1, .inr (9, [.ref y2, .int (iI (nl : Int)), .int (iI ym)])), (al, .inl (cI, 6, .inl (fun k => iI (ba k)))), (dy, .inr (3, [.ref dy1, .ref dy2])), (dy1, .inl (cI, 24, .inl (fun k => iI (dl k)))), (dy2, .inl (cJ, 25, .inr (.inl (fun k => lI (ds k))))), (fl, .inr (5, [.ref fl1, .ref fl2, .ref fl3, .int (iI fn)])), (fl1, .inl (cI, 40, .inl (fun k => iI (fo k)))), (fl2, .inl (cI, 40, .inl (fun k => iI (fh k)))), (fl3, .inl (cI, 40, .inl (fun k => iI (fs k))))] ++ pool (gLr cI cJ cO y2 yc yf LA LC) nl) s.heap := hP
  have hl := lv_entry ([Value.ref h0, Value.ref e0, Value.int (iI from_), Value.int (iI to_)]) (n := 10) (Nat.le_of_ble_eq_true rfl)
  rw [lg_entry_eq]
  generalize (lg_sl ([Value.ref h0, Value.ref e0, Value.int (iI from_), Value.int (iI to_)]) ++ List.replicate (10 - (lg_sl ([Value.ref h0, Value.ref e0, Value.int (iI from_), Value.int (iI to_)])).length) Slot.unset).toArray = ls at hl ⊢
  have hl : lv_has ls 10 [(0, .ref h0), (1, .ref e0), (2, .int (iI from_)), (3, .int (iI to_))] := hl
  unfold vc_LD_partsWhileShown at v
  refine lv_lconst (v := lI 0) hx hb d_LD_partsWhileShown_0 (by decide) ?_
  refine lv_lstore (lv' := [(4, .long (lI 0)), (0, .ref h0), (1, .ref e0), (2, .int (iI from_)), (3, .int (iI to_))]) hx hb d_LD_partsWhileShown_1 hl (by decide) rfl (fun ls hl => ?_)
  refine lv_iload_n hx hb d_LD_partsWhileShown_3 rfl (lv_at hl 3 rfl) ?_
  refine lv_istore (lv' := [(6, .int (iI from_)), (4, .long (lI 0)), (0, .ref h0), (1, .ref e0), (2, .int (iI from_)), (3, .int (iI to_))]) hx hb d_LD_partsWhileShown_4 hl (by decide) rfl (fun ls hl => ?_)
  refine nv_iconst (n := 0) hx hb d_LD_partsWhileShown_6 ?_
  refine lv_istore (lv' := [(7, .int (iI 0)), (6, .int (iI from_)), (4, .long (lI 0)), (0, .ref h0), (1, .ref e0), (2, .int (iI from_)), (3, .int (iI to_))]) hx hb d_LD_partsWhileShown_7 hl (by decide) rfl (fun ls hl => ?_)
  obtain ⟨I1, μ2, v20, v21⟩ := v
  have L22 : ∀ (N : Nat) (tot : Int) (cnt : Int) (j : Int) (ls : Array Slot), μ2 tot cnt j < N → I1 tot cnt j → lv_has ls 10 [(0, .ref h0), (1, .ref e0), (2, .int (iI from_)), (3, .int (iI to_)), (4, .long (lI tot)), (6, .int (iI cnt)), (7, .int (iI j))] → W p l e (headSpec (.code ⟨"LightDoses", "partsWhileShown", "(LLightDoses$Exhibit;II)J"⟩ prog_1_method_28_code 10 (some .long) :: TG) { frames := 4, cells := 0, slots := 0, locals := 92 }).room s m ([Value.ref h0, Value.ref e0, Value.int (iI from_), Value.int (iI to_)] : List Value).toArray below meth c s.heap [] 0 0 (MQ below (vp_Sl (fun r => ∃ z : Int, r = lI z ∧ post z)) ([Value.ref h0, Value.ref e0, Value.int (iI from_), Value.int (iI to_)] : List Value).toArray s 0 0 (fun _ => False)) (F0 m 9 ls []) := by
    intro N
    induction N with
    | zero => intro tot cnt j ls hN; exact absurd hN (Nat.not_lt_zero _)
    | succ N ih3 =>
      intro tot cnt j ls hN4 hI hl
      have v := v21 tot cnt j hI
      refine lv_iload hx hb d_LD_partsWhileShown_9 (lv_at hl 6 rfl) ?_
      refine lv_aload_n hx hb d_LD_partsWhileShown_11 rfl (lv_at hl 1 rfl) ?_
      refine va_get (D := D) (ci := 4) (v := .int (iI en)) (C := "LightDoses$Exhibit") (T := T_Ex) (N := 5) hx hb hts in_Ex hown hK hP 2 rfl rfl 4 (by decide) (hts _ wd_363) (fun _ h9 => h9) rfl d_LD_partsWhileShown_12 ?_
      obtain ⟨k5, v⟩ := v
      obtain ⟨k6, v⟩ := v
      refine nv_icmp_ge (tgt := 76) hx hb d_LD_partsWhileShown_15 (by decide) k5 k6 (fun c7 => ?_) (fun c7 => ?_)
      · replace v := v.1 c7
        refine lv_lload hx hb d_LD_partsWhileShown_76 (lv_at hl 4 rfl) ?_
        exact W.lret hx hb hr (fun t ht hW => ⟨_, rfl, ⟨_, rfl, v⟩, ht⟩) (fun q h => by cases h) d_LD_partsWhileShown_78
      · replace v := v.2 c7
        refine lv_iload hx hb d_LD_partsWhileShown_18 (lv_at hl 5 rfl) ?_
        refine lv_aload_n hx hb d_LD_partsWhileShown_20 rfl (lv_at hl 1 rfl) ?_
        refine va_get (D := D) (ci := 4) (v := .ref e2) (C := "LightDoses$Exhibit") (T := T_Ex) (N := 5) hx hb hts in_Ex hown hK hP 2 rfl rfl 2 (by decide) (hts _ wd_359) (fun _ h9 => h9) rfl d_LD_partsWhileShown_21 ?_
        refine lv_iload hx hb d_LD_partsWhileShown_24 (lv_at hl 6 rfl) ?_
        obtain ⟨k8, v⟩ := v
        refine nv_iald (f := ef) hx hb hK 0 (hP 4 _ rfl) rfl (j).toNat (Int.toNat_of_nonneg k8.1).symm (by omega) (by decide) d_LD_partsWhileShown_26 ?_
        obtain ⟨k9, v⟩ := v
        obtain ⟨k10, v⟩ := v
        refine nv_mmax (a := cnt) (b := ef (j).toNat) hx hb (hml.trans hl.1.symm) hown (hts _ wd_291) (hts _ wd_292) (hts _ wd_18) (hts _ wd_293) (Nat.le_of_ble_eq_true rfl) (Nat.le_of_ble_eq_true rfl) (Nat.le_of_ble_eq_true rfl) (Nat.le_of_ble_eq_true rfl) k9 k10 d_LD_partsWhileShown_27 ?_
        refine lv_istore (lv' := [(8, .int (iI (max cnt (ef (j).toNat)))), (0, .ref h0), (1, .ref e0), (2, .int (iI from_)), (3, .int (iI to_)), (4, .long (lI tot)), (6, .int (iI cnt)), (7, .int (iI j))]) hx hb d_LD_partsWhileShown_30 hl (by decide) rfl (fun ls hl => ?_)
        refine lv_iload_n hx hb d_LD_partsWhileShown_32 rfl (lv_at hl 4 rfl) ?_
        refine lv_aload_n hx hb d_LD_partsWhileShown_33 rfl (lv_at hl 2 rfl) ?_
        refine va_get (D := D) (ci := 4) (v := .ref e3) (C := "LightDoses$Exhibit") (T := T_Ex) (N := 5) hx hb hts in_Ex hown hK hP 2 rfl rfl 3 (by decide) (hts _ wd_361) (fun _ h9 => h9) rfl d_LD_partsWhileShown_34 ?_
        refine lv_iload hx hb d_LD_partsWhileShown_37 (lv_at hl 7 rfl) ?_
        obtain ⟨k11, v⟩ := v
        refine nv_iald (f := et) hx hb hK 0 (hP 5 _ rfl) rfl (j).toNat (Int.toNat_of_nonneg k11.1).symm (by omega) (by decide) d_LD_partsWhileShown_39 ?_
        obtain ⟨k12, v⟩ := v
        obtain ⟨k13, v⟩ := v
        refine nv_mmin (a := to_) (b := et (j).toNat) hx hb (hml.trans hl.1.symm) hown (hts _ wd_294) (hts _ wd_295) (hts _ wd_18) (hts _ wd_296) (Nat.le_of_ble_eq_true rfl) (Nat.le_of_ble_eq_true rfl) (Nat.le_of_ble_eq_true rfl) (Nat.le_of_ble_eq_true rfl) k12 k13 d_LD_partsWhileShown_40 ?_
        refine lv_istore (lv' := [(9, .int (iI (min to_ (et (j).toNat)))), (8, .int (iI (max cnt (ef (j).toNat)))), (0, .ref h0), (1, .ref e0), (2, .int (iI from_)), (3, .int (iI to_)), (4, .long (lI tot)), (6, .int (iI cnt)), (7, .int (iI j))]) hx hb d_LD_partsWhileShown_43 hl (by decide) rfl (fun ls hl => ?_)
        refine lv_iload hx hb d_LD_partsWhileShown_45 (lv_at hl 1 rfl) ?_
        refine lv_iload hx hb d_LD_partsWhileShown_47 (lv_at hl 0 rfl) ?_
        obtain ⟨k14, v⟩ := v
        obtain ⟨k15, v⟩ := v
        refine nv_icmp_ge (tgt := 70) hx hb d_LD_partsWhileShown_49 (by decide) k14 k15 (fun c16 => ?_) (fun c16 => ?_)
        · replace v := v.1 c16
          refine nv_iinc (k := 8) (z := j + 1) (lv' := [(7, .int (iI (j + 1))), (9, .int (iI (min to_ (et (j).toNat)))), (8, .int (iI (max cnt (ef (j).toNat)))), (0, .ref h0), (1, .ref e0), (2, .int (iI from_)), (3, .int (iI to_)), (4, .long (lI tot)), (6, .int (iI cnt))]) hx hb d_LD_partsWhileShown_70 hl rfl (by omega) (by decide) rfl (fun ls hl => ?_)
          refine lv_goto (tgt := 9) hx hb d_LD_partsWhileShown_73 (by decide) ?_
          exact ih3 tot cnt (j + 1) ls (Nat.lt_of_lt_of_le v.2 (Nat.le_of_lt_succ hN4)) v.1 (lv_sub hl [3, 4, 5, 6, 7, 8, 0] rfl)
        · replace v := v.2 c16
          refine lv_lload hx hb d_LD_partsWhileShown_52 (lv_at hl 6 rfl) ?_
          refine lv_aload_n hx hb d_LD_partsWhileShown_54 rfl (lv_at hl 2 rfl) ?_
          refine lv_aload_n hx hb d_LD_partsWhileShown_55 rfl (lv_at hl 3 rfl) ?_
          refine lv_iload hx hb d_LD_partsWhileShown_56 (lv_at hl 1 rfl) ?_
          refine lv_iload hx hb d_LD_partsWhileShown_58 (lv_at hl 0 rfl) ?_
          obtain ⟨P17, q19, v⟩ := v
          refine vp_callSl (nv_runV (wc := ([(h0, .inr (7, [.ref x1, .ref y1, .ref al, .ref dy, .ref fl, .ref br, .ref bk, .int (iI fr), .int (iI po)])), (x2, .inl (cO, xc, .inr (.inr (.inr (.inr xf))))), (e0, .inr (4, [.int (iI kd), .ref e1, .ref e2, .ref e3, .int (iI en)])), (e1, .inl (cI, 8, .inl (fun k => iI (es k)))), (e2, .inl (cI, 16, .inl (fun k => iI (ef k)))), (e3, .inl (cI, 16, .inl (fun k => iI (et k)))), (x1, .inr (9, [.ref x2, .int (iI (no : Int)), .int (iI xm)])), (y1, .inr (9, [.ref y2, .int (iI (nl : Int)), .int (iI ym)])), (al, .inl (cI, 6, .inl (fun k => iI (ba k)))), (dy, .inr (3, [.ref dy1, .ref dy2])), (dy1, .inl (cI, 24, .inl (fun k => iI (dl k)))), (dy2, .inl (cJ, 25, .inr (.inl (fun k => lI (ds k))))), (fl, .inr (5, [.ref fl1, .ref fl2, .ref fl3, .int (iI fn)])), (fl1, .inl (cI, 40, .inl (fun k => iI (fo k)))), (fl2, .inl (cI, 40, .inl (fun k => iI (fh k)))), (fl3, .inl (cI, 40, .inl (fun k => iI (fs k))))] ++ pool (gLr cI cJ cO y2 yc yf LA LC) nl)) (As := [.ref e0, .int (iI (max cnt (ef (j).toNat))), .int (iI (min to_ (et (j).toNat)))]) (rest := [.long (lI tot)]) ⟨hx, hb, hml, hown, hts⟩ (m_LD_partsIfShown l D cI cJ cO cZ h0 x1 y1 al dy fl br bk x2 e0 e1 e2 e3 y2 dy1 dy2 fl1 fl2 fl3 fr po xc xf kd es ef et en no xm nl ym ba dl ds fo fh fs fn yc yf LA LC ob (max cnt (ef (j).toNat)) (min to_ (et (j).toNat)) hxf hob hxn hxc hyF hyn hyc hno hnl P17 q19) (nv_cwV (n := 3) hts wd_297 wd_299 sl_7 wd_1 wd_300 (by decide +kernel) ⟨Nat.le_of_ble_eq_true rfl, Nat.le_of_ble_eq_true rfl⟩) hK hP (va_recv hK hP (ci := 7) (q0 := 0) rfl rfl) rfl hl.1 rfl (Nat.le_of_ble_eq_true rfl) d_LD_partsWhileShown_60 (Nat.le_of_ble_eq_true rfl) (Nat.le_of_ble_eq_true rfl)) (fun r hr => ?_)
          obtain ⟨z18, rfl, hz⟩ := hr
          replace v := v z18 hz
          refine nv_ladd (z := tot + z18) hx hb d_LD_partsWhileShown_63 (by first | rfl | omega) ?_
          refine lv_lstore (lv' := [(4, .long (lI (tot + z18))), (9, .int (iI (min to_ (et (j).toNat)))), (8, .int (iI (max cnt (ef (j).toNat)))), (0, .ref h0), (1, .ref e0), (2, .int (iI from_)), (3, .int (iI to_)), (6, .int (iI cnt)), (7, .int (iI j))]) hx hb d_LD_partsWhileShown_64 hl (by decide) rfl (fun ls hl => ?_)
          refine lv_iload hx hb d_LD_partsWhileShown_66 (lv_at hl 1 rfl) ?_
          refine lv_istore (lv' := [(6, .int (iI (min to_ (et (j).toNat)))), (4, .long (lI (tot + z18))), (9, .int (iI (min to_ (et (j).toNat)))), (8, .int (iI (max cnt (ef (j).toNat)))), (0, .ref h0), (1, .ref e0), (2, .int (iI from_)), (3, .int (iI to_)), (7, .int (iI j))]) hx hb d_LD_partsWhileShown_68 hl (by decide) rfl (fun ls hl => ?_)
          refine nv_iinc (k := 8) (z := j + 1) (lv' := [(7, .int (iI (j + 1))), (6, .int (iI (min to_ (et (j).toNat)))), (4, .long (lI (tot + z18))), (9, .int (iI (min to_ (et (j).toNat)))), (8, .int (iI (max cnt (ef (j).toNat)))), (0, .ref h0), (1, .ref e0), (2, .int (iI from_)), (3, .int (iI to_))]) hx hb d_LD_partsWhileShown_70 hl rfl (by omega) (by decide) rfl (fun ls hl => ?_)
          refine lv_goto (tgt := 9) hx hb d_LD_partsWhileShown_73 (by decide) ?_
          exact ih3 (tot + z18) (min to_ (et (j).toNat)) (j + 1) ls (Nat.lt_of_lt_of_le v.2 (Nat.le_of_lt_succ hN4)) v.1 (lv_sub hl [5, 6, 7, 8, 2, 1, 0] rfl)
  exact L22 _ 0 from_ 0 ls (Nat.lt_succ_self _) v20 (lv_sub hl [3, 4, 5, 6, 2, 1, 0] rfl)

theorem d_LD_partsOf_0 : decode prog_1_method_27_code 0 = .ok (.aload_n 0, 1) := by decide +kernel
theorem d_LD_partsOf_1 : decode prog_1_method_27_code 1 = .ok (.aload_n 0, 1) := by decide +kernel
theorem d_LD_partsOf_2 : decode prog_1_method_27_code 2 = .ok (.iload_n 1, 1) := by decide +kernel
theorem d_LD_partsOf_3 : decode prog_1_method_27_code 3 = .ok (.invokevirtual 99, 3) := by decide +kernel
theorem d_LD_partsOf_6 : decode prog_1_method_27_code 6 = .ok (.iload_n 2, 1) := by decide +kernel
theorem d_LD_partsOf_7 : decode prog_1_method_27_code 7 = .ok (.iload_n 3, 1) := by decide +kernel
theorem d_LD_partsOf_8 : decode prog_1_method_27_code 8 = .ok (.invokevirtual 236, 3) := by decide +kernel
theorem d_LD_partsOf_11 : decode prog_1_method_27_code 11 = .ok (.ldc2_w 240, 3) := by decide +kernel
theorem d_LD_partsOf_14 : decode prog_1_method_27_code 14 = .ok (.aload_n 0, 1) := by decide +kernel
theorem d_LD_partsOf_15 : decode prog_1_method_27_code 15 = .ok (.getfield 39, 3) := by decide +kernel
theorem d_LD_partsOf_18 : decode prog_1_method_27_code 18 = .ok (.iload_n 1, 1) := by decide +kernel
theorem d_LD_partsOf_19 : decode prog_1_method_27_code 19 = .ok (.iload_n 2, 1) := by decide +kernel
theorem d_LD_partsOf_20 : decode prog_1_method_27_code 20 = .ok (.iload_n 3, 1) := by decide +kernel
theorem d_LD_partsOf_21 : decode prog_1_method_27_code 21 = .ok (.invokevirtual 242, 3) := by decide +kernel
theorem d_LD_partsOf_24 : decode prog_1_method_27_code 24 = .ok (.lmul, 1) := by decide +kernel
theorem d_LD_partsOf_25 : decode prog_1_method_27_code 25 = .ok (.ladd, 1) := by decide +kernel
theorem d_LD_partsOf_26 : decode prog_1_method_27_code 26 = .ok (.lreturn, 1) := by decide +kernel
def vc_LD_partsOf (fr : Int) (po : Int) (xc : Nat) (xf : Nat → Option Nat) (kd : Int) (es : Nat → Int) (ef : Nat → Int) (et : Nat → Int) (en : Int) (no : Nat) (xm : Int) (nl : Nat) (ym : Int) (ba : Nat → Int) (dl : Nat → Int) (ds : Nat → Int) (fo : Nat → Int) (fh : Nat → Int) (fs : Nat → Int) (fn : Int) (yc : Nat) (yf : Nat → Option Nat) (LA : Nat → LpA) (LC : Nat → LpC) (ob : Nat) (from_ : Int) (to_ : Int) (post : Int → Prop) : Prop := (vc_LD_exhibitOf fr po no xm xc xf kd es ef et en ob) ∧ (∃ P2 : Int → Prop, vc_LD_partsWhileShown fr po xc xf kd es ef et en no xm nl ym ba dl ds fo fh fs fn yc yf LA LC ob from_ to_ P2 ∧ ∀ z3 : Int, P2 z3 → ∃ P5 : Int → Prop, vc_Fl_luxSeconds fo fh fs fn (ob : Int) from_ to_ P5 ∧ ∀ z6 : Int, P5 z6 → post (z3 + (1000 * z6)))
set_option maxHeartbeats 4000000 in
set_option maxRecDepth 100000 in
theorem m_LD_partsOf (l : Launch) (D : va_G) (cI cJ cO cZ : ClassId) (h0 x1 y1 al dy fl br bk x2 e0 e1 e2 e3 y2 dy1 dy2 fl1 fl2 fl3 : Nat) (fr : Int) (po : Int) (xc : Nat) (xf : Nat → Option Nat) (kd : Int) (es : Nat → Int) (ef : Nat → Int) (et : Nat → Int) (en : Int) (no : Nat) (xm : Int) (nl : Nat) (ym : Int) (ba : Nat → Int) (dl : Nat → Int) (ds : Nat → Int) (fo : Nat → Int) (fh : Nat → Int) (fs : Nat → Int) (fn : Int) (yc : Nat) (yf : Nat → Option Nat) (LA : Nat → LpA) (LC : Nat → LpC) (ob : Nat) (from_ : Int) (to_ : Int) (hxf : xf ob = some e0) (hob : ob < no) (hxn : no ≤ xc) (hxc : xc < 1000000) (hyF : ∀ k, k < nl → yf k = some (LA k).a0) (hyn : nl ≤ yc) (hyc : yc < 1000000) (hno : no ≤ 12) (hnl : nl ≤ 8) (post : Int → Prop) (v : vc_LD_partsOf fr po xc xf kd es ef et en no xm nl ym ba dl ds fo fh fs fn yc yf LA LC ob from_ to_ post) : Met l ⟨"LightDoses", "partsOf", "(III)J"⟩ (.code ⟨"LightDoses", "partsOf", "(III)J"⟩ prog_1_method_27_code 4 (some .long) :: TG) { frames := 5, cells := 0, slots := 0, locals := 121 } (va_Pc [.ref h0, .int (iI (ob : Int)), .int (iI from_), .int (iI to_)] (fun U => va_K D vwCl (tyx cI cJ cO cZ) U ∧ va_P D vwCl ([(h0, .inr (7, [.ref x1, .ref y1, .ref al, .ref dy, .ref fl, .ref br, .ref bk, .int (iI fr), .int (iI po)])), (x2, .inl (cO, xc, .inr (.inr (.inr (.inr xf))))), (e0, .inr (4, [.int (iI kd), .ref e1, .ref e2, .ref e3, .int (iI en)])), (e1, .inl (cI, 8, .inl (fun k => iI (es k)))), (e2, .inl (cI, 16, .inl (fun k => iI (ef k)))), (e3, .inl (cI, 16, .inl (fun k => iI (et k)))), (x1, .inr (9, [.ref x2, .int (iI (no : Int)), .int (iI xm)])), (y1, .inr (9, [.ref y2, .int (iI (nl : Int)), .int (iI ym)])), (al, .inl (cI, 6, .inl (fun k => iI (ba k)))), (dy, .inr (3, [.ref dy1, .ref dy2])), (dy1, .inl (cI, 24, .inl (fun k => iI (dl k)))), (dy2, .inl (cJ, 25, .inr (.inl (fun k => lI (ds k))))), (fl, .inr (5, [.ref fl1, .ref fl2, .ref fl3, .int (iI fn)])), (fl1, .inl (cI, 40, .inl (fun k => iI (fo k)))), (fl2, .inl (cI, 40, .inl (fun k => iI (fh k)))), (fl3, .inl (cI, 40, .inl (fun k => iI (fs k))))] ++ pool (gLr cI cJ cO y2 yc yf LA LC) nl) U.heap)) (vp_Sl (fun r => ∃ z : Int, r = lI z ∧ post z)) 0 0 (fun _ => False) := by
  refine Met.ofW (cc := prog_1_method_27_code) (maxL := 4) (ret := (some .long)) (by decide) rfl ?_
  intro p e s m args below meth c s₁ B hml hv
  obtain ⟨rfl, hK, hP⟩ := hv
  have hx := B.exec
  have hb := B.bytes
  have hr := B.returns
  have hts0 := atoms_spec (ws := (.code ⟨"LightDoses", "partsOf", "(III)J"⟩ prog_1_method_27_code 4 (some .long) :: TG)) B.pre
  have hts : ∀ w ∈ TG, w.before _ s = true := fun w h => hts0 w (List.mem_cons_of_mem _ h)
  have hown : s.vm.findClass "LightDoses" = some m.cls := findClass_of_methodNamed B.named
  have hlocks := B.notSynchronized
  have hP : va_P D vwCl ([(h0, .inr (7, [.ref x1, .ref y1, .ref al, .ref dy, .ref fl, .ref br, .ref bk, .int (iI fr), .int (iI po)])), (x2, .inl (cO, xc, .inr (.inr (.inr (.inr xf))))), (e0, .inr (4, [.int (iI kd), .ref e1, .ref e2, .ref e3, .int (iI en)])), (e1, .inl (cI, 8, .inl (fun k => iI (es k)))), (e2, .inl (cI, 16, .inl (fun k => iI (ef k)))), (e3, .inl (cI, 16, .inl (fun k => iI (et k)))), (x1, .inr (9, [.ref x2, .int (iI (no : Int)), .int (iI xm)])), (y1, .inr (9, [.ref y2, .int (iI (nl : Int)), .int (iI ym)])), (al, .inl (cI, 6, .inl (fun k => iI (ba k)))), (dy, .inr (3, [.ref dy1, .ref dy2])), (dy1, .inl (cI, 24, .inl (fun k => iI (dl k)))), (dy2, .inl (cJ, 25, .inr (.inl (fun k => lI (ds k))))), (fl, .inr (5, [.ref fl1, .ref fl2, .ref fl3, .int (iI fn)])), (fl1, .inl (cI, 40, .inl (fun k => iI (fo k)))), (fl2, .inl (cI, 40, .inl (fun k => iI (fh k)))), (fl3, .inl (cI, 40, .inl (fun k => iI (fs k))))] ++ pool (gLr cI cJ cO y2 yc yf LA LC) nl) s.heap := hP
  have hl := lv_entry ([Value.ref h0, Value.int (iI (ob : Int)), Value.int (iI from_), Value.int (iI to_)]) (n := 4) (Nat.le_of_ble_eq_true rfl)
  rw [lg_entry_eq]
  generalize (lg_sl ([Value.ref h0, Value.int (iI (ob : Int)), Value.int (iI from_), Value.int (iI to_)]) ++ List.replicate (4 - (lg_sl ([Value.ref h0, Value.int (iI (ob : Int)), Value.int (iI from_), Value.int (iI to_)])).length) Slot.unset).toArray = ls at hl ⊢
  have hl : lv_has ls 4 [(0, .ref h0), (1, .int (iI (ob : Int))), (2, .int (iI from_)), (3, .int (iI to_))] := hl
  unfold vc_LD_partsOf at v
  refine lv_aload_n hx hb d_LD_partsOf_0 rfl (lv_at hl 0 rfl) ?_
  refine lv_aload_n hx hb d_LD_partsOf_1 rfl (lv_at hl 0 rfl) ?_
  refine lv_iload_n hx hb d_LD_partsOf_2 rfl (lv_at hl 1 rfl) ?_
  obtain ⟨q1, v⟩ := v
  refine va_csr (nv_runV (wc := [(h0, .inr (7, [.ref x1, .ref y1, .ref al, .ref dy, .ref fl, .ref br, .ref bk, .int (iI fr), .int (iI po)])), (x1, .inr (9, [.ref x2, .int (iI (no : Int)), .int (iI xm)])), (x2, .inl (cO, xc, .inr (.inr (.inr (.inr xf))))), (e0, .inr (4, [.int (iI kd), .ref e1, .ref e2, .ref e3, .int (iI en)])), (e1, .inl (cI, 8, .inl (fun k => iI (es k)))), (e2, .inl (cI, 16, .inl (fun k => iI (ef k)))), (e3, .inl (cI, 16, .inl (fun k => iI (et k))))]) (As := [.int (iI (ob : Int))]) (rest := [.ref h0]) ⟨hx, hb, hml, hown, hts⟩ (m_LD_exhibitOf l D cI cJ cO cZ h0 x1 y1 al dy fl br bk x2 e0 e1 e2 e3 fr po no xm xc xf kd es ef et en ob hxf hob hxn hxc q1) (nv_cwV (n := 1) hts wd_191 wd_193 sl_3 wd_1 wd_194 (by decide +kernel) ⟨Nat.le_of_ble_eq_true rfl, Nat.le_of_ble_eq_true rfl⟩) hK (hP.sub [0, 6, 1, 2, 3, 4, 5] rfl) (va_recv hK hP (ci := 7) (q0 := 0) rfl rfl) rfl hl.1 rfl (Nat.le_of_ble_eq_true rfl) d_LD_partsOf_3 (Nat.le_of_ble_eq_true rfl) (Nat.le_of_ble_eq_true rfl)) (fun r9 hr9 => ?_)
  have hr9 : r9 = e0 := hr9
  rw [hr9]
  refine lv_iload_n hx hb d_LD_partsOf_6 rfl (lv_at hl 2 rfl) ?_
  refine lv_iload_n hx hb d_LD_partsOf_7 rfl (lv_at hl 3 rfl) ?_
  obtain ⟨P2, q4, v⟩ := v
  refine vp_callSl (nv_runV (wc := ([(h0, .inr (7, [.ref x1, .ref y1, .ref al, .ref dy, .ref fl, .ref br, .ref bk, .int (iI fr), .int (iI po)])), (x2, .inl (cO, xc, .inr (.inr (.inr (.inr xf))))), (e0, .inr (4, [.int (iI kd), .ref e1, .ref e2, .ref e3, .int (iI en)])), (e1, .inl (cI, 8, .inl (fun k => iI (es k)))), (e2, .inl (cI, 16, .inl (fun k => iI (ef k)))), (e3, .inl (cI, 16, .inl (fun k => iI (et k)))), (x1, .inr (9, [.ref x2, .int (iI (no : Int)), .int (iI xm)])), (y1, .inr (9, [.ref y2, .int (iI (nl : Int)), .int (iI ym)])), (al, .inl (cI, 6, .inl (fun k => iI (ba k)))), (dy, .inr (3, [.ref dy1, .ref dy2])), (dy1, .inl (cI, 24, .inl (fun k => iI (dl k)))), (dy2, .inl (cJ, 25, .inr (.inl (fun k => lI (ds k))))), (fl, .inr (5, [.ref fl1, .ref fl2, .ref fl3, .int (iI fn)])), (fl1, .inl (cI, 40, .inl (fun k => iI (fo k)))), (fl2, .inl (cI, 40, .inl (fun k => iI (fh k)))), (fl3, .inl (cI, 40, .inl (fun k => iI (fs k))))] ++ pool (gLr cI cJ cO y2 yc yf LA LC) nl)) (As := [.ref e0, .int (iI from_), .int (iI to_)]) (rest := []) ⟨hx, hb, hml, hown, hts⟩ (m_LD_partsWhileShown l D cI cJ cO cZ h0 x1 y1 al dy fl br bk x2 e0 e1 e2 e3 y2 dy1 dy2 fl1 fl2 fl3 fr po xc xf kd es ef et en no xm nl ym ba dl ds fo fh fs fn yc yf LA LC ob from_ to_ hxf hob hxn hxc hyF hyn hyc hno hnl P2 q4) (nv_cwV (n := 3) hts wd_287 wd_289 sl_6 wd_1 wd_290 (by decide +kernel) ⟨Nat.le_of_ble_eq_true rfl, Nat.le_of_ble_eq_true rfl⟩) hK hP (va_recv hK hP (ci := 7) (q0 := 0) rfl rfl) rfl hl.1 rfl (Nat.le_of_ble_eq_true rfl) d_LD_partsOf_8 (Nat.le_of_ble_eq_true rfl) (Nat.le_of_ble_eq_true rfl)) (fun r hr => ?_)
  obtain ⟨z3, rfl, hz⟩ := hr
  replace v := v z3 hz
  refine nv_ldc2 (z := 1000) hx hb hown (hts _ wd_311) (by decide) d_LD_partsOf_11 ?_
  refine lv_aload_n hx hb d_LD_partsOf_14 rfl (lv_at hl 0 rfl) ?_
  refine va_get (D := D) (ci := 7) (v := .ref fl) (C := "LightDoses") (T := T_LD) (N := 9) hx hb hts in_LD hown hK hP 0 rfl rfl 4 (by decide) (hts _ wd_143) (fun _ h9 => h9) rfl d_LD_partsOf_15 ?_
  refine lv_iload_n hx hb d_LD_partsOf_18 rfl (lv_at hl 1 rfl) ?_
  refine lv_iload_n hx hb d_LD_partsOf_19 rfl (lv_at hl 2 rfl) ?_
  refine lv_iload_n hx hb d_LD_partsOf_20 rfl (lv_at hl 3 rfl) ?_
  obtain ⟨P5, q7, v⟩ := v
  refine vp_callSl (nv_runV (wc := [(fl, .inr (5, [.ref fl1, .ref fl2, .ref fl3, .int (iI fn)])), (fl1, .inl (cI, 40, .inl (fun k => iI (fo k)))), (fl2, .inl (cI, 40, .inl (fun k => iI (fh k)))), (fl3, .inl (cI, 40, .inl (fun k => iI (fs k))))]) (As := [.int (iI (ob : Int)), .int (iI from_), .int (iI to_)]) (rest := [.long (lI 1000), .long (lI z3)]) ⟨hx, hb, hml, hown, hts⟩ (m_Fl_luxSeconds l D cI cJ cO cZ fl fl1 fl2 fl3 fo fh fs fn (ob : Int) from_ to_ P5 q7) (nv_cwV (n := 3) hts wd_312 wd_313 wd_314 wd_7 wd_315 (by decide +kernel) ⟨Nat.le_of_ble_eq_true rfl, Nat.le_of_ble_eq_true rfl⟩) hK (hP.sub [12, 13, 14, 15] rfl) (va_recv hK hP (ci := 5) (q0 := 12) rfl rfl) rfl hl.1 rfl (Nat.le_of_ble_eq_true rfl) d_LD_partsOf_21 (Nat.le_of_ble_eq_true rfl) (Nat.le_of_ble_eq_true rfl)) (fun r hr => ?_)
  obtain ⟨z6, rfl, hz⟩ := hr
  replace v := v z6 hz
  refine nv_lmul (z := 1000 * z6) hx hb d_LD_partsOf_24 (by first | rfl | omega) ?_
  refine nv_ladd (z := z3 + (1000 * z6)) hx hb d_LD_partsOf_25 (by first | rfl | omega) ?_
  exact W.lret hx hb hr (fun t ht hW => ⟨_, rfl, ⟨_, rfl, v⟩, ht⟩) (fun q h => by cases h) d_LD_partsOf_26

theorem d_LD_partsAllowed_0 : decode prog_1_method_30_code 0 = .ok (.aload_n 0, 1) := by decide +kernel
theorem d_LD_partsAllowed_1 : decode prog_1_method_30_code 1 = .ok (.getfield 19, 3) := by decide +kernel
theorem d_LD_partsAllowed_4 : decode prog_1_method_30_code 4 = .ok (.aload_n 0, 1) := by decide +kernel
theorem d_LD_partsAllowed_5 : decode prog_1_method_30_code 5 = .ok (.iload_n 1, 1) := by decide +kernel
theorem d_LD_partsAllowed_6 : decode prog_1_method_30_code 6 = .ok (.invokevirtual 99, 3) := by decide +kernel
theorem d_LD_partsAllowed_9 : decode prog_1_method_30_code 9 = .ok (.getfield 160, 3) := by decide +kernel
theorem d_LD_partsAllowed_12 : decode prog_1_method_30_code 12 = .ok (.iaload, 1) := by decide +kernel
theorem d_LD_partsAllowed_13 : decode prog_1_method_30_code 13 = .ok (.istore_n 2, 1) := by decide +kernel
theorem d_LD_partsAllowed_14 : decode prog_1_method_30_code 14 = .ok (.iload_n 2, 1) := by decide +kernel
theorem d_LD_partsAllowed_15 : decode prog_1_method_30_code 15 = .ok (.iconst (-1), 1) := by decide +kernel
theorem d_LD_partsAllowed_16 : decode prog_1_method_30_code 16 = .ok (.if_icmp .ne 9, 3) := by decide +kernel
theorem d_LD_partsAllowed_19 : decode prog_1_method_30_code 19 = .ok (.ldc2_w 264, 3) := by decide +kernel
theorem d_LD_partsAllowed_22 : decode prog_1_method_30_code 22 = .ok (.goto 9, 3) := by decide +kernel
theorem d_LD_partsAllowed_25 : decode prog_1_method_30_code 25 = .ok (.ldc2_w 158, 3) := by decide +kernel
theorem d_LD_partsAllowed_28 : decode prog_1_method_30_code 28 = .ok (.iload_n 2, 1) := by decide +kernel
theorem d_LD_partsAllowed_29 : decode prog_1_method_30_code 29 = .ok (.i2l, 1) := by decide +kernel
theorem d_LD_partsAllowed_30 : decode prog_1_method_30_code 30 = .ok (.lmul, 1) := by decide +kernel
theorem d_LD_partsAllowed_31 : decode prog_1_method_30_code 31 = .ok (.lreturn, 1) := by decide +kernel
def vc_LD_partsAllowed (fr : Int) (po : Int) (xc : Nat) (xf : Nat → Option Nat) (kd : Int) (es : Nat → Int) (ef : Nat → Int) (et : Nat → Int) (en : Int) (no : Nat) (xm : Int) (nl : Nat) (ym : Int) (ba : Nat → Int) (dl : Nat → Int) (ds : Nat → Int) (fo : Nat → Int) (fh : Nat → Int) (fs : Nat → Int) (fn : Int) (yc : Nat) (yf : Nat → Option Nat) (LA : Nat → LpA) (LC : Nat → LpC) (ob : Nat) (post : Int → Prop) : Prop := (vc_LD_exhibitOf fr po no xm xc xf kd es ef et en ob) ∧ ((0 ≤ kd ∧ kd < 6) ∧ ((r32 (ba (kd).toNat)) ∧ ((¬ ba (kd).toNat = (-1) → post (3600000 * (ba (kd).toNat))) ∧ (ba (kd).toNat = (-1) → post 1000000000000000000))))
set_option maxHeartbeats 4000000 in
set_option maxRecDepth 100000 in
theorem m_LD_partsAllowed (l : Launch) (D : va_G) (cI cJ cO cZ : ClassId) (h0 x1 y1 al dy fl br bk x2 e0 e1 e2 e3 y2 dy1 dy2 fl1 fl2 fl3 : Nat) (fr : Int) (po : Int) (xc : Nat) (xf : Nat → Option Nat) (kd : Int) (es : Nat → Int) (ef : Nat → Int) (et : Nat → Int) (en : Int) (no : Nat) (xm : Int) (nl : Nat) (ym : Int) (ba : Nat → Int) (dl : Nat → Int) (ds : Nat → Int) (fo : Nat → Int) (fh : Nat → Int) (fs : Nat → Int) (fn : Int) (yc : Nat) (yf : Nat → Option Nat) (LA : Nat → LpA) (LC : Nat → LpC) (ob : Nat) (hxf : xf ob = some e0) (hob : ob < no) (hxn : no ≤ xc) (hxc : xc < 1000000) (hyF : ∀ k, k < nl → yf k = some (LA k).a0) (hyn : nl ≤ yc) (hyc : yc < 1000000) (hno : no ≤ 12) (hnl : nl ≤ 8) (post : Int → Prop) (v : vc_LD_partsAllowed fr po xc xf kd es ef et en no xm nl ym ba dl ds fo fh fs fn yc yf LA LC ob post) : Met l ⟨"LightDoses", "partsAllowed", "(I)J"⟩ (.code ⟨"LightDoses", "partsAllowed", "(I)J"⟩ prog_1_method_30_code 3 (some .long) :: TG) { frames := 4, cells := 0, slots := 0, locals := 85 } (va_Pc [.ref h0, .int (iI (ob : Int))] (fun U => va_K D vwCl (tyx cI cJ cO cZ) U ∧ va_P D vwCl ([(h0, .inr (7, [.ref x1, .ref y1, .ref al, .ref dy, .ref fl, .ref br, .ref bk, .int (iI fr), .int (iI po)])), (x2, .inl (cO, xc, .inr (.inr (.inr (.inr xf))))), (e0, .inr (4, [.int (iI kd), .ref e1, .ref e2, .ref e3, .int (iI en)])), (e1, .inl (cI, 8, .inl (fun k => iI (es k)))), (e2, .inl (cI, 16, .inl (fun k => iI (ef k)))), (e3, .inl (cI, 16, .inl (fun k => iI (et k)))), (x1, .inr (9, [.ref x2, .int (iI (no : Int)), .int (iI xm)])), (y1, .inr (9, [.ref y2, .int (iI (nl : Int)), .int (iI ym)])), (al, .inl (cI, 6, .inl (fun k => iI (ba k)))), (dy, .inr (3, [.ref dy1, .ref dy2])), (dy1, .inl (cI, 24, .inl (fun k => iI (dl k)))), (dy2, .inl (cJ, 25, .inr (.inl (fun k => lI (ds k))))), (fl, .inr (5, [.ref fl1, .ref fl2, .ref fl3, .int (iI fn)])), (fl1, .inl (cI, 40, .inl (fun k => iI (fo k)))), (fl2, .inl (cI, 40, .inl (fun k => iI (fh k)))), (fl3, .inl (cI, 40, .inl (fun k => iI (fs k))))] ++ pool (gLr cI cJ cO y2 yc yf LA LC) nl) U.heap)) (vp_Sl (fun r => ∃ z : Int, r = lI z ∧ post z)) 0 0 (fun _ => False) := by
  refine Met.ofW (cc := prog_1_method_30_code) (maxL := 3) (ret := (some .long)) (by decide) rfl ?_
  intro p e s m args below meth c s₁ B hml hv
  obtain ⟨rfl, hK, hP⟩ := hv
  have hx := B.exec
  have hb := B.bytes
  have hr := B.returns
  have hts0 := atoms_spec (ws := (.code ⟨"LightDoses", "partsAllowed", "(I)J"⟩ prog_1_method_30_code 3 (some .long) :: TG)) B.pre
  have hts : ∀ w ∈ TG, w.before _ s = true := fun w h => hts0 w (List.mem_cons_of_mem _ h)
  have hown : s.vm.findClass "LightDoses" = some m.cls := findClass_of_methodNamed B.named
  have hlocks := B.notSynchronized
  have hP : va_P D vwCl ([(h0, .inr (7, [.ref x1, .ref y1, .ref al, .ref dy, .ref fl, .ref br, .ref bk, .int (iI fr), .int (iI po)])), (x2, .inl (cO, xc, .inr (.inr (.inr (.inr xf))))), (e0, .inr (4, [.int (iI kd), .ref e1, .ref e2, .ref e3, .int (iI en)])), (e1, .inl (cI, 8, .inl (fun k => iI (es k)))), (e2, .inl (cI, 16, .inl (fun k => iI (ef k)))), (e3, .inl (cI, 16, .inl (fun k => iI (et k)))), (x1, .inr (9, [.ref x2, .int (iI (no : Int)), .int (iI xm)])), (y1, .inr (9, [.ref y2, .int (iI (nl : Int)), .int (iI ym)])), (al, .inl (cI, 6, .inl (fun k => iI (ba k)))), (dy, .inr (3, [.ref dy1, .ref dy2])), (dy1, .inl (cI, 24, .inl (fun k => iI (dl k)))), (dy2, .inl (cJ, 25, .inr (.inl (fun k => lI (ds k))))), (fl, .inr (5, [.ref fl1, .ref fl2, .ref fl3, .int (iI fn)])), (fl1, .inl (cI, 40, .inl (fun k => iI (fo k)))), (fl2, .inl (cI, 40, .inl (fun k => iI (fh k)))), (fl3, .inl (cI, 40, .inl (fun k => iI (fs k))))] ++ pool (gLr cI cJ cO y2 yc yf LA LC) nl) s.heap := hP
  have hl := lv_entry ([Value.ref h0, Value.int (iI (ob : Int))]) (n := 3) (Nat.le_of_ble_eq_true rfl)
  rw [lg_entry_eq]
  generalize (lg_sl ([Value.ref h0, Value.int (iI (ob : Int))]) ++ List.replicate (3 - (lg_sl ([Value.ref h0, Value.int (iI (ob : Int))])).length) Slot.unset).toArray = ls at hl ⊢
  have hl : lv_has ls 3 [(0, .ref h0), (1, .int (iI (ob : Int)))] := hl
  unfold vc_LD_partsAllowed at v
  refine lv_aload_n hx hb d_LD_partsAllowed_0 rfl (lv_at hl 0 rfl) ?_
  refine va_get (D := D) (ci := 7) (v := .ref al) (C := "LightDoses") (T := T_LD) (N := 9) hx hb hts in_LD hown hK hP 0 rfl rfl 2 (by decide) (hts _ wd_141) (fun _ h9 => h9) rfl d_LD_partsAllowed_1 ?_
  refine lv_aload_n hx hb d_LD_partsAllowed_4 rfl (lv_at hl 0 rfl) ?_
  refine lv_iload_n hx hb d_LD_partsAllowed_5 rfl (lv_at hl 1 rfl) ?_
  obtain ⟨q1, v⟩ := v
  refine va_csr (nv_runV (wc := [(h0, .inr (7, [.ref x1, .ref y1, .ref al, .ref dy, .ref fl, .ref br, .ref bk, .int (iI fr), .int (iI po)])), (x1, .inr (9, [.ref x2, .int (iI (no : Int)), .int (iI xm)])), (x2, .inl (cO, xc, .inr (.inr (.inr (.inr xf))))), (e0, .inr (4, [.int (iI kd), .ref e1, .ref e2, .ref e3, .int (iI en)])), (e1, .inl (cI, 8, .inl (fun k => iI (es k)))), (e2, .inl (cI, 16, .inl (fun k => iI (ef k)))), (e3, .inl (cI, 16, .inl (fun k => iI (et k))))]) (As := [.int (iI (ob : Int))]) (rest := [.ref al]) ⟨hx, hb, hml, hown, hts⟩ (m_LD_exhibitOf l D cI cJ cO cZ h0 x1 y1 al dy fl br bk x2 e0 e1 e2 e3 fr po no xm xc xf kd es ef et en ob hxf hob hxn hxc q1) (nv_cwV (n := 1) hts wd_191 wd_193 sl_3 wd_1 wd_194 (by decide +kernel) ⟨Nat.le_of_ble_eq_true rfl, Nat.le_of_ble_eq_true rfl⟩) hK (hP.sub [0, 6, 1, 2, 3, 4, 5] rfl) (va_recv hK hP (ci := 7) (q0 := 0) rfl rfl) rfl hl.1 rfl (Nat.le_of_ble_eq_true rfl) d_LD_partsAllowed_6 (Nat.le_of_ble_eq_true rfl) (Nat.le_of_ble_eq_true rfl)) (fun r9 hr9 => ?_)
  have hr9 : r9 = e0 := hr9
  rw [hr9]
  refine va_get (D := D) (ci := 4) (v := .int (iI kd)) (C := "LightDoses$Exhibit") (T := T_Ex) (N := 5) hx hb hts in_Ex hown hK hP 2 rfl rfl 0 (by decide) (hts _ wd_355) (fun _ h9 => h9) rfl d_LD_partsAllowed_9 ?_
  obtain ⟨k2, v⟩ := v
  refine nv_iald (f := ba) hx hb hK 0 (hP 8 _ rfl) rfl (kd).toNat (Int.toNat_of_nonneg k2.1).symm (by omega) (by decide) d_LD_partsAllowed_12 ?_
  refine lv_istore_n (lv' := [(2, .int (iI (ba (kd).toNat))), (0, .ref h0), (1, .int (iI (ob : Int)))]) hx hb d_LD_partsAllowed_13 rfl hl (by decide) rfl (fun ls hl => ?_)
  refine lv_iload_n hx hb d_LD_partsAllowed_14 rfl (lv_at hl 0 rfl) ?_
  refine nv_iconst (n := (-1)) hx hb d_LD_partsAllowed_15 ?_
  obtain ⟨k3, v⟩ := v
  refine nv_icmp_ne (tgt := 25) hx hb d_LD_partsAllowed_16 (by decide) k3 (by decide) (fun c4 => ?_) (fun c4 => ?_)
  · replace v := v.1 c4
    refine nv_ldc2 (z := 3600000) hx hb hown (hts _ wd_282) (by decide) d_LD_partsAllowed_25 ?_
    refine lv_iload_n hx hb d_LD_partsAllowed_28 rfl (lv_at hl 0 rfl) ?_
    refine nv_i2l hx hb d_LD_partsAllowed_29 k3 ?_
    refine nv_lmul (z := 3600000 * (ba (kd).toNat)) hx hb d_LD_partsAllowed_30 (by first | rfl | omega) ?_
    exact W.lret hx hb hr (fun t ht hW => ⟨_, rfl, ⟨_, rfl, v⟩, ht⟩) (fun q h => by cases h) d_LD_partsAllowed_31
  · replace v := v.2 c4
    refine nv_ldc2 (z := 1000000000000000000) hx hb hown (hts _ wd_281) (by decide) d_LD_partsAllowed_19 ?_
    refine lv_goto (tgt := 31) hx hb d_LD_partsAllowed_22 (by decide) ?_
    exact W.lret hx hb hr (fun t ht hW => ⟨_, rfl, ⟨_, rfl, v⟩, ht⟩) (fun q h => by cases h) d_LD_partsAllowed_31

theorem d_LD_partsLeft_0 : decode prog_1_method_31_code 0 = .ok (.iload_n 2, 1) := by decide +kernel
theorem d_LD_partsLeft_1 : decode prog_1_method_31_code 1 = .ok (.sipush 8760, 3) := by decide +kernel
theorem d_LD_partsLeft_4 : decode prog_1_method_31_code 4 = .ok (.imul, 1) := by decide +kernel
theorem d_LD_partsLeft_5 : decode prog_1_method_31_code 5 = .ok (.istore_n 3, 1) := by decide +kernel
theorem d_LD_partsLeft_6 : decode prog_1_method_31_code 6 = .ok (.aload_n 0, 1) := by decide +kernel
theorem d_LD_partsLeft_7 : decode prog_1_method_31_code 7 = .ok (.iload_n 1, 1) := by decide +kernel
theorem d_LD_partsLeft_8 : decode prog_1_method_31_code 8 = .ok (.invokevirtual 266, 3) := by decide +kernel
theorem d_LD_partsLeft_11 : decode prog_1_method_31_code 11 = .ok (.aload_n 0, 1) := by decide +kernel
theorem d_LD_partsLeft_12 : decode prog_1_method_31_code 12 = .ok (.iload_n 1, 1) := by decide +kernel
theorem d_LD_partsLeft_13 : decode prog_1_method_31_code 13 = .ok (.iload_n 3, 1) := by decide +kernel
theorem d_LD_partsLeft_14 : decode prog_1_method_31_code 14 = .ok (.iload_n 3, 1) := by decide +kernel
theorem d_LD_partsLeft_15 : decode prog_1_method_31_code 15 = .ok (.sipush 8760, 3) := by decide +kernel
theorem d_LD_partsLeft_18 : decode prog_1_method_31_code 18 = .ok (.iadd, 1) := by decide +kernel
theorem d_LD_partsLeft_19 : decode prog_1_method_31_code 19 = .ok (.invokevirtual 154, 3) := by decide +kernel
theorem d_LD_partsLeft_22 : decode prog_1_method_31_code 22 = .ok (.lsub, 1) := by decide +kernel
theorem d_LD_partsLeft_23 : decode prog_1_method_31_code 23 = .ok (.lreturn, 1) := by decide +kernel
def vc_LD_partsLeft (fr : Int) (po : Int) (xc : Nat) (xf : Nat → Option Nat) (kd : Int) (es : Nat → Int) (ef : Nat → Int) (et : Nat → Int) (en : Int) (no : Nat) (xm : Int) (nl : Nat) (ym : Int) (ba : Nat → Int) (dl : Nat → Int) (ds : Nat → Int) (fo : Nat → Int) (fh : Nat → Int) (fs : Nat → Int) (fn : Int) (yc : Nat) (yf : Nat → Option Nat) (LA : Nat → LpA) (LC : Nat → LpC) (ob : Nat) (yr : Int) (post : Int → Prop) : Prop := ∃ P1 : Int → Prop, vc_LD_partsAllowed fr po xc xf kd es ef et en no xm nl ym ba dl ds fo fh fs fn yc yf LA LC ob P1 ∧ ∀ z2 : Int, P1 z2 → ∃ P4 : Int → Prop, vc_LD_partsOf fr po xc xf kd es ef et en no xm nl ym ba dl ds fo fh fs fn yc yf LA LC ob (yr * 8760) (yr * 8760 + 8760) P4 ∧ ∀ z5 : Int, P4 z5 → post (z2 - z5)
set_option maxHeartbeats 4000000 in
set_option maxRecDepth 100000 in
theorem m_LD_partsLeft (l : Launch) (D : va_G) (cI cJ cO cZ : ClassId) (h0 x1 y1 al dy fl br bk x2 e0 e1 e2 e3 y2 dy1 dy2 fl1 fl2 fl3 : Nat) (fr : Int) (po : Int) (xc : Nat) (xf : Nat → Option Nat) (kd : Int) (es : Nat → Int) (ef : Nat → Int) (et : Nat → Int) (en : Int) (no : Nat) (xm : Int) (nl : Nat) (ym : Int) (ba : Nat → Int) (dl : Nat → Int) (ds : Nat → Int) (fo : Nat → Int) (fh : Nat → Int) (fs : Nat → Int) (fn : Int) (yc : Nat) (yf : Nat → Option Nat) (LA : Nat → LpA) (LC : Nat → LpC) (ob : Nat) (yr : Int) (hxf : xf ob = some e0) (hob : ob < no) (hxn : no ≤ xc) (hxc : xc < 1000000) (hyF : ∀ k, k < nl → yf k = some (LA k).a0) (hyn : nl ≤ yc) (hyc : yc < 1000000) (hno : no ≤ 12) (hnl : nl ≤ 8) (post : Int → Prop) (v : vc_LD_partsLeft fr po xc xf kd es ef et en no xm nl ym ba dl ds fo fh fs fn yc yf LA LC ob yr post) : Met l ⟨"LightDoses", "partsLeft", "(II)J"⟩ (.code ⟨"LightDoses", "partsLeft", "(II)J"⟩ prog_1_method_31_code 4 (some .long) :: TG) { frames := 6, cells := 0, slots := 0, locals := 144 } (va_Pc [.ref h0, .int (iI (ob : Int)), .int (iI yr)] (fun U => va_K D vwCl (tyx cI cJ cO cZ) U ∧ va_P D vwCl ([(h0, .inr (7, [.ref x1, .ref y1, .ref al, .ref dy, .ref fl, .ref br, .ref bk, .int (iI fr), .int (iI po)])), (x2, .inl (cO, xc, .inr (.inr (.inr (.inr xf))))), (e0, .inr (4, [.int (iI kd), .ref e1, .ref e2, .ref e3, .int (iI en)])), (e1, .inl (cI, 8, .inl (fun k => iI (es k)))), (e2, .inl (cI, 16, .inl (fun k => iI (ef k)))), (e3, .inl (cI, 16, .inl (fun k => iI (et k)))), (x1, .inr (9, [.ref x2, .int (iI (no : Int)), .int (iI xm)])), (y1, .inr (9, [.ref y2, .int (iI (nl : Int)), .int (iI ym)])), (al, .inl (cI, 6, .inl (fun k => iI (ba k)))), (dy, .inr (3, [.ref dy1, .ref dy2])), (dy1, .inl (cI, 24, .inl (fun k => iI (dl k)))), (dy2, .inl (cJ, 25, .inr (.inl (fun k => lI (ds k))))), (fl, .inr (5, [.ref fl1, .ref fl2, .ref fl3, .int (iI fn)])), (fl1, .inl (cI, 40, .inl (fun k => iI (fo k)))), (fl2, .inl (cI, 40, .inl (fun k => iI (fh k)))), (fl3, .inl (cI, 40, .inl (fun k => iI (fs k))))] ++ pool (gLr cI cJ cO y2 yc yf LA LC) nl) U.heap)) (vp_Sl (fun r => ∃ z : Int, r = lI z ∧ post z)) 0 0 (fun _ => False) := by
  refine Met.ofW (cc := prog_1_method_31_code) (maxL := 4) (ret := (some .long)) (by decide) rfl ?_
  intro p e s m args below meth c s₁ B hml hv
  obtain ⟨rfl, hK, hP⟩ := hv
  have hx := B.exec
  have hb := B.bytes
  have hr := B.returns
  have hts0 := atoms_spec (ws := (.code ⟨"LightDoses", "partsLeft", "(II)J"⟩ prog_1_method_31_code 4 (some .long) :: TG)) B.pre
  have hts : ∀ w ∈ TG, w.before _ s = true := fun w h => hts0 w (List.mem_cons_of_mem _ h)
  have hown : s.vm.findClass "LightDoses" = some m.cls := findClass_of_methodNamed B.named
  have hlocks := B.notSynchronized
  have hP : va_P D vwCl ([(h0, .inr (7, [.ref x1, .ref y1, .ref al, .ref dy, .ref fl, .ref br, .ref bk, .int (iI fr), .int (iI po)])), (x2, .inl (cO, xc, .inr (.inr (.inr (.inr xf))))), (e0, .inr (4, [.int (iI kd), .ref e1, .ref e2, .ref e3, .int (iI en)])), (e1, .inl (cI, 8, .inl (fun k => iI (es k)))), (e2, .inl (cI, 16, .inl (fun k => iI (ef k)))), (e3, .inl (cI, 16, .inl (fun k => iI (et k)))), (x1, .inr (9, [.ref x2, .int (iI (no : Int)), .int (iI xm)])), (y1, .inr (9, [.ref y2, .int (iI (nl : Int)), .int (iI ym)])), (al, .inl (cI, 6, .inl (fun k => iI (ba k)))), (dy, .inr (3, [.ref dy1, .ref dy2])), (dy1, .inl (cI, 24, .inl (fun k => iI (dl k)))), (dy2, .inl (cJ, 25, .inr (.inl (fun k => lI (ds k))))), (fl, .inr (5, [.ref fl1, .ref fl2, .ref fl3, .int (iI fn)])), (fl1, .inl (cI, 40, .inl (fun k => iI (fo k)))), (fl2, .inl (cI, 40, .inl (fun k => iI (fh k)))), (fl3, .inl (cI, 40, .inl (fun k => iI (fs k))))] ++ pool (gLr cI cJ cO y2 yc yf LA LC) nl) s.heap := hP
  have hl := lv_entry ([Value.ref h0, Value.int (iI (ob : Int)), Value.int (iI yr)]) (n := 4) (Nat.le_of_ble_eq_true rfl)
  rw [lg_entry_eq]
  generalize (lg_sl ([Value.ref h0, Value.int (iI (ob : Int)), Value.int (iI yr)]) ++ List.replicate (4 - (lg_sl ([Value.ref h0, Value.int (iI (ob : Int)), Value.int (iI yr)])).length) Slot.unset).toArray = ls at hl ⊢
  have hl : lv_has ls 4 [(0, .ref h0), (1, .int (iI (ob : Int))), (2, .int (iI yr))] := hl
  unfold vc_LD_partsLeft at v
  refine lv_iload_n hx hb d_LD_partsLeft_0 rfl (lv_at hl 2 rfl) ?_
  refine nv_sipush (z := 8760) hx hb d_LD_partsLeft_1 (by decide) ?_
  refine nv_imul (z := yr * 8760) hx hb d_LD_partsLeft_4 (by first | rfl | omega) ?_
  refine lv_istore_n (lv' := [(3, .int (iI (yr * 8760))), (0, .ref h0), (1, .int (iI (ob : Int))), (2, .int (iI yr))]) hx hb d_LD_partsLeft_5 rfl hl (by decide) rfl (fun ls hl => ?_)
  refine lv_aload_n hx hb d_LD_partsLeft_6 rfl (lv_at hl 1 rfl) ?_
  refine lv_iload_n hx hb d_LD_partsLeft_7 rfl (lv_at hl 2 rfl) ?_
  obtain ⟨P1, q3, v⟩ := v
  refine vp_callSl (nv_runV (wc := ([(h0, .inr (7, [.ref x1, .ref y1, .ref al, .ref dy, .ref fl, .ref br, .ref bk, .int (iI fr), .int (iI po)])), (x2, .inl (cO, xc, .inr (.inr (.inr (.inr xf))))), (e0, .inr (4, [.int (iI kd), .ref e1, .ref e2, .ref e3, .int (iI en)])), (e1, .inl (cI, 8, .inl (fun k => iI (es k)))), (e2, .inl (cI, 16, .inl (fun k => iI (ef k)))), (e3, .inl (cI, 16, .inl (fun k => iI (et k)))), (x1, .inr (9, [.ref x2, .int (iI (no : Int)), .int (iI xm)])), (y1, .inr (9, [.ref y2, .int (iI (nl : Int)), .int (iI ym)])), (al, .inl (cI, 6, .inl (fun k => iI (ba k)))), (dy, .inr (3, [.ref dy1, .ref dy2])), (dy1, .inl (cI, 24, .inl (fun k => iI (dl k)))), (dy2, .inl (cJ, 25, .inr (.inl (fun k => lI (ds k))))), (fl, .inr (5, [.ref fl1, .ref fl2, .ref fl3, .int (iI fn)])), (fl1, .inl (cI, 40, .inl (fun k => iI (fo k)))), (fl2, .inl (cI, 40, .inl (fun k => iI (fh k)))), (fl3, .inl (cI, 40, .inl (fun k => iI (fs k))))] ++ pool (gLr cI cJ cO y2 yc yf LA LC) nl)) (As := [.int (iI (ob : Int))]) (rest := []) ⟨hx, hb, hml, hown, hts⟩ (m_LD_partsAllowed l D cI cJ cO cZ h0 x1 y1 al dy fl br bk x2 e0 e1 e2 e3 y2 dy1 dy2 fl1 fl2 fl3 fr po xc xf kd es ef et en no xm nl ym ba dl ds fo fh fs fn yc yf LA LC ob hxf hob hxn hxc hyF hyn hyc hno hnl P1 q3) (nv_cwV (n := 1) hts wd_187 wd_189 sl_2 wd_1 wd_190 (by decide +kernel) ⟨Nat.le_of_ble_eq_true rfl, Nat.le_of_ble_eq_true rfl⟩) hK hP (va_recv hK hP (ci := 7) (q0 := 0) rfl rfl) rfl hl.1 rfl (Nat.le_of_ble_eq_true rfl) d_LD_partsLeft_8 (Nat.le_of_ble_eq_true rfl) (Nat.le_of_ble_eq_true rfl)) (fun r hr => ?_)
  obtain ⟨z2, rfl, hz⟩ := hr
  replace v := v z2 hz
  refine lv_aload_n hx hb d_LD_partsLeft_11 rfl (lv_at hl 1 rfl) ?_
  refine lv_iload_n hx hb d_LD_partsLeft_12 rfl (lv_at hl 2 rfl) ?_
  refine lv_iload_n hx hb d_LD_partsLeft_13 rfl (lv_at hl 0 rfl) ?_
  refine lv_iload_n hx hb d_LD_partsLeft_14 rfl (lv_at hl 0 rfl) ?_
  refine nv_sipush (z := 8760) hx hb d_LD_partsLeft_15 (by decide) ?_
  refine nv_iadd (z := yr * 8760 + 8760) hx hb d_LD_partsLeft_18 (by first | rfl | omega) ?_
  obtain ⟨P4, q6, v⟩ := v
  refine vp_callSl (nv_runV (wc := ([(h0, .inr (7, [.ref x1, .ref y1, .ref al, .ref dy, .ref fl, .ref br, .ref bk, .int (iI fr), .int (iI po)])), (x2, .inl (cO, xc, .inr (.inr (.inr (.inr xf))))), (e0, .inr (4, [.int (iI kd), .ref e1, .ref e2, .ref e3, .int (iI en)])), (e1, .inl (cI, 8, .inl (fun k => iI (es k)))), (e2, .inl (cI, 16, .inl (fun k => iI (ef k)))), (e3, .inl (cI, 16, .inl (fun k => iI (et k)))), (x1, .inr (9, [.ref x2, .int (iI (no : Int)), .int (iI xm)])), (y1, .inr (9, [.ref y2, .int (iI (nl : Int)), .int (iI ym)])), (al, .inl (cI, 6, .inl (fun k => iI (ba k)))), (dy, .inr (3, [.ref dy1, .ref dy2])), (dy1, .inl (cI, 24, .inl (fun k => iI (dl k)))), (dy2, .inl (cJ, 25, .inr (.inl (fun k => lI (ds k))))), (fl, .inr (5, [.ref fl1, .ref fl2, .ref fl3, .int (iI fn)])), (fl1, .inl (cI, 40, .inl (fun k => iI (fo k)))), (fl2, .inl (cI, 40, .inl (fun k => iI (fh k)))), (fl3, .inl (cI, 40, .inl (fun k => iI (fs k))))] ++ pool (gLr cI cJ cO y2 yc yf LA LC) nl)) (As := [.int (iI (ob : Int)), .int (iI (yr * 8760)), .int (iI (yr * 8760 + 8760))]) (rest := [.long (lI z2)]) ⟨hx, hb, hml, hown, hts⟩ (m_LD_partsOf l D cI cJ cO cZ h0 x1 y1 al dy fl br bk x2 e0 e1 e2 e3 y2 dy1 dy2 fl1 fl2 fl3 fr po xc xf kd es ef et en no xm nl ym ba dl ds fo fh fs fn yc yf LA LC ob (yr * 8760) (yr * 8760 + 8760) hxf hob hxn hxc hyF hyn hyc hno hnl P4 q6) (nv_cwV (n := 3) hts wd_283 wd_285 sl_5 wd_1 wd_286 (by decide +kernel) ⟨Nat.le_of_ble_eq_true rfl, Nat.le_of_ble_eq_true rfl⟩) hK hP (va_recv hK hP (ci := 7) (q0 := 0) rfl rfl) rfl hl.1 rfl (Nat.le_of_ble_eq_true rfl) d_LD_partsLeft_19 (Nat.le_of_ble_eq_true rfl) (Nat.le_of_ble_eq_true rfl)) (fun r hr => ?_)
  obtain ⟨z5, rfl, hz⟩ := hr
  replace v := v z5 hz
  refine nv_lsub (z := z2 - z5) hx hb d_LD_partsLeft_22 (by first | rfl | omega) ?_
  exact W.lret hx hb hr (fun t ht hW => ⟨_, rfl, ⟨_, rfl, v⟩, ht⟩) (fun q h => by cases h) d_LD_partsLeft_23

theorem d_LD_hoursThatFit_0 : decode prog_1_method_32_code 0 = .ok (.aload_n 0, 1) := by decide +kernel
theorem d_LD_hoursThatFit_1 : decode prog_1_method_32_code 1 = .ok (.iload_n 1, 1) := by decide +kernel
theorem d_LD_hoursThatFit_2 : decode prog_1_method_32_code 2 = .ok (.iload_n 2, 1) := by decide +kernel
theorem d_LD_hoursThatFit_3 : decode prog_1_method_32_code 3 = .ok (.sipush 8760, 3) := by decide +kernel
theorem d_LD_hoursThatFit_6 : decode prog_1_method_32_code 6 = .ok (.idiv, 1) := by decide +kernel
theorem d_LD_hoursThatFit_7 : decode prog_1_method_32_code 7 = .ok (.invokevirtual 164, 3) := by decide +kernel
theorem d_LD_hoursThatFit_10 : decode prog_1_method_32_code 10 = .ok (.lstore 4, 2) := by decide +kernel
theorem d_LD_hoursThatFit_12 : decode prog_1_method_32_code 12 = .ok (.lload 4, 2) := by decide +kernel
theorem d_LD_hoursThatFit_14 : decode prog_1_method_32_code 14 = .ok (.lconst 0, 1) := by decide +kernel
theorem d_LD_hoursThatFit_15 : decode prog_1_method_32_code 15 = .ok (.lcmp, 1) := by decide +kernel
theorem d_LD_hoursThatFit_16 : decode prog_1_method_32_code 16 = .ok (.ifCond .ge 5, 3) := by decide +kernel
theorem d_LD_hoursThatFit_19 : decode prog_1_method_32_code 19 = .ok (.iconst 0, 1) := by decide +kernel
theorem d_LD_hoursThatFit_20 : decode prog_1_method_32_code 20 = .ok (.ireturn, 1) := by decide +kernel
theorem d_LD_hoursThatFit_21 : decode prog_1_method_32_code 21 = .ok (.aload_n 0, 1) := by decide +kernel
theorem d_LD_hoursThatFit_22 : decode prog_1_method_32_code 22 = .ok (.iload_n 1, 1) := by decide +kernel
theorem d_LD_hoursThatFit_23 : decode prog_1_method_32_code 23 = .ok (.invokevirtual 99, 3) := by decide +kernel
theorem d_LD_hoursThatFit_26 : decode prog_1_method_32_code 26 = .ok (.astore 6, 2) := by decide +kernel
theorem d_LD_hoursThatFit_28 : decode prog_1_method_32_code 28 = .ok (.iconst 0, 1) := by decide +kernel
theorem d_LD_hoursThatFit_29 : decode prog_1_method_32_code 29 = .ok (.istore 7, 2) := by decide +kernel
theorem d_LD_hoursThatFit_31 : decode prog_1_method_32_code 31 = .ok (.sipush 8192, 3) := by decide +kernel
theorem d_LD_hoursThatFit_34 : decode prog_1_method_32_code 34 = .ok (.istore 8, 2) := by decide +kernel
theorem d_LD_hoursThatFit_36 : decode prog_1_method_32_code 36 = .ok (.iload 8, 2) := by decide +kernel
theorem d_LD_hoursThatFit_38 : decode prog_1_method_32_code 38 = .ok (.ifCond .le 59, 3) := by decide +kernel
theorem d_LD_hoursThatFit_41 : decode prog_1_method_32_code 41 = .ok (.iload_n 2, 1) := by decide +kernel
theorem d_LD_hoursThatFit_42 : decode prog_1_method_32_code 42 = .ok (.iload 7, 2) := by decide +kernel
theorem d_LD_hoursThatFit_44 : decode prog_1_method_32_code 44 = .ok (.iadd, 1) := by decide +kernel
theorem d_LD_hoursThatFit_45 : decode prog_1_method_32_code 45 = .ok (.iload 8, 2) := by decide +kernel
theorem d_LD_hoursThatFit_47 : decode prog_1_method_32_code 47 = .ok (.iadd, 1) := by decide +kernel
theorem d_LD_hoursThatFit_48 : decode prog_1_method_32_code 48 = .ok (.istore 9, 2) := by decide +kernel
theorem d_LD_hoursThatFit_50 : decode prog_1_method_32_code 50 = .ok (.iload 9, 2) := by decide +kernel
theorem d_LD_hoursThatFit_52 : decode prog_1_method_32_code 52 = .ok (.iload_n 3, 1) := by decide +kernel
theorem d_LD_hoursThatFit_53 : decode prog_1_method_32_code 53 = .ok (.if_icmp .gt 35, 3) := by decide +kernel
theorem d_LD_hoursThatFit_56 : decode prog_1_method_32_code 56 = .ok (.aload_n 0, 1) := by decide +kernel
theorem d_LD_hoursThatFit_57 : decode prog_1_method_32_code 57 = .ok (.aload 6, 2) := by decide +kernel
theorem d_LD_hoursThatFit_59 : decode prog_1_method_32_code 59 = .ok (.iload_n 2, 1) := by decide +kernel
theorem d_LD_hoursThatFit_60 : decode prog_1_method_32_code 60 = .ok (.iload 9, 2) := by decide +kernel
theorem d_LD_hoursThatFit_62 : decode prog_1_method_32_code 62 = .ok (.invokevirtual 254, 3) := by decide +kernel
theorem d_LD_hoursThatFit_65 : decode prog_1_method_32_code 65 = .ok (.aload_n 0, 1) := by decide +kernel
theorem d_LD_hoursThatFit_66 : decode prog_1_method_32_code 66 = .ok (.aload 6, 2) := by decide +kernel
theorem d_LD_hoursThatFit_68 : decode prog_1_method_32_code 68 = .ok (.iload_n 2, 1) := by decide +kernel
theorem d_LD_hoursThatFit_69 : decode prog_1_method_32_code 69 = .ok (.iload 9, 2) := by decide +kernel
theorem d_LD_hoursThatFit_71 : decode prog_1_method_32_code 71 = .ok (.invokevirtual 236, 3) := by decide +kernel
theorem d_LD_hoursThatFit_74 : decode prog_1_method_32_code 74 = .ok (.lsub, 1) := by decide +kernel
theorem d_LD_hoursThatFit_75 : decode prog_1_method_32_code 75 = .ok (.lload 4, 2) := by decide +kernel
theorem d_LD_hoursThatFit_77 : decode prog_1_method_32_code 77 = .ok (.lcmp, 1) := by decide +kernel
theorem d_LD_hoursThatFit_78 : decode prog_1_method_32_code 78 = .ok (.ifCond .gt 10, 3) := by decide +kernel
theorem d_LD_hoursThatFit_81 : decode prog_1_method_32_code 81 = .ok (.iload 7, 2) := by decide +kernel
theorem d_LD_hoursThatFit_83 : decode prog_1_method_32_code 83 = .ok (.iload 8, 2) := by decide +kernel
theorem d_LD_hoursThatFit_85 : decode prog_1_method_32_code 85 = .ok (.iadd, 1) := by decide +kernel
theorem d_LD_hoursThatFit_86 : decode prog_1_method_32_code 86 = .ok (.istore 7, 2) := by decide +kernel
theorem d_LD_hoursThatFit_88 : decode prog_1_method_32_code 88 = .ok (.iload 8, 2) := by decide +kernel
theorem d_LD_hoursThatFit_90 : decode prog_1_method_32_code 90 = .ok (.iconst 2, 1) := by decide +kernel
theorem d_LD_hoursThatFit_91 : decode prog_1_method_32_code 91 = .ok (.idiv, 1) := by decide +kernel
theorem d_LD_hoursThatFit_92 : decode prog_1_method_32_code 92 = .ok (.istore 8, 2) := by decide +kernel
theorem d_LD_hoursThatFit_94 : decode prog_1_method_32_code 94 = .ok (.goto (-58), 3) := by decide +kernel
theorem d_LD_hoursThatFit_97 : decode prog_1_method_32_code 97 = .ok (.iload 7, 2) := by decide +kernel
theorem d_LD_hoursThatFit_99 : decode prog_1_method_32_code 99 = .ok (.ireturn, 1) := by decide +kernel
def vc_LD_hoursThatFit (fr : Int) (po : Int) (xc : Nat) (xf : Nat → Option Nat) (kd : Int) (es : Nat → Int) (ef : Nat → Int) (et : Nat → Int) (en : Int) (no : Nat) (xm : Int) (nl : Nat) (ym : Int) (ba : Nat → Int) (dl : Nat → Int) (ds : Nat → Int) (fo : Nat → Int) (fh : Nat → Int) (fs : Nat → Int) (fn : Int) (yc : Nat) (yf : Nat → Option Nat) (LA : Nat → LpA) (LC : Nat → LpC) (ob : Nat) (from_ : Int) (to_ : Int) (post : Int → Prop) : Prop := (r32 from_) ∧ ((0 ≤ from_) ∧ (∃ P3 : Int → Prop, vc_LD_partsLeft fr po xc xf kd es ef et en no xm nl ym ba dl ds fo fh fs fn yc yf LA LC ob (from_ / 8760) P3 ∧ ∀ z4 : Int, P3 z4 → (r64 z4) ∧ ((0 ≤ z4 → (vc_LD_exhibitOf fr po no xm xc xf kd es ef et en ob) ∧ (∃ (I9 : Int → Int → Prop) (μ10 : Int → Int → Nat), I9 0 8192 ∧ ∀ (fit : Int) (stp : Int), I9 fit stp → (r32 stp) ∧ ((stp ≤ 0 → post fit) ∧ (0 < stp → (r32 (from_ + fit + stp)) ∧ ((r32 to_) ∧ ((to_ < from_ + fit + stp → (0 ≤ stp) ∧ (I9 fit (stp / 2) ∧ μ10 fit (stp / 2) < μ10 fit stp)) ∧ (from_ + fit + stp ≤ to_ → ∃ P19 : Int → Prop, vc_LD_partsIfShown fr po xc xf kd es ef et en no xm nl ym ba dl ds fo fh fs fn yc yf LA LC ob from_ (from_ + fit + stp) P19 ∧ ∀ z20 : Int, P19 z20 → ∃ P22 : Int → Prop, vc_LD_partsWhileShown fr po xc xf kd es ef et en no xm nl ym ba dl ds fo fh fs fn yc yf LA LC ob from_ (from_ + fit + stp) P22 ∧ ∀ z23 : Int, P22 z23 → (r64 (z20 - z23)) ∧ ((z4 < z20 - z23 → (0 ≤ stp) ∧ (I9 fit (stp / 2) ∧ μ10 fit (stp / 2) < μ10 fit stp)) ∧ (z20 - z23 ≤ z4 → (0 ≤ stp) ∧ (I9 (fit + stp) (stp / 2) ∧ μ10 (fit + stp) (stp / 2) < μ10 fit stp)))))))))) ∧ (z4 < 0 → post 0))))
set_option maxHeartbeats 4000000 in
set_option maxRecDepth 100000 in
theorem m_LD_hoursThatFit (l : Launch) (D : va_G) (cI cJ cO cZ : ClassId) (h0 x1 y1 al dy fl br bk x2 e0 e1 e2 e3 y2 dy1 dy2 fl1 fl2 fl3 : Nat) (fr : Int) (po : Int) (xc : Nat) (xf : Nat → Option Nat) (kd : Int) (es : Nat → Int) (ef : Nat → Int) (et : Nat → Int) (en : Int) (no : Nat) (xm : Int) (nl : Nat) (ym : Int) (ba : Nat → Int) (dl : Nat → Int) (ds : Nat → Int) (fo : Nat → Int) (fh : Nat → Int) (fs : Nat → Int) (fn : Int) (yc : Nat) (yf : Nat → Option Nat) (LA : Nat → LpA) (LC : Nat → LpC) (ob : Nat) (from_ : Int) (to_ : Int) (hxf : xf ob = some e0) (hob : ob < no) (hxn : no ≤ xc) (hxc : xc < 1000000) (hyF : ∀ k, k < nl → yf k = some (LA k).a0) (hyn : nl ≤ yc) (hyc : yc < 1000000) (hno : no ≤ 12) (hnl : nl ≤ 8) (post : Int → Prop) (v : vc_LD_hoursThatFit fr po xc xf kd es ef et en no xm nl ym ba dl ds fo fh fs fn yc yf LA LC ob from_ to_ post) : Met l ⟨"LightDoses", "hoursThatFit", "(III)I"⟩ (.code ⟨"LightDoses", "hoursThatFit", "(III)I"⟩ prog_1_method_32_code 10 (some .int) :: TG) { frames := 7, cells := 0, slots := 0, locals := 167 } (va_Pc [.ref h0, .int (iI (ob : Int)), .int (iI from_), .int (iI to_)] (fun U => va_K D vwCl (tyx cI cJ cO cZ) U ∧ va_P D vwCl ([(h0, .inr (7, [.ref x1, .ref y1, .ref al, .ref dy, .ref fl, .ref br, .ref bk, .int (iI fr), .int (iI po)])), (x2, .inl (cO, xc, .inr (.inr (.inr (.inr xf))))), (e0, .inr (4, [.int (iI kd), .ref e1, .ref e2, .ref e3, .int (iI en)])), (e1, .inl (cI, 8, .inl (fun k => iI (es k)))), (e2, .inl (cI, 16, .inl (fun k => iI (ef k)))), (e3, .inl (cI, 16, .inl (fun k => iI (et k)))), (x1, .inr (9, [.ref x2, .int (iI (no : Int)), .int (iI xm)])), (y1, .inr (9, [.ref y2, .int (iI (nl : Int)), .int (iI ym)])), (al, .inl (cI, 6, .inl (fun k => iI (ba k)))), (dy, .inr (3, [.ref dy1, .ref dy2])), (dy1, .inl (cI, 24, .inl (fun k => iI (dl k)))), (dy2, .inl (cJ, 25, .inr (.inl (fun k => lI (ds k))))), (fl, .inr (5, [.ref fl1, .ref fl2, .ref fl3, .int (iI fn)])), (fl1, .inl (cI, 40, .inl (fun k => iI (fo k)))), (fl2, .inl (cI, 40, .inl (fun k => iI (fh k)))), (fl3, .inl (cI, 40, .inl (fun k => iI (fs k))))] ++ pool (gLr cI cJ cO y2 yc yf LA LC) nl) U.heap)) (vp_Si (fun r => ∃ z : Int, r = iI z ∧ post z)) 0 0 (fun _ => False) := by
  refine Met.ofW (cc := prog_1_method_32_code) (maxL := 10) (ret := (some .int)) (by decide) rfl ?_
  intro p e s m args below meth c s₁ B hml hv
  obtain ⟨rfl, hK, hP⟩ := hv
  have hx := B.exec
  have hb := B.bytes
  have hr := B.returns
  have hts0 := atoms_spec (ws := (.code ⟨"LightDoses", "hoursThatFit", "(III)I"⟩ prog_1_method_32_code 10 (some .int) :: TG)) B.pre
  have hts : ∀ w ∈ TG, w.before _ s = true := fun w h => hts0 w (List.mem_cons_of_mem _ h)
  have hown : s.vm.findClass "LightDoses" = some m.cls := findClass_of_methodNamed B.named
  have hlocks := B.notSynchronized
  have hP : va_P D vwCl ([(h0, .inr (7, [.ref x1, .ref y1, .ref al, .ref dy, .ref fl, .ref br, .ref bk, .int (iI fr), .int (iI po)])), (x2, .inl (cO, xc, .inr (.inr (.inr (.inr xf))))), (e0, .inr (4, [.int (iI kd), .ref e1, .ref e2, .ref e3, .int (iI en)])), (e1, .inl (cI, 8, .inl (fun k => iI (es k)))), (e2, .inl (cI, 16, .inl (fun k => iI (ef k)))), (e3, .inl (cI, 16, .inl (fun k => iI (et k)))), (x1, .inr (9, [.ref x2, .int (iI (no : Int)), .int (iI xm)])), (y1, .inr (9, [.ref y2, .int (iI (nl : Int)), .int (iI ym)])), (al, .inl (cI, 6, .inl (fun k => iI (ba k)))), (dy, .inr (3, [.ref dy1, .ref dy2])), (dy1, .inl (cI, 24, .inl (fun k => iI (dl k)))), (dy2, .inl (cJ, 25, .inr (.inl (fun k => lI (ds k))))), (fl, .inr (5, [.ref fl1, .ref fl2, .ref fl3, .int (iI fn)])), (fl1, .inl (cI, 40, .inl (fun k => iI (fo k)))), (fl2, .inl (cI, 40, .inl (fun k => iI (fh k)))), (fl3, .inl (cI, 40, .inl (fun k => iI (fs k))))] ++ pool (gLr cI cJ cO y2 yc yf LA LC) nl) s.heap := hP
  have hl := lv_entry ([Value.ref h0, Value.int (iI (ob : Int)), Value.int (iI from_), Value.int (iI to_)]) (n := 10) (Nat.le_of_ble_eq_true rfl)
  rw [lg_entry_eq]
  generalize (lg_sl ([Value.ref h0, Value.int (iI (ob : Int)), Value.int (iI from_), Value.int (iI to_)]) ++ List.replicate (10 - (lg_sl ([Value.ref h0, Value.int (iI (ob : Int)), Value.int (iI from_), Value.int (iI to_)])).length) Slot.unset).toArray = ls at hl ⊢
  have hl : lv_has ls 10 [(0, .ref h0), (1, .int (iI (ob : Int))), (2, .int (iI from_)), (3, .int (iI to_))] := hl
  unfold vc_LD_hoursThatFit at v
  refine lv_aload_n hx hb d_LD_hoursThatFit_0 rfl (lv_at hl 0 rfl) ?_
  refine lv_iload_n hx hb d_LD_hoursThatFit_1 rfl (lv_at hl 1 rfl) ?_
  refine lv_iload_n hx hb d_LD_hoursThatFit_2 rfl (lv_at hl 2 rfl) ?_
  refine nv_sipush (z := 8760) hx hb d_LD_hoursThatFit_3 (by decide) ?_
  obtain ⟨k1, v⟩ := v
  obtain ⟨k2, v⟩ := v
  refine nv_idiv (z := from_ / 8760) hx hb d_LD_hoursThatFit_6 k1 (by decide) k2 (by decide) rfl ?_
  obtain ⟨P3, q5, v⟩ := v
  refine vp_callSl (nv_runV (wc := ([(h0, .inr (7, [.ref x1, .ref y1, .ref al, .ref dy, .ref fl, .ref br, .ref bk, .int (iI fr), .int (iI po)])), (x2, .inl (cO, xc, .inr (.inr (.inr (.inr xf))))), (e0, .inr (4, [.int (iI kd), .ref e1, .ref e2, .ref e3, .int (iI en)])), (e1, .inl (cI, 8, .inl (fun k => iI (es k)))), (e2, .inl (cI, 16, .inl (fun k => iI (ef k)))), (e3, .inl (cI, 16, .inl (fun k => iI (et k)))), (x1, .inr (9, [.ref x2, .int (iI (no : Int)), .int (iI xm)])), (y1, .inr (9, [.ref y2, .int (iI (nl : Int)), .int (iI ym)])), (al, .inl (cI, 6, .inl (fun k => iI (ba k)))), (dy, .inr (3, [.ref dy1, .ref dy2])), (dy1, .inl (cI, 24, .inl (fun k => iI (dl k)))), (dy2, .inl (cJ, 25, .inr (.inl (fun k => lI (ds k))))), (fl, .inr (5, [.ref fl1, .ref fl2, .ref fl3, .int (iI fn)])), (fl1, .inl (cI, 40, .inl (fun k => iI (fo k)))), (fl2, .inl (cI, 40, .inl (fun k => iI (fh k)))), (fl3, .inl (cI, 40, .inl (fun k => iI (fs k))))] ++ pool (gLr cI cJ cO y2 yc yf LA LC) nl)) (As := [.int (iI (ob : Int)), .int (iI (from_ / 8760))]) (rest := []) ⟨hx, hb, hml, hown, hts⟩ (m_LD_partsLeft l D cI cJ cO cZ h0 x1 y1 al dy fl br bk x2 e0 e1 e2 e3 y2 dy1 dy2 fl1 fl2 fl3 fr po xc xf kd es ef et en no xm nl ym ba dl ds fo fh fs fn yc yf LA LC ob (from_ / 8760) hxf hob hxn hxc hyF hyn hyc hno hnl P3 q5) (nv_cwV (n := 2) hts wd_183 wd_185 sl_1 wd_1 wd_186 (by decide +kernel) ⟨Nat.le_of_ble_eq_true rfl, Nat.le_of_ble_eq_true rfl⟩) hK hP (va_recv hK hP (ci := 7) (q0 := 0) rfl rfl) rfl hl.1 rfl (Nat.le_of_ble_eq_true rfl) d_LD_hoursThatFit_7 (Nat.le_of_ble_eq_true rfl) (Nat.le_of_ble_eq_true rfl)) (fun r hr => ?_)
  obtain ⟨z4, rfl, hz⟩ := hr
  replace v := v z4 hz
  refine lv_lstore (lv' := [(4, .long (lI z4)), (0, .ref h0), (1, .int (iI (ob : Int))), (2, .int (iI from_)), (3, .int (iI to_))]) hx hb d_LD_hoursThatFit_10 hl (by decide) rfl (fun ls hl => ?_)
  refine lv_lload hx hb d_LD_hoursThatFit_12 (lv_at hl 0 rfl) ?_
  refine lv_lconst (v := lI 0) hx hb d_LD_hoursThatFit_14 (by decide) ?_
  obtain ⟨k6, v⟩ := v
  refine nv_lcmp_ge (tgt := 21) hx hb d_LD_hoursThatFit_15 d_LD_hoursThatFit_16 (by decide) k6 (by decide) (fun c7 => ?_) (fun c7 => ?_)
  · replace v := v.1 c7
    refine lv_aload_n hx hb d_LD_hoursThatFit_21 rfl (lv_at hl 1 rfl) ?_
    refine lv_iload_n hx hb d_LD_hoursThatFit_22 rfl (lv_at hl 2 rfl) ?_
    obtain ⟨q8, v⟩ := v
    refine va_csr (nv_runV (wc := [(h0, .inr (7, [.ref x1, .ref y1, .ref al, .ref dy, .ref fl, .ref br, .ref bk, .int (iI fr), .int (iI po)])), (x1, .inr (9, [.ref x2, .int (iI (no : Int)), .int (iI xm)])), (x2, .inl (cO, xc, .inr (.inr (.inr (.inr xf))))), (e0, .inr (4, [.int (iI kd), .ref e1, .ref e2, .ref e3, .int (iI en)])), (e1, .inl (cI, 8, .inl (fun k => iI (es k)))), (e2, .inl (cI, 16, .inl (fun k => iI (ef k)))), (e3, .inl (cI, 16, .inl (fun k => iI (et k))))]) (As := [.int (iI (ob : Int))]) (rest := []) ⟨hx, hb, hml, hown, hts⟩ (m_LD_exhibitOf l D cI cJ cO cZ h0 x1 y1 al dy fl br bk x2 e0 e1 e2 e3 fr po no xm xc xf kd es ef et en ob hxf hob hxn hxc q8) (nv_cwV (n := 1) hts wd_191 wd_193 sl_3 wd_1 wd_194 (by decide +kernel) ⟨Nat.le_of_ble_eq_true rfl, Nat.le_of_ble_eq_true rfl⟩) hK (hP.sub [0, 6, 1, 2, 3, 4, 5] rfl) (va_recv hK hP (ci := 7) (q0 := 0) rfl rfl) rfl hl.1 rfl (Nat.le_of_ble_eq_true rfl) d_LD_hoursThatFit_23 (Nat.le_of_ble_eq_true rfl) (Nat.le_of_ble_eq_true rfl)) (fun r9 hr9 => ?_)
    have hr9 : r9 = e0 := hr9
    rw [hr9]
    refine lv_astore (lv' := [(6, .ref e0), (4, .long (lI z4)), (0, .ref h0), (1, .int (iI (ob : Int))), (2, .int (iI from_)), (3, .int (iI to_))]) hx hb d_LD_hoursThatFit_26 hl (by decide) rfl (fun ls hl => ?_)
    refine nv_iconst (n := 0) hx hb d_LD_hoursThatFit_28 ?_
    refine lv_istore (lv' := [(7, .int (iI 0)), (6, .ref e0), (4, .long (lI z4)), (0, .ref h0), (1, .int (iI (ob : Int))), (2, .int (iI from_)), (3, .int (iI to_))]) hx hb d_LD_hoursThatFit_29 hl (by decide) rfl (fun ls hl => ?_)
    refine nv_sipush (z := 8192) hx hb d_LD_hoursThatFit_31 (by decide) ?_
    refine lv_istore (lv' := [(8, .int (iI 8192)), (7, .int (iI 0)), (6, .ref e0), (4, .long (lI z4)), (0, .ref h0), (1, .int (iI (ob : Int))), (2, .int (iI from_)), (3, .int (iI to_))]) hx hb d_LD_hoursThatFit_34 hl (by decide) rfl (fun ls hl => ?_)
    obtain ⟨I9, μ10, v29, v30⟩ := v
    have L31 : ∀ (N : Nat) (fit : Int) (stp : Int) (ls : Array Slot), μ10 fit stp < N → I9 fit stp → lv_has ls 10 [(0, .ref h0), (1, .int (iI (ob : Int))), (2, .int (iI from_)), (3, .int (iI to_)), (4, .long (lI z4)), (6, .ref e0), (7, .int (iI fit)), (8, .int (iI stp))] → W p l e (headSpec (.code ⟨"LightDoses", "hoursThatFit", "(III)I"⟩ prog_1_method_32_code 10 (some .int) :: TG) { frames := 7, cells := 0, slots := 0, locals := 167 }).room s m ([Value.ref h0, Value.int (iI (ob : Int)), Value.int (iI from_), Value.int (iI to_)] : List Value).toArray below meth c s.heap [] 0 0 (MQ below (vp_Si (fun r => ∃ z : Int, r = iI z ∧ post z)) ([Value.ref h0, Value.int (iI (ob : Int)), Value.int (iI from_), Value.int (iI to_)] : List Value).toArray s 0 0 (fun _ => False)) (F0 m 36 ls []) := by
      intro N
      induction N with
      | zero => intro fit stp ls hN; exact absurd hN (Nat.not_lt_zero _)
      | succ N ih11 =>
        intro fit stp ls hN12 hI hl
        have v := v30 fit stp hI
        refine lv_iload hx hb d_LD_hoursThatFit_36 (lv_at hl 7 rfl) ?_
        obtain ⟨k13, v⟩ := v
        refine nv_if_le (tgt := 97) hx hb d_LD_hoursThatFit_38 (by decide) k13 (fun c14 => ?_) (fun c14 => ?_)
        · replace v := v.1 c14
          refine lv_iload hx hb d_LD_hoursThatFit_97 (lv_at hl 6 rfl) ?_
          exact W.iret hx hb hr (fun t ht hW => ⟨_, rfl, ⟨_, rfl, v⟩, ht⟩) (fun q h => by cases h) d_LD_hoursThatFit_99
        · replace v := v.2 c14
          refine lv_iload_n hx hb d_LD_hoursThatFit_41 rfl (lv_at hl 2 rfl) ?_
          refine lv_iload hx hb d_LD_hoursThatFit_42 (lv_at hl 6 rfl) ?_
          refine nv_iadd (z := from_ + fit) hx hb d_LD_hoursThatFit_44 (by first | rfl | omega) ?_
          refine lv_iload hx hb d_LD_hoursThatFit_45 (lv_at hl 7 rfl) ?_
          refine nv_iadd (z := from_ + fit + stp) hx hb d_LD_hoursThatFit_47 (by first | rfl | omega) ?_
          refine lv_istore (lv' := [(9, .int (iI (from_ + fit + stp))), (0, .ref h0), (1, .int (iI (ob : Int))), (2, .int (iI from_)), (3, .int (iI to_)), (4, .long (lI z4)), (6, .ref e0), (7, .int (iI fit)), (8, .int (iI stp))]) hx hb d_LD_hoursThatFit_48 hl (by decide) rfl (fun ls hl => ?_)
          refine lv_iload hx hb d_LD_hoursThatFit_50 (lv_at hl 0 rfl) ?_
          refine lv_iload_n hx hb d_LD_hoursThatFit_52 rfl (lv_at hl 4 rfl) ?_
          obtain ⟨k15, v⟩ := v
          obtain ⟨k16, v⟩ := v
          refine nv_icmp_gt (tgt := 88) hx hb d_LD_hoursThatFit_53 (by decide) k15 k16 (fun c17 => ?_) (fun c17 => ?_)
          · replace v := v.1 c17
            refine lv_iload hx hb d_LD_hoursThatFit_88 (lv_at hl 8 rfl) ?_
            refine nv_iconst (n := 2) hx hb d_LD_hoursThatFit_90 ?_
            obtain ⟨k18, v⟩ := v
            refine nv_idiv (z := stp / 2) hx hb d_LD_hoursThatFit_91 k13 (by decide) k18 (by decide) rfl ?_
            refine lv_istore (lv' := [(8, .int (iI (stp / 2))), (9, .int (iI (from_ + fit + stp))), (0, .ref h0), (1, .int (iI (ob : Int))), (2, .int (iI from_)), (3, .int (iI to_)), (4, .long (lI z4)), (6, .ref e0), (7, .int (iI fit))]) hx hb d_LD_hoursThatFit_92 hl (by decide) rfl (fun ls hl => ?_)
            refine lv_goto (tgt := 36) hx hb d_LD_hoursThatFit_94 (by decide) ?_
            exact ih11 fit (stp / 2) ls (Nat.lt_of_lt_of_le v.2 (Nat.le_of_lt_succ hN12)) v.1 (lv_sub hl [2, 3, 4, 5, 6, 7, 8, 0] rfl)
          · replace v := v.2 c17
            refine lv_aload_n hx hb d_LD_hoursThatFit_56 rfl (lv_at hl 1 rfl) ?_
            refine lv_aload hx hb d_LD_hoursThatFit_57 (lv_at hl 6 rfl) ?_
            refine lv_iload_n hx hb d_LD_hoursThatFit_59 rfl (lv_at hl 3 rfl) ?_
            refine lv_iload hx hb d_LD_hoursThatFit_60 (lv_at hl 0 rfl) ?_
            obtain ⟨P19, q21, v⟩ := v
            refine vp_callSl (nv_runV (wc := ([(h0, .inr (7, [.ref x1, .ref y1, .ref al, .ref dy, .ref fl, .ref br, .ref bk, .int (iI fr), .int (iI po)])), (x2, .inl (cO, xc, .inr (.inr (.inr (.inr xf))))), (e0, .inr (4, [.int (iI kd), .ref e1, .ref e2, .ref e3, .int (iI en)])), (e1, .inl (cI, 8, .inl (fun k => iI (es k)))), (e2, .inl (cI, 16, .inl (fun k => iI (ef k)))), (e3, .inl (cI, 16, .inl (fun k => iI (et k)))), (x1, .inr (9, [.ref x2, .int (iI (no : Int)), .int (iI xm)])), (y1, .inr (9, [.ref y2, .int (iI (nl : Int)), .int (iI ym)])), (al, .inl (cI, 6, .inl (fun k => iI (ba k)))), (dy, .inr (3, [.ref dy1, .ref dy2])), (dy1, .inl (cI, 24, .inl (fun k => iI (dl k)))), (dy2, .inl (cJ, 25, .inr (.inl (fun k => lI (ds k))))), (fl, .inr (5, [.ref fl1, .ref fl2, .ref fl3, .int (iI fn)])), (fl1, .inl (cI, 40, .inl (fun k => iI (fo k)))), (fl2, .inl (cI, 40, .inl (fun k => iI (fh k)))), (fl3, .inl (cI, 40, .inl (fun k => iI (fs k))))] ++ pool (gLr cI cJ cO y2 yc yf LA LC) nl)) (As := [.ref e0, .int (iI from_), .int (iI (from_ + fit + stp))]) (rest := []) ⟨hx, hb, hml, hown, hts⟩ (m_LD_partsIfShown l D cI cJ cO cZ h0 x1 y1 al dy fl br bk x2 e0 e1 e2 e3 y2 dy1 dy2 fl1 fl2 fl3 fr po xc xf kd es ef et en no xm nl ym ba dl ds fo fh fs fn yc yf LA LC ob from_ (from_ + fit + stp) hxf hob hxn hxc hyF hyn hyc hno hnl P19 q21) (nv_cwV (n := 3) hts wd_297 wd_299 sl_7 wd_1 wd_300 (by decide +kernel) ⟨Nat.le_of_ble_eq_true rfl, Nat.le_of_ble_eq_true rfl⟩) hK hP (va_recv hK hP (ci := 7) (q0 := 0) rfl rfl) rfl hl.1 rfl (Nat.le_of_ble_eq_true rfl) d_LD_hoursThatFit_62 (Nat.le_of_ble_eq_true rfl) (Nat.le_of_ble_eq_true rfl)) (fun r hr => ?_)
            obtain ⟨z20, rfl, hz⟩ := hr
            replace v := v z20 hz
            refine lv_aload_n hx hb d_LD_hoursThatFit_65 rfl (lv_at hl 1 rfl) ?_
            refine lv_aload hx hb d_LD_hoursThatFit_66 (lv_at hl 6 rfl) ?_
            refine lv_iload_n hx hb d_LD_hoursThatFit_68 rfl (lv_at hl 3 rfl) ?_
            refine lv_iload hx hb d_LD_hoursThatFit_69 (lv_at hl 0 rfl) ?_
            obtain ⟨P22, q24, v⟩ := v
            refine vp_callSl (nv_runV (wc := ([(h0, .inr (7, [.ref x1, .ref y1, .ref al, .ref dy, .ref fl, .ref br, .ref bk, .int (iI fr), .int (iI po)])), (x2, .inl (cO, xc, .inr (.inr (.inr (.inr xf))))), (e0, .inr (4, [.int (iI kd), .ref e1, .ref e2, .ref e3, .int (iI en)])), (e1, .inl (cI, 8, .inl (fun k => iI (es k)))), (e2, .inl (cI, 16, .inl (fun k => iI (ef k)))), (e3, .inl (cI, 16, .inl (fun k => iI (et k)))), (x1, .inr (9, [.ref x2, .int (iI (no : Int)), .int (iI xm)])), (y1, .inr (9, [.ref y2, .int (iI (nl : Int)), .int (iI ym)])), (al, .inl (cI, 6, .inl (fun k => iI (ba k)))), (dy, .inr (3, [.ref dy1, .ref dy2])), (dy1, .inl (cI, 24, .inl (fun k => iI (dl k)))), (dy2, .inl (cJ, 25, .inr (.inl (fun k => lI (ds k))))), (fl, .inr (5, [.ref fl1, .ref fl2, .ref fl3, .int (iI fn)])), (fl1, .inl (cI, 40, .inl (fun k => iI (fo k)))), (fl2, .inl (cI, 40, .inl (fun k => iI (fh k)))), (fl3, .inl (cI, 40, .inl (fun k => iI (fs k))))] ++ pool (gLr cI cJ cO y2 yc yf LA LC) nl)) (As := [.ref e0, .int (iI from_), .int (iI (from_ + fit + stp))]) (rest := [.long (lI z20)]) ⟨hx, hb, hml, hown, hts⟩ (m_LD_partsWhileShown l D cI cJ cO cZ h0 x1 y1 al dy fl br bk x2 e0 e1 e2 e3 y2 dy1 dy2 fl1 fl2 fl3 fr po xc xf kd es ef et en no xm nl ym ba dl ds fo fh fs fn yc yf LA LC ob from_ (from_ + fit + stp) hxf hob hxn hxc hyF hyn hyc hno hnl P22 q24) (nv_cwV (n := 3) hts wd_287 wd_289 sl_6 wd_1 wd_290 (by decide +kernel) ⟨Nat.le_of_ble_eq_true rfl, Nat.le_of_ble_eq_true rfl⟩) hK hP (va_recv hK hP (ci := 7) (q0 := 0) rfl rfl) rfl hl.1 rfl (Nat.le_of_ble_eq_true rfl) d_LD_hoursThatFit_71 (Nat.le_of_ble_eq_true rfl) (Nat.le_of_ble_eq_true rfl)) (fun r hr => ?_)
            obtain ⟨z23, rfl, hz⟩ := hr
            replace v := v z23 hz
            refine nv_lsub (z := z20 - z23) hx hb d_LD_hoursThatFit_74 (by first | rfl | omega) ?_
            refine lv_lload hx hb d_LD_hoursThatFit_75 (lv_at hl 5 rfl) ?_
            obtain ⟨k25, v⟩ := v
            refine nv_lcmp_gt (tgt := 88) hx hb d_LD_hoursThatFit_77 d_LD_hoursThatFit_78 (by decide) k25 k6 (fun c26 => ?_) (fun c26 => ?_)
            · replace v := v.1 c26
              refine lv_iload hx hb d_LD_hoursThatFit_88 (lv_at hl 8 rfl) ?_
              refine nv_iconst (n := 2) hx hb d_LD_hoursThatFit_90 ?_
              obtain ⟨k27, v⟩ := v
              refine nv_idiv (z := stp / 2) hx hb d_LD_hoursThatFit_91 k13 (by decide) k27 (by decide) rfl ?_
              refine lv_istore (lv' := [(8, .int (iI (stp / 2))), (9, .int (iI (from_ + fit + stp))), (0, .ref h0), (1, .int (iI (ob : Int))), (2, .int (iI from_)), (3, .int (iI to_)), (4, .long (lI z4)), (6, .ref e0), (7, .int (iI fit))]) hx hb d_LD_hoursThatFit_92 hl (by decide) rfl (fun ls hl => ?_)
              refine lv_goto (tgt := 36) hx hb d_LD_hoursThatFit_94 (by decide) ?_
              exact ih11 fit (stp / 2) ls (Nat.lt_of_lt_of_le v.2 (Nat.le_of_lt_succ hN12)) v.1 (lv_sub hl [2, 3, 4, 5, 6, 7, 8, 0] rfl)
            · replace v := v.2 c26
              refine lv_iload hx hb d_LD_hoursThatFit_81 (lv_at hl 7 rfl) ?_
              refine lv_iload hx hb d_LD_hoursThatFit_83 (lv_at hl 8 rfl) ?_
              refine nv_iadd (z := fit + stp) hx hb d_LD_hoursThatFit_85 (by first | rfl | omega) ?_
              refine lv_istore (lv' := [(7, .int (iI (fit + stp))), (9, .int (iI (from_ + fit + stp))), (0, .ref h0), (1, .int (iI (ob : Int))), (2, .int (iI from_)), (3, .int (iI to_)), (4, .long (lI z4)), (6, .ref e0), (8, .int (iI stp))]) hx hb d_LD_hoursThatFit_86 hl (by decide) rfl (fun ls hl => ?_)
              refine lv_iload hx hb d_LD_hoursThatFit_88 (lv_at hl 8 rfl) ?_
              refine nv_iconst (n := 2) hx hb d_LD_hoursThatFit_90 ?_
              obtain ⟨k28, v⟩ := v
              refine nv_idiv (z := stp / 2) hx hb d_LD_hoursThatFit_91 k13 (by decide) k28 (by decide) rfl ?_
              refine lv_istore (lv' := [(8, .int (iI (stp / 2))), (7, .int (iI (fit + stp))), (9, .int (iI (from_ + fit + stp))), (0, .ref h0), (1, .int (iI (ob : Int))), (2, .int (iI from_)), (3, .int (iI to_)), (4, .long (lI z4)), (6, .ref e0)]) hx hb d_LD_hoursThatFit_92 hl (by decide) rfl (fun ls hl => ?_)
              refine lv_goto (tgt := 36) hx hb d_LD_hoursThatFit_94 (by decide) ?_
              exact ih11 (fit + stp) (stp / 2) ls (Nat.lt_of_lt_of_le v.2 (Nat.le_of_lt_succ hN12)) v.1 (lv_sub hl [3, 4, 5, 6, 7, 8, 1, 0] rfl)
    exact L31 _ 0 8192 ls (Nat.lt_succ_self _) v29 (lv_sub hl [4, 5, 6, 7, 3, 2, 1, 0] rfl)
  · replace v := v.2 c7
    refine nv_iconst (n := 0) hx hb d_LD_hoursThatFit_19 ?_
    exact W.iret hx hb hr (fun t ht hW => ⟨_, rfl, ⟨_, rfl, v⟩, ht⟩) (fun q h => by cases h) d_LD_hoursThatFit_20

theorem d_LD_hourOfBreach_0 : decode prog_1_method_34_code 0 = .ok (.aload_n 0, 1) := by decide +kernel
theorem d_LD_hourOfBreach_1 : decode prog_1_method_34_code 1 = .ok (.iload_n 1, 1) := by decide +kernel
theorem d_LD_hourOfBreach_2 : decode prog_1_method_34_code 2 = .ok (.invokevirtual 266, 3) := by decide +kernel
theorem d_LD_hourOfBreach_5 : decode prog_1_method_34_code 5 = .ok (.lstore_n 3, 1) := by decide +kernel
theorem d_LD_hourOfBreach_6 : decode prog_1_method_34_code 6 = .ok (.iload_n 2, 1) := by decide +kernel
theorem d_LD_hourOfBreach_7 : decode prog_1_method_34_code 7 = .ok (.sipush 8760, 3) := by decide +kernel
theorem d_LD_hourOfBreach_10 : decode prog_1_method_34_code 10 = .ok (.imul, 1) := by decide +kernel
theorem d_LD_hourOfBreach_11 : decode prog_1_method_34_code 11 = .ok (.istore 5, 2) := by decide +kernel
theorem d_LD_hourOfBreach_13 : decode prog_1_method_34_code 13 = .ok (.iload 5, 2) := by decide +kernel
theorem d_LD_hourOfBreach_15 : decode prog_1_method_34_code 15 = .ok (.sipush 8760, 3) := by decide +kernel
theorem d_LD_hourOfBreach_18 : decode prog_1_method_34_code 18 = .ok (.iadd, 1) := by decide +kernel
theorem d_LD_hourOfBreach_19 : decode prog_1_method_34_code 19 = .ok (.istore 6, 2) := by decide +kernel
theorem d_LD_hourOfBreach_21 : decode prog_1_method_34_code 21 = .ok (.iload 5, 2) := by decide +kernel
theorem d_LD_hourOfBreach_23 : decode prog_1_method_34_code 23 = .ok (.istore 7, 2) := by decide +kernel
theorem d_LD_hourOfBreach_25 : decode prog_1_method_34_code 25 = .ok (.sipush 8192, 3) := by decide +kernel
theorem d_LD_hourOfBreach_28 : decode prog_1_method_34_code 28 = .ok (.istore 8, 2) := by decide +kernel
theorem d_LD_hourOfBreach_30 : decode prog_1_method_34_code 30 = .ok (.iload 8, 2) := by decide +kernel
theorem d_LD_hourOfBreach_32 : decode prog_1_method_34_code 32 = .ok (.ifCond .le 46, 3) := by decide +kernel
theorem d_LD_hourOfBreach_35 : decode prog_1_method_34_code 35 = .ok (.iload 7, 2) := by decide +kernel
theorem d_LD_hourOfBreach_37 : decode prog_1_method_34_code 37 = .ok (.iload 8, 2) := by decide +kernel
theorem d_LD_hourOfBreach_39 : decode prog_1_method_34_code 39 = .ok (.iadd, 1) := by decide +kernel
theorem d_LD_hourOfBreach_40 : decode prog_1_method_34_code 40 = .ok (.iload 6, 2) := by decide +kernel
theorem d_LD_hourOfBreach_42 : decode prog_1_method_34_code 42 = .ok (.if_icmp .gt 27, 3) := by decide +kernel
theorem d_LD_hourOfBreach_45 : decode prog_1_method_34_code 45 = .ok (.aload_n 0, 1) := by decide +kernel
theorem d_LD_hourOfBreach_46 : decode prog_1_method_34_code 46 = .ok (.iload_n 1, 1) := by decide +kernel
theorem d_LD_hourOfBreach_47 : decode prog_1_method_34_code 47 = .ok (.iload 5, 2) := by decide +kernel
theorem d_LD_hourOfBreach_49 : decode prog_1_method_34_code 49 = .ok (.iload 7, 2) := by decide +kernel
theorem d_LD_hourOfBreach_51 : decode prog_1_method_34_code 51 = .ok (.iload 8, 2) := by decide +kernel
theorem d_LD_hourOfBreach_53 : decode prog_1_method_34_code 53 = .ok (.iadd, 1) := by decide +kernel
theorem d_LD_hourOfBreach_54 : decode prog_1_method_34_code 54 = .ok (.invokevirtual 154, 3) := by decide +kernel
theorem d_LD_hourOfBreach_57 : decode prog_1_method_34_code 57 = .ok (.lload_n 3, 1) := by decide +kernel
theorem d_LD_hourOfBreach_58 : decode prog_1_method_34_code 58 = .ok (.lcmp, 1) := by decide +kernel
theorem d_LD_hourOfBreach_59 : decode prog_1_method_34_code 59 = .ok (.ifCond .gt 10, 3) := by decide +kernel
theorem d_LD_hourOfBreach_62 : decode prog_1_method_34_code 62 = .ok (.iload 7, 2) := by decide +kernel
theorem d_LD_hourOfBreach_64 : decode prog_1_method_34_code 64 = .ok (.iload 8, 2) := by decide +kernel
theorem d_LD_hourOfBreach_66 : decode prog_1_method_34_code 66 = .ok (.iadd, 1) := by decide +kernel
theorem d_LD_hourOfBreach_67 : decode prog_1_method_34_code 67 = .ok (.istore 7, 2) := by decide +kernel
theorem d_LD_hourOfBreach_69 : decode prog_1_method_34_code 69 = .ok (.iload 8, 2) := by decide +kernel
theorem d_LD_hourOfBreach_71 : decode prog_1_method_34_code 71 = .ok (.iconst 2, 1) := by decide +kernel
theorem d_LD_hourOfBreach_72 : decode prog_1_method_34_code 72 = .ok (.idiv, 1) := by decide +kernel
theorem d_LD_hourOfBreach_73 : decode prog_1_method_34_code 73 = .ok (.istore 8, 2) := by decide +kernel
theorem d_LD_hourOfBreach_75 : decode prog_1_method_34_code 75 = .ok (.goto (-45), 3) := by decide +kernel
theorem d_LD_hourOfBreach_78 : decode prog_1_method_34_code 78 = .ok (.iload 7, 2) := by decide +kernel
theorem d_LD_hourOfBreach_80 : decode prog_1_method_34_code 80 = .ok (.ireturn, 1) := by decide +kernel
def vc_LD_hourOfBreach (fr : Int) (po : Int) (xc : Nat) (xf : Nat → Option Nat) (kd : Int) (es : Nat → Int) (ef : Nat → Int) (et : Nat → Int) (en : Int) (no : Nat) (xm : Int) (nl : Nat) (ym : Int) (ba : Nat → Int) (dl : Nat → Int) (ds : Nat → Int) (fo : Nat → Int) (fh : Nat → Int) (fs : Nat → Int) (fn : Int) (yc : Nat) (yf : Nat → Option Nat) (LA : Nat → LpA) (LC : Nat → LpC) (ob : Nat) (yr : Int) (post : Int → Prop) : Prop := ∃ P1 : Int → Prop, vc_LD_partsAllowed fr po xc xf kd es ef et en no xm nl ym ba dl ds fo fh fs fn yc yf LA LC ob P1 ∧ ∀ z2 : Int, P1 z2 → ∃ (I4 : Int → Int → Prop) (μ5 : Int → Int → Nat), I4 (yr * 8760) 8192 ∧ ∀ (hw_ : Int) (stp : Int), I4 hw_ stp → (r32 stp) ∧ ((stp ≤ 0 → post hw_) ∧ (0 < stp → (r32 (hw_ + stp)) ∧ ((r32 (yr * 8760 + 8760)) ∧ ((yr * 8760 + 8760 < hw_ + stp → (0 ≤ stp) ∧ (I4 hw_ (stp / 2) ∧ μ5 hw_ (stp / 2) < μ5 hw_ stp)) ∧ (hw_ + stp ≤ yr * 8760 + 8760 → ∃ P14 : Int → Prop, vc_LD_partsOf fr po xc xf kd es ef et en no xm nl ym ba dl ds fo fh fs fn yc yf LA LC ob (yr * 8760) (hw_ + stp) P14 ∧ ∀ z15 : Int, P14 z15 → (r64 z15) ∧ ((r64 z2) ∧ ((z2 < z15 → (0 ≤ stp) ∧ (I4 hw_ (stp / 2) ∧ μ5 hw_ (stp / 2) < μ5 hw_ stp)) ∧ (z15 ≤ z2 → (0 ≤ stp) ∧ (I4 (hw_ + stp) (stp / 2) ∧ μ5 (hw_ + stp) (stp / 2) < μ5 hw_ stp)))))))))
set_option maxHeartbeats 4000000 in
set_option maxRecDepth 100000 in
theorem m_LD_hourOfBreach (l : Launch) (D : va_G) (cI cJ cO cZ : ClassId) (h0 x1 y1 al dy fl br bk x2 e0 e1 e2 e3 y2 dy1 dy2 fl1 fl2 fl3 : Nat) (fr : Int) (po : Int) (xc : Nat) (xf : Nat → Option Nat) (kd : Int) (es : Nat → Int) (ef : Nat → Int) (et : Nat → Int) (en : Int) (no : Nat) (xm : Int) (nl : Nat) (ym : Int) (ba : Nat → Int) (dl : Nat → Int) (ds : Nat → Int) (fo : Nat → Int) (fh : Nat → Int) (fs : Nat → Int) (fn : Int) (yc : Nat) (yf : Nat → Option Nat) (LA : Nat → LpA) (LC : Nat → LpC) (ob : Nat) (yr : Int) (hxf : xf ob = some e0) (hob : ob < no) (hxn : no ≤ xc) (hxc : xc < 1000000) (hyF : ∀ k, k < nl → yf k = some (LA k).a0) (hyn : nl ≤ yc) (hyc : yc < 1000000) (hno : no ≤ 12) (hnl : nl ≤ 8) (post : Int → Prop) (v : vc_LD_hourOfBreach fr po xc xf kd es ef et en no xm nl ym ba dl ds fo fh fs fn yc yf LA LC ob yr post) : Met l ⟨"LightDoses", "hourOfBreach", "(II)I"⟩ (.code ⟨"LightDoses", "hourOfBreach", "(II)I"⟩ prog_1_method_34_code 9 (some .int) :: TG) { frames := 6, cells := 0, slots := 0, locals := 144 } (va_Pc [.ref h0, .int (iI (ob : Int)), .int (iI yr)] (fun U => va_K D vwCl (tyx cI cJ cO cZ) U ∧ va_P D vwCl ([(h0, .inr (7, [.ref x1, .ref y1, .ref al, .ref dy, .ref fl, .ref br, .ref bk, .int (iI fr), .int (iI po)])), (x2, .inl (cO, xc, .inr (.inr (.inr (.inr xf))))), (e0, .inr (4, [.int (iI kd), .ref e1, .ref e2, .ref e3, .int (iI en)])), (e1, .inl (cI, 8, .inl (fun k => iI (es k)))), (e2, .inl (cI, 16, .inl (fun k => iI (ef k)))), (e3, .inl (cI, 16, .inl (fun k => iI (et k)))), (x1, .inr (9, [.ref x2, .int (iI (no : Int)), .int (iI xm)])), (y1, .inr (9, [.ref y2, .int (iI (nl : Int)), .int (iI ym)])), (al, .inl (cI, 6, .inl (fun k => iI (ba k)))), (dy, .inr (3, [.ref dy1, .ref dy2])), (dy1, .inl (cI, 24, .inl (fun k => iI (dl k)))), (dy2, .inl (cJ, 25, .inr (.inl (fun k => lI (ds k))))), (fl, .inr (5, [.ref fl1, .ref fl2, .ref fl3, .int (iI fn)])), (fl1, .inl (cI, 40, .inl (fun k => iI (fo k)))), (fl2, .inl (cI, 40, .inl (fun k => iI (fh k)))), (fl3, .inl (cI, 40, .inl (fun k => iI (fs k))))] ++ pool (gLr cI cJ cO y2 yc yf LA LC) nl) U.heap)) (vp_Si (fun r => ∃ z : Int, r = iI z ∧ post z)) 0 0 (fun _ => False) := by
  refine Met.ofW (cc := prog_1_method_34_code) (maxL := 9) (ret := (some .int)) (by decide) rfl ?_
  intro p e s m args below meth c s₁ B hml hv
  obtain ⟨rfl, hK, hP⟩ := hv
  have hx := B.exec
  have hb := B.bytes
  have hr := B.returns
  have hts0 := atoms_spec (ws := (.code ⟨"LightDoses", "hourOfBreach", "(II)I"⟩ prog_1_method_34_code 9 (some .int) :: TG)) B.pre
  have hts : ∀ w ∈ TG, w.before _ s = true := fun w h => hts0 w (List.mem_cons_of_mem _ h)
  have hown : s.vm.findClass "LightDoses" = some m.cls := findClass_of_methodNamed B.named
  have hlocks := B.notSynchronized
  have hP : va_P D vwCl ([(h0, .inr (7, [.ref x1, .ref y1, .ref al, .ref dy, .ref fl, .ref br, .ref bk, .int (iI fr), .int (iI po)])), (x2, .inl (cO, xc, .inr (.inr (.inr (.inr xf))))), (e0, .inr (4, [.int (iI kd), .ref e1, .ref e2, .ref e3, .int (iI en)])), (e1, .inl (cI, 8, .inl (fun k => iI (es k)))), (e2, .inl (cI, 16, .inl (fun k => iI (ef k)))), (e3, .inl (cI, 16, .inl (fun k => iI (et k)))), (x1, .inr (9, [.ref x2, .int (iI (no : Int)), .int (iI xm)])), (y1, .inr (9, [.ref y2, .int (iI (nl : Int)), .int (iI ym)])), (al, .inl (cI, 6, .inl (fun k => iI (ba k)))), (dy, .inr (3, [.ref dy1, .ref dy2])), (dy1, .inl (cI, 24, .inl (fun k => iI (dl k)))), (dy2, .inl (cJ, 25, .inr (.inl (fun k => lI (ds k))))), (fl, .inr (5, [.ref fl1, .ref fl2, .ref fl3, .int (iI fn)])), (fl1, .inl (cI, 40, .inl (fun k => iI (fo k)))), (fl2, .inl (cI, 40, .inl (fun k => iI (fh k)))), (fl3, .inl (cI, 40, .inl (fun k => iI (fs k))))] ++ pool (gLr cI cJ cO y2 yc yf LA LC) nl) s.heap := hP
  have hl := lv_entry ([Value.ref h0, Value.int (iI (ob : Int)), Value.int (iI yr)]) (n := 9) (Nat.le_of_ble_eq_true rfl)
  rw [lg_entry_eq]
  generalize (lg_sl ([Value.ref h0, Value.int (iI (ob : Int)), Value.int (iI yr)]) ++ List.replicate (9 - (lg_sl ([Value.ref h0, Value.int (iI (ob : Int)), Value.int (iI yr)])).length) Slot.unset).toArray = ls at hl ⊢
  have hl : lv_has ls 9 [(0, .ref h0), (1, .int (iI (ob : Int))), (2, .int (iI yr))] := hl
  unfold vc_LD_hourOfBreach at v
  refine lv_aload_n hx hb d_LD_hourOfBreach_0 rfl (lv_at hl 0 rfl) ?_
  refine lv_iload_n hx hb d_LD_hourOfBreach_1 rfl (lv_at hl 1 rfl) ?_
  obtain ⟨P1, q3, v⟩ := v
  refine vp_callSl (nv_runV (wc := ([(h0, .inr (7, [.ref x1, .ref y1, .ref al, .ref dy, .ref fl, .ref br, .ref bk, .int (iI fr), .int (iI po)])), (x2, .inl (cO, xc, .inr (.inr (.inr (.inr xf))))), (e0, .inr (4, [.int (iI kd), .ref e1, .ref e2, .ref e3, .int (iI en)])), (e1, .inl (cI, 8, .inl (fun k => iI (es k)))), (e2, .inl (cI, 16, .inl (fun k => iI (ef k)))), (e3, .inl (cI, 16, .inl (fun k => iI (et k)))), (x1, .inr (9, [.ref x2, .int (iI (no : Int)), .int (iI xm)])), (y1, .inr (9, [.ref y2, .int (iI (nl : Int)), .int (iI ym)])), (al, .inl (cI, 6, .inl (fun k => iI (ba k)))), (dy, .inr (3, [.ref dy1, .ref dy2])), (dy1, .inl (cI, 24, .inl (fun k => iI (dl k)))), (dy2, .inl (cJ, 25, .inr (.inl (fun k => lI (ds k))))), (fl, .inr (5, [.ref fl1, .ref fl2, .ref fl3, .int (iI fn)])), (fl1, .inl (cI, 40, .inl (fun k => iI (fo k)))), (fl2, .inl (cI, 40, .inl (fun k => iI (fh k)))), (fl3, .inl (cI, 40, .inl (fun k => iI (fs k))))] ++ pool (gLr cI cJ cO y2 yc yf LA LC) nl)) (As := [.int (iI (ob : Int))]) (rest := []) ⟨hx, hb, hml, hown, hts⟩ (m_LD_partsAllowed l D cI cJ cO cZ h0 x1 y1 al dy fl br bk x2 e0 e1 e2 e3 y2 dy1 dy2 fl1 fl2 fl3 fr po xc xf kd es ef et en no xm nl ym ba dl ds fo fh fs fn yc yf LA LC ob hxf hob hxn hxc hyF hyn hyc hno hnl P1 q3) (nv_cwV (n := 1) hts wd_187 wd_189 sl_2 wd_1 wd_190 (by decide +kernel) ⟨Nat.le_of_ble_eq_true rfl, Nat.le_of_ble_eq_true rfl⟩) hK hP (va_recv hK hP (ci := 7) (q0 := 0) rfl rfl) rfl hl.1 rfl (Nat.le_of_ble_eq_true rfl) d_LD_hourOfBreach_2 (Nat.le_of_ble_eq_true rfl) (Nat.le_of_ble_eq_true rfl)) (fun r hr => ?_)
  obtain ⟨z2, rfl, hz⟩ := hr
  replace v := v z2 hz
  refine lv_lstore_n (lv' := [(3, .long (lI z2)), (0, .ref h0), (1, .int (iI (ob : Int))), (2, .int (iI yr))]) hx hb d_LD_hourOfBreach_5 rfl hl (by decide) rfl (fun ls hl => ?_)
  refine lv_iload_n hx hb d_LD_hourOfBreach_6 rfl (lv_at hl 3 rfl) ?_
  refine nv_sipush (z := 8760) hx hb d_LD_hourOfBreach_7 (by decide) ?_
  refine nv_imul (z := yr * 8760) hx hb d_LD_hourOfBreach_10 (by first | rfl | omega) ?_
  refine lv_istore (lv' := [(5, .int (iI (yr * 8760))), (3, .long (lI z2)), (0, .ref h0), (1, .int (iI (ob : Int))), (2, .int (iI yr))]) hx hb d_LD_hourOfBreach_11 hl (by decide) rfl (fun ls hl => ?_)
  refine lv_iload hx hb d_LD_hourOfBreach_13 (lv_at hl 0 rfl) ?_
  refine nv_sipush (z := 8760) hx hb d_LD_hourOfBreach_15 (by decide) ?_
  refine nv_iadd (z := yr * 8760 + 8760) hx hb d_LD_hourOfBreach_18 (by first | rfl | omega) ?_
  refine lv_istore (lv' := [(6, .int (iI (yr * 8760 + 8760))), (5, .int (iI (yr * 8760))), (3, .long (lI z2)), (0, .ref h0), (1, .int (iI (ob : Int))), (2, .int (iI yr))]) hx hb d_LD_hourOfBreach_19 hl (by decide) rfl (fun ls hl => ?_)
  refine lv_iload hx hb d_LD_hourOfBreach_21 (lv_at hl 1 rfl) ?_
  refine lv_istore (lv' := [(7, .int (iI (yr * 8760))), (6, .int (iI (yr * 8760 + 8760))), (5, .int (iI (yr * 8760))), (3, .long (lI z2)), (0, .ref h0), (1, .int (iI (ob : Int))), (2, .int (iI yr))]) hx hb d_LD_hourOfBreach_23 hl (by decide) rfl (fun ls hl => ?_)
  refine nv_sipush (z := 8192) hx hb d_LD_hourOfBreach_25 (by decide) ?_
  refine lv_istore (lv' := [(8, .int (iI 8192)), (7, .int (iI (yr * 8760))), (6, .int (iI (yr * 8760 + 8760))), (5, .int (iI (yr * 8760))), (3, .long (lI z2)), (0, .ref h0), (1, .int (iI (ob : Int))), (2, .int (iI yr))]) hx hb d_LD_hourOfBreach_28 hl (by decide) rfl (fun ls hl => ?_)
  obtain ⟨I4, μ5, v22, v23⟩ := v
  have L24 : ∀ (N : Nat) (hw_ : Int) (stp : Int) (ls : Array Slot), μ5 hw_ stp < N → I4 hw_ stp → lv_has ls 9 [(0, .ref h0), (1, .int (iI (ob : Int))), (2, .int (iI yr)), (3, .long (lI z2)), (5, .int (iI (yr * 8760))), (6, .int (iI (yr * 8760 + 8760))), (7, .int (iI hw_)), (8, .int (iI stp))] → W p l e (headSpec (.code ⟨"LightDoses", "hourOfBreach", "(II)I"⟩ prog_1_method_34_code 9 (some .int) :: TG) { frames := 6, cells := 0, slots := 0, locals := 144 }).room s m ([Value.ref h0, Value.int (iI (ob : Int)), Value.int (iI yr)] : List Value).toArray below meth c s.heap [] 0 0 (MQ below (vp_Si (fun r => ∃ z : Int, r = iI z ∧ post z)) ([Value.ref h0, Value.int (iI (ob : Int)), Value.int (iI yr)] : List Value).toArray s 0 0 (fun _ => False)) (F0 m 30 ls []) := by
    intro N
    induction N with
    | zero => intro hw_ stp ls hN; exact absurd hN (Nat.not_lt_zero _)
    | succ N ih6 =>
      intro hw_ stp ls hN7 hI hl
      have v := v23 hw_ stp hI
      refine lv_iload hx hb d_LD_hourOfBreach_30 (lv_at hl 7 rfl) ?_
      obtain ⟨k8, v⟩ := v
      refine nv_if_le (tgt := 78) hx hb d_LD_hourOfBreach_32 (by decide) k8 (fun c9 => ?_) (fun c9 => ?_)
      · replace v := v.1 c9
        refine lv_iload hx hb d_LD_hourOfBreach_78 (lv_at hl 6 rfl) ?_
        exact W.iret hx hb hr (fun t ht hW => ⟨_, rfl, ⟨_, rfl, v⟩, ht⟩) (fun q h => by cases h) d_LD_hourOfBreach_80
      · replace v := v.2 c9
        refine lv_iload hx hb d_LD_hourOfBreach_35 (lv_at hl 6 rfl) ?_
        refine lv_iload hx hb d_LD_hourOfBreach_37 (lv_at hl 7 rfl) ?_
        refine nv_iadd (z := hw_ + stp) hx hb d_LD_hourOfBreach_39 (by first | rfl | omega) ?_
        refine lv_iload hx hb d_LD_hourOfBreach_40 (lv_at hl 5 rfl) ?_
        obtain ⟨k10, v⟩ := v
        obtain ⟨k11, v⟩ := v
        refine nv_icmp_gt (tgt := 69) hx hb d_LD_hourOfBreach_42 (by decide) k10 k11 (fun c12 => ?_) (fun c12 => ?_)
        · replace v := v.1 c12
          refine lv_iload hx hb d_LD_hourOfBreach_69 (lv_at hl 7 rfl) ?_
          refine nv_iconst (n := 2) hx hb d_LD_hourOfBreach_71 ?_
          obtain ⟨k13, v⟩ := v
          refine nv_idiv (z := stp / 2) hx hb d_LD_hourOfBreach_72 k8 (by decide) k13 (by decide) rfl ?_
          refine lv_istore (lv' := [(8, .int (iI (stp / 2))), (0, .ref h0), (1, .int (iI (ob : Int))), (2, .int (iI yr)), (3, .long (lI z2)), (5, .int (iI (yr * 8760))), (6, .int (iI (yr * 8760 + 8760))), (7, .int (iI hw_))]) hx hb d_LD_hourOfBreach_73 hl (by decide) rfl (fun ls hl => ?_)
          refine lv_goto (tgt := 30) hx hb d_LD_hourOfBreach_75 (by decide) ?_
          exact ih6 hw_ (stp / 2) ls (Nat.lt_of_lt_of_le v.2 (Nat.le_of_lt_succ hN7)) v.1 (lv_sub hl [1, 2, 3, 4, 5, 6, 7, 0] rfl)
        · replace v := v.2 c12
          refine lv_aload_n hx hb d_LD_hourOfBreach_45 rfl (lv_at hl 0 rfl) ?_
          refine lv_iload_n hx hb d_LD_hourOfBreach_46 rfl (lv_at hl 1 rfl) ?_
          refine lv_iload hx hb d_LD_hourOfBreach_47 (lv_at hl 4 rfl) ?_
          refine lv_iload hx hb d_LD_hourOfBreach_49 (lv_at hl 6 rfl) ?_
          refine lv_iload hx hb d_LD_hourOfBreach_51 (lv_at hl 7 rfl) ?_
          refine nv_iadd (z := hw_ + stp) hx hb d_LD_hourOfBreach_53 (by first | rfl | omega) ?_
          obtain ⟨P14, q16, v⟩ := v
          refine vp_callSl (nv_runV (wc := ([(h0, .inr (7, [.ref x1, .ref y1, .ref al, .ref dy, .ref fl, .ref br, .ref bk, .int (iI fr), .int (iI po)])), (x2, .inl (cO, xc, .inr (.inr (.inr (.inr xf))))), (e0, .inr (4, [.int (iI kd), .ref e1, .ref e2, .ref e3, .int (iI en)])), (e1, .inl (cI, 8, .inl (fun k => iI (es k)))), (e2, .inl (cI, 16, .inl (fun k => iI (ef k)))), (e3, .inl (cI, 16, .inl (fun k => iI (et k)))), (x1, .inr (9, [.ref x2, .int (iI (no : Int)), .int (iI xm)])), (y1, .inr (9, [.ref y2, .int (iI (nl : Int)), .int (iI ym)])), (al, .inl (cI, 6, .inl (fun k => iI (ba k)))), (dy, .inr (3, [.ref dy1, .ref dy2])), (dy1, .inl (cI, 24, .inl (fun k => iI (dl k)))), (dy2, .inl (cJ, 25, .inr (.inl (fun k => lI (ds k))))), (fl, .inr (5, [.ref fl1, .ref fl2, .ref fl3, .int (iI fn)])), (fl1, .inl (cI, 40, .inl (fun k => iI (fo k)))), (fl2, .inl (cI, 40, .inl (fun k => iI (fh k)))), (fl3, .inl (cI, 40, .inl (fun k => iI (fs k))))] ++ pool (gLr cI cJ cO y2 yc yf LA LC) nl)) (As := [.int (iI (ob : Int)), .int (iI (yr * 8760)), .int (iI (hw_ + stp))]) (rest := []) ⟨hx, hb, hml, hown, hts⟩ (m_LD_partsOf l D cI cJ cO cZ h0 x1 y1 al dy fl br bk x2 e0 e1 e2 e3 y2 dy1 dy2 fl1 fl2 fl3 fr po xc xf kd es ef et en no xm nl ym ba dl ds fo fh fs fn yc yf LA LC ob (yr * 8760) (hw_ + stp) hxf hob hxn hxc hyF hyn hyc hno hnl P14 q16) (nv_cwV (n := 3) hts wd_283 wd_285 sl_5 wd_1 wd_286 (by decide +kernel) ⟨Nat.le_of_ble_eq_true rfl, Nat.le_of_ble_eq_true rfl⟩) hK hP (va_recv hK hP (ci := 7) (q0 := 0) rfl rfl) rfl hl.1 rfl (Nat.le_of_ble_eq_true rfl) d_LD_hourOfBreach_54 (Nat.le_of_ble_eq_true rfl) (Nat.le_of_ble_eq_true rfl)) (fun r hr => ?_)
          obtain ⟨z15, rfl, hz⟩ := hr
          replace v := v z15 hz
          refine lv_lload_n hx hb d_LD_hourOfBreach_57 rfl (lv_at hl 3 rfl) ?_
          obtain ⟨k17, v⟩ := v
          obtain ⟨k18, v⟩ := v
          refine nv_lcmp_gt (tgt := 69) hx hb d_LD_hourOfBreach_58 d_LD_hourOfBreach_59 (by decide) k17 k18 (fun c19 => ?_) (fun c19 => ?_)
          · replace v := v.1 c19
            refine lv_iload hx hb d_LD_hourOfBreach_69 (lv_at hl 7 rfl) ?_
            refine nv_iconst (n := 2) hx hb d_LD_hourOfBreach_71 ?_
            obtain ⟨k20, v⟩ := v
            refine nv_idiv (z := stp / 2) hx hb d_LD_hourOfBreach_72 k8 (by decide) k20 (by decide) rfl ?_
            refine lv_istore (lv' := [(8, .int (iI (stp / 2))), (0, .ref h0), (1, .int (iI (ob : Int))), (2, .int (iI yr)), (3, .long (lI z2)), (5, .int (iI (yr * 8760))), (6, .int (iI (yr * 8760 + 8760))), (7, .int (iI hw_))]) hx hb d_LD_hourOfBreach_73 hl (by decide) rfl (fun ls hl => ?_)
            refine lv_goto (tgt := 30) hx hb d_LD_hourOfBreach_75 (by decide) ?_
            exact ih6 hw_ (stp / 2) ls (Nat.lt_of_lt_of_le v.2 (Nat.le_of_lt_succ hN7)) v.1 (lv_sub hl [1, 2, 3, 4, 5, 6, 7, 0] rfl)
          · replace v := v.2 c19
            refine lv_iload hx hb d_LD_hourOfBreach_62 (lv_at hl 6 rfl) ?_
            refine lv_iload hx hb d_LD_hourOfBreach_64 (lv_at hl 7 rfl) ?_
            refine nv_iadd (z := hw_ + stp) hx hb d_LD_hourOfBreach_66 (by first | rfl | omega) ?_
            refine lv_istore (lv' := [(7, .int (iI (hw_ + stp))), (0, .ref h0), (1, .int (iI (ob : Int))), (2, .int (iI yr)), (3, .long (lI z2)), (5, .int (iI (yr * 8760))), (6, .int (iI (yr * 8760 + 8760))), (8, .int (iI stp))]) hx hb d_LD_hourOfBreach_67 hl (by decide) rfl (fun ls hl => ?_)
            refine lv_iload hx hb d_LD_hourOfBreach_69 (lv_at hl 7 rfl) ?_
            refine nv_iconst (n := 2) hx hb d_LD_hourOfBreach_71 ?_
            obtain ⟨k21, v⟩ := v
            refine nv_idiv (z := stp / 2) hx hb d_LD_hourOfBreach_72 k8 (by decide) k21 (by decide) rfl ?_
            refine lv_istore (lv' := [(8, .int (iI (stp / 2))), (7, .int (iI (hw_ + stp))), (0, .ref h0), (1, .int (iI (ob : Int))), (2, .int (iI yr)), (3, .long (lI z2)), (5, .int (iI (yr * 8760))), (6, .int (iI (yr * 8760 + 8760)))]) hx hb d_LD_hourOfBreach_73 hl (by decide) rfl (fun ls hl => ?_)
            refine lv_goto (tgt := 30) hx hb d_LD_hourOfBreach_75 (by decide) ?_
            exact ih6 (hw_ + stp) (stp / 2) ls (Nat.lt_of_lt_of_le v.2 (Nat.le_of_lt_succ hN7)) v.1 (lv_sub hl [2, 3, 4, 5, 6, 7, 1, 0] rfl)
  exact L24 _ (yr * 8760) 8192 ls (Nat.lt_succ_self _) v22 (lv_sub hl [5, 6, 7, 4, 3, 2, 1, 0] rfl)

