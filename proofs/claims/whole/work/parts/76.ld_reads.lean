/-! MODULE LightDoses: the public methods that read -/
def b_lx (a b : Int) : Int := (lI a ^^^ lI b).toInt
theorem lI_self (x : Int64) : lI x.toInt = x := Int64.ofInt_toInt x
theorem b_lx_r (a b : Int) : r64 (b_lx a b) := by
  have h1 := Int64.le_toInt (lI a ^^^ lI b)
  have h2 := Int64.toInt_lt (lI a ^^^ lI b)
  exact ⟨by show _ ≤ (lI a ^^^ lI b).toInt; omega, by show (lI a ^^^ lI b).toInt ≤ _; omega⟩
theorem b_lx_neg {a b : Int} (ha : r64 a) (hb : r64 b) (h : 0 ≤ b) : b_lx a b < 0 ↔ a < 0 := by
  have e1 : (lI a).toBitVec.msb = decide (a < 0) := by rw [BitVec.msb_eq_toInt]; show decide ((lI a).toInt < 0) = _; rw [lI_toInt ha]
  have e2 : (lI b).toBitVec.msb = false := by
    rw [BitVec.msb_eq_toInt]; show decide ((lI b).toInt < 0) = _; rw [lI_toInt hb]; simp; omega
  have e3 : (lI a ^^^ lI b).toBitVec.msb = decide (b_lx a b < 0) := by rw [BitVec.msb_eq_toInt]; rfl
  have e4 : (lI a ^^^ lI b).toBitVec.msb = decide (a < 0) := by rw [Int64.toBitVec_xor, BitVec.msb_xor, e1, e2, Bool.xor_false]
  rw [e3] at e4
  exact decide_eq_decide.mp e4
theorem nv_lxor {p : Program} {l : Launch} {e : Env} {R : Room} {s : State} {m : MethodId} {args : Array Value} {below : List Frame} {meth : Method} {c : Code} {H : Heap} {locs : List Loc} {cells slots : Nat} {Q : State → Prop} {cc : ByteArray} {pc : Nat} {ls : Array Slot} {rest : List Value} (hexec : p.tables.exec = Jvm.exec) (hb : c.code = cc) {a b : Int} (hdg : decode cc pc = .ok (.lxor, 1))
    (k : W p l e R s m args below meth c H locs cells slots Q (F0 m (pc + 1) ls (.long (lI (b_lx a b)) :: rest))) : W p l e R s m args below meth c H locs cells slots Q (F0 m pc ls (.long (lI b) :: .long (lI a) :: rest)) :=
  lv_lxor hexec hb hdg (nv_eql (lI_self _).symm k)
theorem Met.ofWF {l : Launch} {y : MethodName} {ws ws' : List Cond} {rm : Room} {Pc : Array Value → State → Prop} {Qc : Array Value → State → Outcome → State → Prop} {mc ms : Nat} {free : Addr → Prop} {cc : ByteArray} {maxL : Nat} {ret : Option FieldType}
    (hy : plainFor y = true) (hw : ws = Cond.code y cc maxL ret :: ws')
    (body : ∀ p e s m args below meth c s₁, BodyLoose p l y (headSpec ws rm) cc maxL ret e s m args below meth c s₁ → c.maxLocals = maxL → Pc args s →
      W p l e (headSpec ws rm).room s m args below meth c s.heap [] 0 0 (MQ below Qc args s mc ms free) (entryFrame m args maxL)) : Met l y ws rm Pc Qc mc ms free := by
  refine MetFree.of_bodySF (code := cc) (maxLocals := maxL) (ret := ret) hy ?_ ?_
  · intro args s m h hn
    obtain ⟨meth, c, h1, h2, h3, h4, h5, h6, -, -⟩ := Cond.code_spec hn (atoms_spec (ws := ws) h _ (by rw [hw]; exact List.mem_cons_self))
    exact ⟨meth, c, h1, h2, h3, h4, h5, h6⟩
  · intro p e s m args below meth c s₁ B hml hP _
    have hh0 : s₁.heap = s.heap := by rw [B.state]; rfl
    obtain ⟨t, a1, o, b1, b2, b3⟩ := body p e s m args below meth c s₁ B hml hP s₁ hh0 (Stand.of_body B)
    exact ⟨t, o, a1, b1, b2, ⟨b3.1, b3.2⟩⟩
theorem d_Mth_floorDiv_0 : decode prog_18_method_49_code 0 = .ok (.lload_n 0, 1) := by decide +kernel
theorem d_Mth_floorDiv_1 : decode prog_18_method_49_code 1 = .ok (.lload_n 2, 1) := by decide +kernel
theorem d_Mth_floorDiv_2 : decode prog_18_method_49_code 2 = .ok (.ldiv, 1) := by decide +kernel
theorem d_Mth_floorDiv_3 : decode prog_18_method_49_code 3 = .ok (.lstore 4, 2) := by decide +kernel
theorem d_Mth_floorDiv_5 : decode prog_18_method_49_code 5 = .ok (.lload_n 0, 1) := by decide +kernel
theorem d_Mth_floorDiv_6 : decode prog_18_method_49_code 6 = .ok (.lload_n 2, 1) := by decide +kernel
theorem d_Mth_floorDiv_7 : decode prog_18_method_49_code 7 = .ok (.lxor, 1) := by decide +kernel
theorem d_Mth_floorDiv_8 : decode prog_18_method_49_code 8 = .ok (.lconst 0, 1) := by decide +kernel
theorem d_Mth_floorDiv_9 : decode prog_18_method_49_code 9 = .ok (.lcmp, 1) := by decide +kernel
theorem d_Mth_floorDiv_10 : decode prog_18_method_49_code 10 = .ok (.ifCond .ge 17, 3) := by decide +kernel
theorem d_Mth_floorDiv_13 : decode prog_18_method_49_code 13 = .ok (.lload 4, 2) := by decide +kernel
theorem d_Mth_floorDiv_15 : decode prog_18_method_49_code 15 = .ok (.lload_n 2, 1) := by decide +kernel
theorem d_Mth_floorDiv_16 : decode prog_18_method_49_code 16 = .ok (.lmul, 1) := by decide +kernel
theorem d_Mth_floorDiv_17 : decode prog_18_method_49_code 17 = .ok (.lload_n 0, 1) := by decide +kernel
theorem d_Mth_floorDiv_18 : decode prog_18_method_49_code 18 = .ok (.lcmp, 1) := by decide +kernel
theorem d_Mth_floorDiv_19 : decode prog_18_method_49_code 19 = .ok (.ifCond .eq 8, 3) := by decide +kernel
theorem d_Mth_floorDiv_22 : decode prog_18_method_49_code 22 = .ok (.lload 4, 2) := by decide +kernel
theorem d_Mth_floorDiv_24 : decode prog_18_method_49_code 24 = .ok (.lconst 1, 1) := by decide +kernel
theorem d_Mth_floorDiv_25 : decode prog_18_method_49_code 25 = .ok (.lsub, 1) := by decide +kernel
theorem d_Mth_floorDiv_26 : decode prog_18_method_49_code 26 = .ok (.lreturn, 1) := by decide +kernel
theorem d_Mth_floorDiv_27 : decode prog_18_method_49_code 27 = .ok (.lload 4, 2) := by decide +kernel
theorem d_Mth_floorDiv_29 : decode prog_18_method_49_code 29 = .ok (.lreturn, 1) := by decide +kernel
def vc_Mth_floorDiv (a_ : Int) (post : Int → Prop) : Prop := (r64 a_) ∧ ((r64 (b_lx a_ 3600000)) ∧ ((0 ≤ b_lx a_ 3600000 → post (Int.tdiv a_ 3600000)) ∧ (b_lx a_ 3600000 < 0 → (r64 ((Int.tdiv a_ 3600000) * 3600000)) ∧ (((Int.tdiv a_ 3600000) * 3600000 = a_ → post (Int.tdiv a_ 3600000)) ∧ (¬ (Int.tdiv a_ 3600000) * 3600000 = a_ → post (Int.tdiv a_ 3600000 - 1))))))
set_option maxHeartbeats 4000000 in
set_option maxRecDepth 100000 in
theorem m_Mth_floorDiv (l : Launch) (D : va_G) (cI cJ cO cZ : ClassId)  (a_ : Int) (post : Int → Prop) (v : vc_Mth_floorDiv a_ post) : Met l ⟨"java/lang/Math", "floorDiv", "(JJ)J"⟩ (.code ⟨"java/lang/Math", "floorDiv", "(JJ)J"⟩ prog_18_method_49_code 6 (some .long) :: TG) { frames := 0, cells := 0, slots := 0, locals := 0 } (va_Pc [.long (lI a_), .long (lI 3600000)] (fun U => va_K D vwCl (tyx cI cJ cO cZ) U ∧ va_P D vwCl [] U.heap)) (vp_Sl (fun r => ∃ z : Int, r = lI z ∧ post z)) 0 0 (fun _ => False) := by
  refine Met.ofWF (cc := prog_18_method_49_code) (maxL := 6) (ret := (some .long)) (by decide +kernel) rfl ?_
  intro p e s m args below meth c s₁ B hml hv
  obtain ⟨rfl, hK, hP⟩ := hv
  have hx := B.exec
  have hb := B.bytes
  have hr := B.returns
  have hts0 := atoms_spec (ws := (.code ⟨"java/lang/Math", "floorDiv", "(JJ)J"⟩ prog_18_method_49_code 6 (some .long) :: TG)) B.pre
  have hts : ∀ w ∈ TG, w.before _ s = true := fun w h => hts0 w (List.mem_cons_of_mem _ h)
  have hown : s.vm.findClass "java/lang/Math" = some m.cls := findClass_of_methodNamed B.named
  have hlocks := B.notSynchronized
  have hP : va_P D vwCl [] s.heap := hP
  have hl := lv_entry ([Value.long (lI a_), Value.long (lI 3600000)]) (n := 6) (Nat.le_of_ble_eq_true rfl)
  rw [lg_entry_eq]
  generalize (lg_sl ([Value.long (lI a_), Value.long (lI 3600000)]) ++ List.replicate (6 - (lg_sl ([Value.long (lI a_), Value.long (lI 3600000)])).length) Slot.unset).toArray = ls at hl ⊢
  have hl : lv_has ls 6 [(0, .long (lI a_)), (2, .long (lI 3600000))] := hl
  unfold vc_Mth_floorDiv at v
  refine lv_lload_n hx hb d_Mth_floorDiv_0 rfl (lv_at hl 0 rfl) ?_
  refine lv_lload_n hx hb d_Mth_floorDiv_1 rfl (lv_at hl 1 rfl) ?_
  obtain ⟨k1, v⟩ := v
  refine nv_ldivT (z := Int.tdiv a_ 3600000) hx hb d_Mth_floorDiv_2 k1 (by decide) (by decide) rfl ?_
  refine lv_lstore (lv' := [(4, .long (lI (Int.tdiv a_ 3600000))), (0, .long (lI a_)), (2, .long (lI 3600000))]) hx hb d_Mth_floorDiv_3 hl (by decide) rfl (fun ls hl => ?_)
  refine lv_lload_n hx hb d_Mth_floorDiv_5 rfl (lv_at hl 1 rfl) ?_
  refine lv_lload_n hx hb d_Mth_floorDiv_6 rfl (lv_at hl 2 rfl) ?_
  refine nv_lxor hx hb d_Mth_floorDiv_7 ?_
  refine lv_lconst (v := lI 0) hx hb d_Mth_floorDiv_8 (by decide) ?_
  obtain ⟨k2, v⟩ := v
  refine nv_lcmp_ge (tgt := 27) hx hb d_Mth_floorDiv_9 d_Mth_floorDiv_10 (by decide) k2 (by decide) (fun c3 => ?_) (fun c3 => ?_)
  · replace v := v.1 c3
    refine lv_lload hx hb d_Mth_floorDiv_27 (lv_at hl 0 rfl) ?_
    exact W.lret hx hb hr (fun t ht hW => ⟨_, rfl, ⟨_, rfl, v⟩, ht⟩) (fun q h => by cases h) d_Mth_floorDiv_29
  · replace v := v.2 c3
    refine lv_lload hx hb d_Mth_floorDiv_13 (lv_at hl 0 rfl) ?_
    refine lv_lload_n hx hb d_Mth_floorDiv_15 rfl (lv_at hl 2 rfl) ?_
    refine nv_lmul (z := (Int.tdiv a_ 3600000) * 3600000) hx hb d_Mth_floorDiv_16 (by first | rfl | omega) ?_
    refine lv_lload_n hx hb d_Mth_floorDiv_17 rfl (lv_at hl 1 rfl) ?_
    obtain ⟨k4, v⟩ := v
    refine nv_lcmp_eq (tgt := 27) hx hb d_Mth_floorDiv_18 d_Mth_floorDiv_19 (by decide) k4 k1 (fun c5 => ?_) (fun c5 => ?_)
    · replace v := v.1 c5
      refine lv_lload hx hb d_Mth_floorDiv_27 (lv_at hl 0 rfl) ?_
      exact W.lret hx hb hr (fun t ht hW => ⟨_, rfl, ⟨_, rfl, v⟩, ht⟩) (fun q h => by cases h) d_Mth_floorDiv_29
    · replace v := v.2 c5
      refine lv_lload hx hb d_Mth_floorDiv_22 (lv_at hl 0 rfl) ?_
      refine lv_lconst (v := lI 1) hx hb d_Mth_floorDiv_24 (by decide) ?_
      refine nv_lsub (z := Int.tdiv a_ 3600000 - 1) hx hb d_Mth_floorDiv_25 (by first | rfl | omega) ?_
      exact W.lret hx hb hr (fun t ht hW => ⟨_, rfl, ⟨_, rfl, v⟩, ht⟩) (fun q h => by cases h) d_Mth_floorDiv_26

theorem s_Mth_floorDiv {a : Int} (ha : r64 a) (h1 : -9000000000000000000 ≤ a) : vc_Mth_floorDiv a (fun z => z = a / 3600000) := by
  have e := b_lx_neg ha (b := 3600000) (by decide) (by decide)
  have e2 : a.tdiv 3600000 = if 0 ≤ a then a / 3600000 else -((-a) / 3600000) := by
    split
    · rename_i h; exact Int.tdiv_eq_ediv_of_nonneg h
    · rename_i h
      have h3 := Int.neg_tdiv (-a) 3600000
      rw [Int.neg_neg] at h3
      rw [h3, Int.tdiv_eq_ediv_of_nonneg (by omega)]
  obtain ⟨ha1, ha2⟩ := ha
  unfold vc_Mth_floorDiv
  rw [e2]
  refine ⟨⟨ha1, ha2⟩, b_lx_r _ _, fun q => ?_, fun q => ?_⟩
  · have h0 : 0 ≤ a := by
      rcases Int.lt_or_le a 0 with h | h
      · have := e.mpr h; omega
      · exact h
    rw [if_pos h0]
  · have h0 : a < 0 := e.mp q
    rw [if_neg (by omega)]
    refine ⟨⟨by omega, by omega⟩, fun q2 => ?_, fun q2 => ?_⟩ <;> omega
theorem d_LD_rest_0 : decode prog_1_method_12_code 0 = .ok (.aload_n 0, 1) := by decide +kernel
theorem d_LD_rest_1 : decode prog_1_method_12_code 1 = .ok (.getfield 61, 3) := by decide +kernel
theorem d_LD_rest_4 : decode prog_1_method_12_code 4 = .ok (.ireturn, 1) := by decide +kernel
def vc_LD_rest (fr : Int) (po : Int) (post : Int → Prop) : Prop := post po
set_option maxHeartbeats 4000000 in
set_option maxRecDepth 100000 in
theorem m_LD_rest (l : Launch) (D : va_G) (cI cJ cO cZ : ClassId) (h0 x1 y1 al dy fl br bk : Nat) (fr : Int) (po : Int) (post : Int → Prop) (v : vc_LD_rest fr po post) : Met l ⟨"LightDoses", "rest", "()I"⟩ (.code ⟨"LightDoses", "rest", "()I"⟩ prog_1_method_12_code 1 (some .int) :: TG) { frames := 0, cells := 0, slots := 0, locals := 0 } (va_Pc [.ref h0] (fun U => va_K D vwCl (tyx cI cJ cO cZ) U ∧ va_P D vwCl [(h0, .inr (7, [.ref x1, .ref y1, .ref al, .ref dy, .ref fl, .ref br, .ref bk, .int (iI fr), .int (iI po)]))] U.heap)) (vp_Si (fun r => ∃ z : Int, r = iI z ∧ post z)) 0 0 (fun _ => False) := by
  refine Met.ofW (cc := prog_1_method_12_code) (maxL := 1) (ret := (some .int)) (by decide) rfl ?_
  intro p e s m args below meth c s₁ B hml hv
  obtain ⟨rfl, hK, hP⟩ := hv
  have hx := B.exec
  have hb := B.bytes
  have hr := B.returns
  have hts0 := atoms_spec (ws := (.code ⟨"LightDoses", "rest", "()I"⟩ prog_1_method_12_code 1 (some .int) :: TG)) B.pre
  have hts : ∀ w ∈ TG, w.before _ s = true := fun w h => hts0 w (List.mem_cons_of_mem _ h)
  have hown : s.vm.findClass "LightDoses" = some m.cls := findClass_of_methodNamed B.named
  have hlocks := B.notSynchronized
  have hP : va_P D vwCl [(h0, .inr (7, [.ref x1, .ref y1, .ref al, .ref dy, .ref fl, .ref br, .ref bk, .int (iI fr), .int (iI po)]))] s.heap := hP
  have hl := lv_entry ([Value.ref h0]) (n := 1) (Nat.le_of_ble_eq_true rfl)
  rw [lg_entry_eq]
  generalize (lg_sl ([Value.ref h0]) ++ List.replicate (1 - (lg_sl ([Value.ref h0])).length) Slot.unset).toArray = ls at hl ⊢
  have hl : lv_has ls 1 [(0, .ref h0)] := hl
  unfold vc_LD_rest at v
  refine lv_aload_n hx hb d_LD_rest_0 rfl (lv_at hl 0 rfl) ?_
  refine va_get (D := D) (ci := 7) (v := .int (iI po)) (C := "LightDoses") (T := T_LD) (N := 9) hx hb hts in_LD hown hK hP 0 rfl rfl 8 (by decide) (hts _ wd_147) (fun _ h9 => h9) rfl d_LD_rest_1 ?_
  exact W.iret hx hb hr (fun t ht hW => ⟨_, rfl, ⟨_, rfl, v⟩, ht⟩) (fun q h => by cases h) d_LD_rest_4

theorem d_LD_turned_0 : decode prog_1_method_19_code 0 = .ok (.iload_n 1, 1) := by decide +kernel
theorem d_LD_turned_1 : decode prog_1_method_19_code 1 = .ok (.aload_n 0, 1) := by decide +kernel
theorem d_LD_turned_2 : decode prog_1_method_19_code 2 = .ok (.getfield 53, 3) := by decide +kernel
theorem d_LD_turned_5 : decode prog_1_method_19_code 5 = .ok (.getfield 206, 3) := by decide +kernel
theorem d_LD_turned_8 : decode prog_1_method_19_code 8 = .ok (.invokestatic 65, 3) := by decide +kernel
theorem d_LD_turned_11 : decode prog_1_method_19_code 11 = .ok (.aload_n 0, 1) := by decide +kernel
theorem d_LD_turned_12 : decode prog_1_method_19_code 12 = .ok (.getfield 53, 3) := by decide +kernel
theorem d_LD_turned_15 : decode prog_1_method_19_code 15 = .ok (.getfield 209, 3) := by decide +kernel
theorem d_LD_turned_18 : decode prog_1_method_19_code 18 = .ok (.iload_n 1, 1) := by decide +kernel
theorem d_LD_turned_19 : decode prog_1_method_19_code 19 = .ok (.iaload, 1) := by decide +kernel
theorem d_LD_turned_20 : decode prog_1_method_19_code 20 = .ok (.ireturn, 1) := by decide +kernel
def vc_LD_turned (fr : Int) (po : Int) (kh : Nat → Int) (kc : Nat → Int) (kp : Int) (kn : Int) (k_ : Int) (post : Int → Prop) : Prop := (r32 k_) ∧ ((r32 kn) ∧ ((0 ≤ k_ ∧ k_ < kn) ∧ ((0 ≤ k_ ∧ k_ < 12) ∧ (post (kc (k_).toNat)))))
set_option maxHeartbeats 4000000 in
set_option maxRecDepth 100000 in
theorem m_LD_turned (l : Launch) (D : va_G) (cI cJ cO cZ : ClassId) (h0 x1 y1 al dy fl br bk bk1 bk2 : Nat) (fr : Int) (po : Int) (kh : Nat → Int) (kc : Nat → Int) (kp : Int) (kn : Int) (k_ : Int) (post : Int → Prop) (v : vc_LD_turned fr po kh kc kp kn k_ post) : Met l ⟨"LightDoses", "turned", "(I)I"⟩ (.code ⟨"LightDoses", "turned", "(I)I"⟩ prog_1_method_19_code 2 (some .int) :: TG) { frames := 1, cells := 0, slots := 0, locals := 21 } (va_Pc [.ref h0, .int (iI k_)] (fun U => va_K D vwCl (tyx cI cJ cO cZ) U ∧ va_P D vwCl [(h0, .inr (7, [.ref x1, .ref y1, .ref al, .ref dy, .ref fl, .ref br, .ref bk, .int (iI fr), .int (iI po)])), (bk, .inr (0, [.ref bk1, .ref bk2, .int (iI kp), .int (iI kn)])), (bk1, .inl (cI, 12, .inl (fun k => iI (kh k)))), (bk2, .inl (cI, 12, .inl (fun k => iI (kc k))))] U.heap)) (vp_Si (fun r => ∃ z : Int, r = iI z ∧ post z)) 0 0 (fun _ => False) := by
  refine Met.ofW (cc := prog_1_method_19_code) (maxL := 2) (ret := (some .int)) (by decide) rfl ?_
  intro p e s m args below meth c s₁ B hml hv
  obtain ⟨rfl, hK, hP⟩ := hv
  have hx := B.exec
  have hb := B.bytes
  have hr := B.returns
  have hts0 := atoms_spec (ws := (.code ⟨"LightDoses", "turned", "(I)I"⟩ prog_1_method_19_code 2 (some .int) :: TG)) B.pre
  have hts : ∀ w ∈ TG, w.before _ s = true := fun w h => hts0 w (List.mem_cons_of_mem _ h)
  have hown : s.vm.findClass "LightDoses" = some m.cls := findClass_of_methodNamed B.named
  have hlocks := B.notSynchronized
  have hP : va_P D vwCl [(h0, .inr (7, [.ref x1, .ref y1, .ref al, .ref dy, .ref fl, .ref br, .ref bk, .int (iI fr), .int (iI po)])), (bk, .inr (0, [.ref bk1, .ref bk2, .int (iI kp), .int (iI kn)])), (bk1, .inl (cI, 12, .inl (fun k => iI (kh k)))), (bk2, .inl (cI, 12, .inl (fun k => iI (kc k))))] s.heap := hP
  have hl := lv_entry ([Value.ref h0, Value.int (iI k_)]) (n := 2) (Nat.le_of_ble_eq_true rfl)
  rw [lg_entry_eq]
  generalize (lg_sl ([Value.ref h0, Value.int (iI k_)]) ++ List.replicate (2 - (lg_sl ([Value.ref h0, Value.int (iI k_)])).length) Slot.unset).toArray = ls at hl ⊢
  have hl : lv_has ls 2 [(0, .ref h0), (1, .int (iI k_))] := hl
  unfold vc_LD_turned at v
  refine lv_iload_n hx hb d_LD_turned_0 rfl (lv_at hl 1 rfl) ?_
  refine lv_aload_n hx hb d_LD_turned_1 rfl (lv_at hl 0 rfl) ?_
  refine va_get (D := D) (ci := 7) (v := .ref bk) (C := "LightDoses") (T := T_LD) (N := 9) hx hb hts in_LD hown hK hP 0 rfl rfl 6 (by decide) (hts _ wd_145) (fun _ h9 => h9) rfl d_LD_turned_2 ?_
  refine va_get (D := D) (ci := 0) (v := .int (iI kn)) (C := "LightDoses$Book") (T := T_Bk) (N := 4) hx hb hts in_Bk hown hK hP 1 rfl rfl 3 (by decide) (hts _ wd_129) (fun _ h9 => h9) rfl d_LD_turned_5 ?_
  obtain ⟨k1, v⟩ := v
  obtain ⟨k2, v⟩ := v
  obtain ⟨c3, v⟩ := v
  refine nv_callSv (nv_runS (wc := []) (As := [.int (iI k_), .int (iI kn)]) (rest := []) ⟨hx, hb, hml, hown, hts⟩ (m_LD_checkIndex l D cI cJ cO cZ k_ kn (s_LD_checkIndex k1 k2 c3)) (nv_cwS (n := 2) hts wd_195 wd_196 wd_1 wd_197 (by decide +kernel) ⟨Nat.le_of_ble_eq_true rfl, Nat.le_of_ble_eq_true rfl⟩) hK (hP.sub [] rfl) rfl hl.1 rfl (Nat.le_of_ble_eq_true rfl) d_LD_turned_8 (Nat.le_of_ble_eq_true rfl) (Nat.le_of_ble_eq_true rfl)) ?_
  refine lv_aload_n hx hb d_LD_turned_11 rfl (lv_at hl 0 rfl) ?_
  refine va_get (D := D) (ci := 7) (v := .ref bk) (C := "LightDoses") (T := T_LD) (N := 9) hx hb hts in_LD hown hK hP 0 rfl rfl 6 (by decide) (hts _ wd_145) (fun _ h9 => h9) rfl d_LD_turned_12 ?_
  refine va_get (D := D) (ci := 0) (v := .ref bk2) (C := "LightDoses$Book") (T := T_Bk) (N := 4) hx hb hts in_Bk hown hK hP 1 rfl rfl 1 (by decide) (hts _ wd_125) (fun _ h9 => h9) rfl d_LD_turned_15 ?_
  refine lv_iload_n hx hb d_LD_turned_18 rfl (lv_at hl 1 rfl) ?_
  obtain ⟨k4, v⟩ := v
  refine nv_iald (f := kc) hx hb hK 0 (hP 3 _ rfl) rfl (k_).toNat (Int.toNat_of_nonneg k4.1).symm (by omega) (by decide) d_LD_turned_19 ?_
  exact W.iret hx hb hr (fun t ht hW => ⟨_, rfl, ⟨_, rfl, v⟩, ht⟩) (fun q h => by cases h) d_LD_turned_20

theorem d_LD_count_0 : decode prog_1_method_20_code 0 = .ok (.iload_n 1, 1) := by decide +kernel
theorem d_LD_count_1 : decode prog_1_method_20_code 1 = .ok (.tableswitch 75 0 4 #[35, 43, 51, 59, 67], 35) := by decide +kernel
theorem d_LD_count_36 : decode prog_1_method_20_code 36 = .ok (.aload_n 0, 1) := by decide +kernel
theorem d_LD_count_37 : decode prog_1_method_20_code 37 = .ok (.getfield 12, 3) := by decide +kernel
theorem d_LD_count_40 : decode prog_1_method_20_code 40 = .ok (.invokevirtual 69, 3) := by decide +kernel
theorem d_LD_count_43 : decode prog_1_method_20_code 43 = .ok (.ireturn, 1) := by decide +kernel
theorem d_LD_count_44 : decode prog_1_method_20_code 44 = .ok (.aload_n 0, 1) := by decide +kernel
theorem d_LD_count_45 : decode prog_1_method_20_code 45 = .ok (.getfield 16, 3) := by decide +kernel
theorem d_LD_count_48 : decode prog_1_method_20_code 48 = .ok (.invokevirtual 69, 3) := by decide +kernel
theorem d_LD_count_51 : decode prog_1_method_20_code 51 = .ok (.ireturn, 1) := by decide +kernel
theorem d_LD_count_52 : decode prog_1_method_20_code 52 = .ok (.aload_n 0, 1) := by decide +kernel
theorem d_LD_count_53 : decode prog_1_method_20_code 53 = .ok (.getfield 39, 3) := by decide +kernel
theorem d_LD_count_56 : decode prog_1_method_20_code 56 = .ok (.getfield 149, 3) := by decide +kernel
theorem d_LD_count_59 : decode prog_1_method_20_code 59 = .ok (.ireturn, 1) := by decide +kernel
theorem d_LD_count_60 : decode prog_1_method_20_code 60 = .ok (.aload_n 0, 1) := by decide +kernel
theorem d_LD_count_61 : decode prog_1_method_20_code 61 = .ok (.getfield 53, 3) := by decide +kernel
theorem d_LD_count_64 : decode prog_1_method_20_code 64 = .ok (.getfield 192, 3) := by decide +kernel
theorem d_LD_count_67 : decode prog_1_method_20_code 67 = .ok (.ireturn, 1) := by decide +kernel
theorem d_LD_count_68 : decode prog_1_method_20_code 68 = .ok (.aload_n 0, 1) := by decide +kernel
theorem d_LD_count_69 : decode prog_1_method_20_code 69 = .ok (.getfield 53, 3) := by decide +kernel
theorem d_LD_count_72 : decode prog_1_method_20_code 72 = .ok (.getfield 206, 3) := by decide +kernel
theorem d_LD_count_75 : decode prog_1_method_20_code 75 = .ok (.ireturn, 1) := by decide +kernel
theorem d_LD_count_76 : decode prog_1_method_20_code 76 = .ok (.new 212, 3) := by decide +kernel
theorem d_LD_count_79 : decode prog_1_method_20_code 79 = .ok (.dup, 1) := by decide +kernel
theorem d_LD_count_80 : decode prog_1_method_20_code 80 = .ok (.ldc 214, 2) := by decide +kernel
theorem d_LD_count_82 : decode prog_1_method_20_code 82 = .ok (.invokespecial 216, 3) := by decide +kernel
theorem d_LD_count_85 : decode prog_1_method_20_code 85 = .ok (.athrow, 1) := by decide +kernel
def vc_LD_count (fr : Int) (po : Int) (no : Nat) (xm : Int) (nl : Nat) (ym : Int) (fo : Nat → Int) (fh : Nat → Int) (fs : Nat → Int) (fn : Int) (kh : Nat → Int) (kc : Nat → Int) (kp : Int) (kn : Int) (w_ : Int) (post : Int → Prop) : Prop := (r32 w_) ∧ ((w_ = 0 → post (no : Int)) ∧ (w_ = 1 → post (nl : Int)) ∧ (w_ = 2 → post fn) ∧ (w_ = 3 → post kp) ∧ (w_ = 4 → post kn) ∧ (w_ < 0 ∨ 4 < w_ → False))
set_option maxHeartbeats 4000000 in
set_option maxRecDepth 100000 in
theorem m_LD_count (l : Launch) (D : va_G) (cI cJ cO cZ : ClassId) (h0 x1 y1 al dy fl br bk x2 y2 fl1 fl2 fl3 bk1 bk2 : Nat) (fr : Int) (po : Int) (no : Nat) (xm : Int) (nl : Nat) (ym : Int) (fo : Nat → Int) (fh : Nat → Int) (fs : Nat → Int) (fn : Int) (kh : Nat → Int) (kc : Nat → Int) (kp : Int) (kn : Int) (w_ : Int) (post : Int → Prop) (v : vc_LD_count fr po no xm nl ym fo fh fs fn kh kc kp kn w_ post) : Met l ⟨"LightDoses", "count", "(I)I"⟩ (.code ⟨"LightDoses", "count", "(I)I"⟩ prog_1_method_20_code 2 (some .int) :: TG) { frames := 1, cells := 0, slots := 0, locals := 20 } (va_Pc [.ref h0, .int (iI w_)] (fun U => va_K D vwCl (tyx cI cJ cO cZ) U ∧ va_P D vwCl [(h0, .inr (7, [.ref x1, .ref y1, .ref al, .ref dy, .ref fl, .ref br, .ref bk, .int (iI fr), .int (iI po)])), (x1, .inr (9, [.ref x2, .int (iI (no : Int)), .int (iI xm)])), (y1, .inr (9, [.ref y2, .int (iI (nl : Int)), .int (iI ym)])), (fl, .inr (5, [.ref fl1, .ref fl2, .ref fl3, .int (iI fn)])), (fl1, .inl (cI, 40, .inl (fun k => iI (fo k)))), (fl2, .inl (cI, 40, .inl (fun k => iI (fh k)))), (fl3, .inl (cI, 40, .inl (fun k => iI (fs k)))), (bk, .inr (0, [.ref bk1, .ref bk2, .int (iI kp), .int (iI kn)])), (bk1, .inl (cI, 12, .inl (fun k => iI (kh k)))), (bk2, .inl (cI, 12, .inl (fun k => iI (kc k))))] U.heap)) (vp_Si (fun r => ∃ z : Int, r = iI z ∧ post z)) 0 0 (fun _ => False) := by
  refine Met.ofW (cc := prog_1_method_20_code) (maxL := 2) (ret := (some .int)) (by decide) rfl ?_
  intro p e s m args below meth c s₁ B hml hv
  obtain ⟨rfl, hK, hP⟩ := hv
  have hx := B.exec
  have hb := B.bytes
  have hr := B.returns
  have hts0 := atoms_spec (ws := (.code ⟨"LightDoses", "count", "(I)I"⟩ prog_1_method_20_code 2 (some .int) :: TG)) B.pre
  have hts : ∀ w ∈ TG, w.before _ s = true := fun w h => hts0 w (List.mem_cons_of_mem _ h)
  have hown : s.vm.findClass "LightDoses" = some m.cls := findClass_of_methodNamed B.named
  have hlocks := B.notSynchronized
  have hP : va_P D vwCl [(h0, .inr (7, [.ref x1, .ref y1, .ref al, .ref dy, .ref fl, .ref br, .ref bk, .int (iI fr), .int (iI po)])), (x1, .inr (9, [.ref x2, .int (iI (no : Int)), .int (iI xm)])), (y1, .inr (9, [.ref y2, .int (iI (nl : Int)), .int (iI ym)])), (fl, .inr (5, [.ref fl1, .ref fl2, .ref fl3, .int (iI fn)])), (fl1, .inl (cI, 40, .inl (fun k => iI (fo k)))), (fl2, .inl (cI, 40, .inl (fun k => iI (fh k)))), (fl3, .inl (cI, 40, .inl (fun k => iI (fs k)))), (bk, .inr (0, [.ref bk1, .ref bk2, .int (iI kp), .int (iI kn)])), (bk1, .inl (cI, 12, .inl (fun k => iI (kh k)))), (bk2, .inl (cI, 12, .inl (fun k => iI (kc k))))] s.heap := hP
  have hl := lv_entry ([Value.ref h0, Value.int (iI w_)]) (n := 2) (Nat.le_of_ble_eq_true rfl)
  rw [lg_entry_eq]
  generalize (lg_sl ([Value.ref h0, Value.int (iI w_)]) ++ List.replicate (2 - (lg_sl ([Value.ref h0, Value.int (iI w_)])).length) Slot.unset).toArray = ls at hl ⊢
  have hl : lv_has ls 2 [(0, .ref h0), (1, .int (iI w_))] := hl
  unfold vc_LD_count at v
  refine lv_iload_n hx hb d_LD_count_0 rfl (lv_at hl 1 rfl) ?_
  obtain ⟨k1, v⟩ := v
  by_cases c2 : w_ = 0
  · have v := v.1 c2
    have e9 : (iI (w_)).toInt = 0 := by rw [iI_toInt k1]; exact c2
    refine lv_tableIn (off := 35) (tgt := 36) hx hb d_LD_count_1 (by rw [e9]; decide) (by rw [e9]; decide) (by rw [e9]; rfl) (by decide) ?_
    refine lv_aload_n hx hb d_LD_count_36 rfl (lv_at hl 0 rfl) ?_
    refine va_get (D := D) (ci := 7) (v := .ref x1) (C := "LightDoses") (T := T_LD) (N := 9) hx hb hts in_LD hown hK hP 0 rfl rfl 0 (by decide) (hts _ wd_139) (fun _ h9 => h9) rfl d_LD_count_37 ?_
    refine vp_callSi (nv_runV (wc := [(x1, .inr (9, [.ref x2, .int (iI (no : Int)), .int (iI xm)]))]) (As := []) (rest := []) ⟨hx, hb, hml, hown, hts⟩ (m_AL_size l D cI cJ cO cZ x1 x2 (no : Int) xm (fun z => z = (no : Int)) (by unfold vc_AL_size; rfl)) (nv_cwV (n := 0) hts wd_179 wd_180 wd_181 wd_4 wd_182 (by decide +kernel) ⟨Nat.le_of_ble_eq_true rfl, Nat.le_of_ble_eq_true rfl⟩) hK (hP.sub [1] rfl) (va_recv hK hP (ci := 9) (q0 := 1) rfl rfl) rfl hl.1 rfl (Nat.le_of_ble_eq_true rfl) d_LD_count_40 (Nat.le_of_ble_eq_true rfl) (Nat.le_of_ble_eq_true rfl)) (fun r9 hr9 => ?_)
    obtain ⟨_, rfl, rfl⟩ := hr9
    exact W.iret hx hb hr (fun t ht hW => ⟨_, rfl, ⟨_, rfl, v⟩, ht⟩) (fun q h => by cases h) d_LD_count_43
  by_cases c3 : w_ = 1
  · have v := v.2.1 c3
    have e9 : (iI (w_)).toInt = 1 := by rw [iI_toInt k1]; exact c3
    refine lv_tableIn (off := 43) (tgt := 44) hx hb d_LD_count_1 (by rw [e9]; decide) (by rw [e9]; decide) (by rw [e9]; rfl) (by decide) ?_
    refine lv_aload_n hx hb d_LD_count_44 rfl (lv_at hl 0 rfl) ?_
    refine va_get (D := D) (ci := 7) (v := .ref y1) (C := "LightDoses") (T := T_LD) (N := 9) hx hb hts in_LD hown hK hP 0 rfl rfl 1 (by decide) (hts _ wd_140) (fun _ h9 => h9) rfl d_LD_count_45 ?_
    refine vp_callSi (nv_runV (wc := [(y1, .inr (9, [.ref y2, .int (iI (nl : Int)), .int (iI ym)]))]) (As := []) (rest := []) ⟨hx, hb, hml, hown, hts⟩ (m_AL_size l D cI cJ cO cZ y1 y2 (nl : Int) ym (fun z => z = (nl : Int)) (by unfold vc_AL_size; rfl)) (nv_cwV (n := 0) hts wd_179 wd_180 wd_181 wd_4 wd_182 (by decide +kernel) ⟨Nat.le_of_ble_eq_true rfl, Nat.le_of_ble_eq_true rfl⟩) hK (hP.sub [2] rfl) (va_recv hK hP (ci := 9) (q0 := 2) rfl rfl) rfl hl.1 rfl (Nat.le_of_ble_eq_true rfl) d_LD_count_48 (Nat.le_of_ble_eq_true rfl) (Nat.le_of_ble_eq_true rfl)) (fun r9 hr9 => ?_)
    obtain ⟨_, rfl, rfl⟩ := hr9
    exact W.iret hx hb hr (fun t ht hW => ⟨_, rfl, ⟨_, rfl, v⟩, ht⟩) (fun q h => by cases h) d_LD_count_51
  by_cases c4 : w_ = 2
  · have v := v.2.2.1 c4
    have e9 : (iI (w_)).toInt = 2 := by rw [iI_toInt k1]; exact c4
    refine lv_tableIn (off := 51) (tgt := 52) hx hb d_LD_count_1 (by rw [e9]; decide) (by rw [e9]; decide) (by rw [e9]; rfl) (by decide) ?_
    refine lv_aload_n hx hb d_LD_count_52 rfl (lv_at hl 0 rfl) ?_
    refine va_get (D := D) (ci := 7) (v := .ref fl) (C := "LightDoses") (T := T_LD) (N := 9) hx hb hts in_LD hown hK hP 0 rfl rfl 4 (by decide) (hts _ wd_143) (fun _ h9 => h9) rfl d_LD_count_53 ?_
    refine va_get (D := D) (ci := 5) (v := .int (iI fn)) (C := "LightDoses$Flashes") (T := T_Fl) (N := 4) hx hb hts in_Fl hown hK hP 3 rfl rfl 3 (by decide) (hts _ wd_88) (fun _ h9 => h9) rfl d_LD_count_56 ?_
    exact W.iret hx hb hr (fun t ht hW => ⟨_, rfl, ⟨_, rfl, v⟩, ht⟩) (fun q h => by cases h) d_LD_count_59
  by_cases c5 : w_ = 3
  · have v := v.2.2.2.1 c5
    have e9 : (iI (w_)).toInt = 3 := by rw [iI_toInt k1]; exact c5
    refine lv_tableIn (off := 59) (tgt := 60) hx hb d_LD_count_1 (by rw [e9]; decide) (by rw [e9]; decide) (by rw [e9]; rfl) (by decide) ?_
    refine lv_aload_n hx hb d_LD_count_60 rfl (lv_at hl 0 rfl) ?_
    refine va_get (D := D) (ci := 7) (v := .ref bk) (C := "LightDoses") (T := T_LD) (N := 9) hx hb hts in_LD hown hK hP 0 rfl rfl 6 (by decide) (hts _ wd_145) (fun _ h9 => h9) rfl d_LD_count_61 ?_
    refine va_get (D := D) (ci := 0) (v := .int (iI kp)) (C := "LightDoses$Book") (T := T_Bk) (N := 4) hx hb hts in_Bk hown hK hP 7 rfl rfl 2 (by decide) (hts _ wd_127) (fun _ h9 => h9) rfl d_LD_count_64 ?_
    exact W.iret hx hb hr (fun t ht hW => ⟨_, rfl, ⟨_, rfl, v⟩, ht⟩) (fun q h => by cases h) d_LD_count_67
  by_cases c6 : w_ = 4
  · have v := v.2.2.2.2.1 c6
    have e9 : (iI (w_)).toInt = 4 := by rw [iI_toInt k1]; exact c6
    refine lv_tableIn (off := 67) (tgt := 68) hx hb d_LD_count_1 (by rw [e9]; decide) (by rw [e9]; decide) (by rw [e9]; rfl) (by decide) ?_
    refine lv_aload_n hx hb d_LD_count_68 rfl (lv_at hl 0 rfl) ?_
    refine va_get (D := D) (ci := 7) (v := .ref bk) (C := "LightDoses") (T := T_LD) (N := 9) hx hb hts in_LD hown hK hP 0 rfl rfl 6 (by decide) (hts _ wd_145) (fun _ h9 => h9) rfl d_LD_count_69 ?_
    refine va_get (D := D) (ci := 0) (v := .int (iI kn)) (C := "LightDoses$Book") (T := T_Bk) (N := 4) hx hb hts in_Bk hown hK hP 7 rfl rfl 3 (by decide) (hts _ wd_129) (fun _ h9 => h9) rfl d_LD_count_72 ?_
    exact W.iret hx hb hr (fun t ht hW => ⟨_, rfl, ⟨_, rfl, v⟩, ht⟩) (fun q h => by cases h) d_LD_count_75
  have c7 : w_ < 0 ∨ 4 < w_ := by omega
  have v := v.2.2.2.2.2 c7
  refine lv_tableOut (tgt := 76) hx hb d_LD_count_1 (by rw [iI_toInt k1]; exact c7) (by decide) ?_
  exact v.elim

theorem d_LD_left_0 : decode prog_1_method_13_code 0 = .ok (.aload_n 0, 1) := by decide +kernel
theorem d_LD_left_1 : decode prog_1_method_13_code 1 = .ok (.iload_n 1, 1) := by decide +kernel
theorem d_LD_left_2 : decode prog_1_method_13_code 2 = .ok (.invokevirtual 99, 3) := by decide +kernel
theorem d_LD_left_5 : decode prog_1_method_13_code 5 = .ok (.astore_n 3, 1) := by decide +kernel
theorem d_LD_left_6 : decode prog_1_method_13_code 6 = .ok (.iload_n 2, 1) := by decide +kernel
theorem d_LD_left_7 : decode prog_1_method_13_code 7 = .ok (.iconst 3, 1) := by decide +kernel
theorem d_LD_left_8 : decode prog_1_method_13_code 8 = .ok (.invokestatic 65, 3) := by decide +kernel
theorem d_LD_left_11 : decode prog_1_method_13_code 11 = .ok (.aload_n 0, 1) := by decide +kernel
theorem d_LD_left_12 : decode prog_1_method_13_code 12 = .ok (.getfield 19, 3) := by decide +kernel
theorem d_LD_left_15 : decode prog_1_method_13_code 15 = .ok (.aload_n 3, 1) := by decide +kernel
theorem d_LD_left_16 : decode prog_1_method_13_code 16 = .ok (.getfield 160, 3) := by decide +kernel
theorem d_LD_left_19 : decode prog_1_method_13_code 19 = .ok (.iaload, 1) := by decide +kernel
theorem d_LD_left_20 : decode prog_1_method_13_code 20 = .ok (.iconst (-1), 1) := by decide +kernel
theorem d_LD_left_21 : decode prog_1_method_13_code 21 = .ok (.if_icmp .ne 6, 3) := by decide +kernel
theorem d_LD_left_24 : decode prog_1_method_13_code 24 = .ok (.ldc 163, 2) := by decide +kernel
theorem d_LD_left_26 : decode prog_1_method_13_code 26 = .ok (.ireturn, 1) := by decide +kernel
theorem d_LD_left_27 : decode prog_1_method_13_code 27 = .ok (.aload_n 0, 1) := by decide +kernel
theorem d_LD_left_28 : decode prog_1_method_13_code 28 = .ok (.iload_n 1, 1) := by decide +kernel
theorem d_LD_left_29 : decode prog_1_method_13_code 29 = .ok (.iload_n 2, 1) := by decide +kernel
theorem d_LD_left_30 : decode prog_1_method_13_code 30 = .ok (.invokevirtual 164, 3) := by decide +kernel
theorem d_LD_left_33 : decode prog_1_method_13_code 33 = .ok (.ldc2_w 158, 3) := by decide +kernel
theorem d_LD_left_36 : decode prog_1_method_13_code 36 = .ok (.invokestatic 168, 3) := by decide +kernel
theorem d_LD_left_39 : decode prog_1_method_13_code 39 = .ok (.l2i, 1) := by decide +kernel
theorem d_LD_left_40 : decode prog_1_method_13_code 40 = .ok (.ireturn, 1) := by decide +kernel
def vc_LD_left (fr : Int) (po : Int) (xc : Nat) (xf : Nat → Option Nat) (kd : Int) (es : Nat → Int) (ef : Nat → Int) (et : Nat → Int) (en : Int) (no : Nat) (xm : Int) (nl : Nat) (ym : Int) (ba : Nat → Int) (dl : Nat → Int) (ds : Nat → Int) (fo : Nat → Int) (fh : Nat → Int) (fs : Nat → Int) (fn : Int) (yc : Nat) (yf : Nat → Option Nat) (LA : Nat → LpA) (LC : Nat → LpC) (ob : Nat) (yr : Int) (post : Int → Prop) : Prop := (vc_LD_exhibitOf fr po no xm xc xf kd es ef et en ob) ∧ ((r32 yr) ∧ ((0 ≤ yr ∧ yr < 3) ∧ ((0 ≤ kd ∧ kd < 6) ∧ ((r32 (ba (kd).toNat)) ∧ ((¬ ba (kd).toNat = (-1) → ∃ P7 : Int → Prop, vc_LD_partsLeft fr po xc xf kd es ef et en no xm nl ym ba dl ds fo fh fs fn yc yf LA LC ob yr P7 ∧ ∀ z8 : Int, P7 z8 → ∃ P10 : Int → Prop, vc_Mth_floorDiv z8 P10 ∧ ∀ z11 : Int, P10 z11 → post z11) ∧ (ba (kd).toNat = (-1) → post (-2147483648)))))))
set_option maxHeartbeats 4000000 in
set_option maxRecDepth 100000 in
theorem m_LD_left (l : Launch) (D : va_G) (cI cJ cO cZ : ClassId) (h0 x1 y1 al dy fl br bk x2 e0 e1 e2 e3 y2 dy1 dy2 fl1 fl2 fl3 : Nat) (fr : Int) (po : Int) (xc : Nat) (xf : Nat → Option Nat) (kd : Int) (es : Nat → Int) (ef : Nat → Int) (et : Nat → Int) (en : Int) (no : Nat) (xm : Int) (nl : Nat) (ym : Int) (ba : Nat → Int) (dl : Nat → Int) (ds : Nat → Int) (fo : Nat → Int) (fh : Nat → Int) (fs : Nat → Int) (fn : Int) (yc : Nat) (yf : Nat → Option Nat) (LA : Nat → LpA) (LC : Nat → LpC) (ob : Nat) (yr : Int) (hxf : xf ob = some e0) (hob : ob < no) (hxn : no ≤ xc) (hxc : xc < 1000000) (hyF : ∀ k, k < nl → yf k = some (LA k).a0) (hyn : nl ≤ yc) (hyc : yc < 1000000) (hno : no ≤ 12) (hnl : nl ≤ 8) (post : Int → Prop) (v : vc_LD_left fr po xc xf kd es ef et en no xm nl ym ba dl ds fo fh fs fn yc yf LA LC ob yr post) : Met l ⟨"LightDoses", "left", "(II)I"⟩ (.code ⟨"LightDoses", "left", "(II)I"⟩ prog_1_method_13_code 4 (some .int) :: TG) { frames := 7, cells := 0, slots := 0, locals := 167 } (va_Pc [.ref h0, .int (iI (ob : Int)), .int (iI yr)] (fun U => va_K D vwCl (tyx cI cJ cO cZ) U ∧ va_P D vwCl ([(h0, .inr (7, [.ref x1, .ref y1, .ref al, .ref dy, .ref fl, .ref br, .ref bk, .int (iI fr), .int (iI po)])), (x2, .inl (cO, xc, .inr (.inr (.inr (.inr xf))))), (e0, .inr (4, [.int (iI kd), .ref e1, .ref e2, .ref e3, .int (iI en)])), (e1, .inl (cI, 8, .inl (fun k => iI (es k)))), (e2, .inl (cI, 16, .inl (fun k => iI (ef k)))), (e3, .inl (cI, 16, .inl (fun k => iI (et k)))), (x1, .inr (9, [.ref x2, .int (iI (no : Int)), .int (iI xm)])), (y1, .inr (9, [.ref y2, .int (iI (nl : Int)), .int (iI ym)])), (al, .inl (cI, 6, .inl (fun k => iI (ba k)))), (dy, .inr (3, [.ref dy1, .ref dy2])), (dy1, .inl (cI, 24, .inl (fun k => iI (dl k)))), (dy2, .inl (cJ, 25, .inr (.inl (fun k => lI (ds k))))), (fl, .inr (5, [.ref fl1, .ref fl2, .ref fl3, .int (iI fn)])), (fl1, .inl (cI, 40, .inl (fun k => iI (fo k)))), (fl2, .inl (cI, 40, .inl (fun k => iI (fh k)))), (fl3, .inl (cI, 40, .inl (fun k => iI (fs k))))] ++ pool (gLr cI cJ cO y2 yc yf LA LC) nl) U.heap)) (vp_Si (fun r => ∃ z : Int, r = iI z ∧ post z)) 0 0 (fun _ => False) := by
  refine Met.ofW (cc := prog_1_method_13_code) (maxL := 4) (ret := (some .int)) (by decide) rfl ?_
  intro p e s m args below meth c s₁ B hml hv
  obtain ⟨rfl, hK, hP⟩ := hv
  have hx := B.exec
  have hb := B.bytes
  have hr := B.returns
  have hts0 := atoms_spec (ws := (.code ⟨"LightDoses", "left", "(II)I"⟩ prog_1_method_13_code 4 (some .int) :: TG)) B.pre
  have hts : ∀ w ∈ TG, w.before _ s = true := fun w h => hts0 w (List.mem_cons_of_mem _ h)
  have hown : s.vm.findClass "LightDoses" = some m.cls := findClass_of_methodNamed B.named
  have hlocks := B.notSynchronized
  have hP : va_P D vwCl ([(h0, .inr (7, [.ref x1, .ref y1, .ref al, .ref dy, .ref fl, .ref br, .ref bk, .int (iI fr), .int (iI po)])), (x2, .inl (cO, xc, .inr (.inr (.inr (.inr xf))))), (e0, .inr (4, [.int (iI kd), .ref e1, .ref e2, .ref e3, .int (iI en)])), (e1, .inl (cI, 8, .inl (fun k => iI (es k)))), (e2, .inl (cI, 16, .inl (fun k => iI (ef k)))), (e3, .inl (cI, 16, .inl (fun k => iI (et k)))), (x1, .inr (9, [.ref x2, .int (iI (no : Int)), .int (iI xm)])), (y1, .inr (9, [.ref y2, .int (iI (nl : Int)), .int (iI ym)])), (al, .inl (cI, 6, .inl (fun k => iI (ba k)))), (dy, .inr (3, [.ref dy1, .ref dy2])), (dy1, .inl (cI, 24, .inl (fun k => iI (dl k)))), (dy2, .inl (cJ, 25, .inr (.inl (fun k => lI (ds k))))), (fl, .inr (5, [.ref fl1, .ref fl2, .ref fl3, .int (iI fn)])), (fl1, .inl (cI, 40, .inl (fun k => iI (fo k)))), (fl2, .inl (cI, 40, .inl (fun k => iI (fh k)))), (fl3, .inl (cI, 40, .inl (fun k => iI (fs k))))] ++ pool (gLr cI cJ cO y2 yc yf LA LC) nl) s.heap := hP
  have hl := lv_entry ([Value.ref h0, Value.int (iI (ob : Int)), Value.int (iI yr)]) (n := 4) (Nat.le_of_ble_eq_true rfl)
  rw [lg_entry_eq]
  generalize (lg_sl ([Value.ref h0, Value.int (iI (ob : Int)), Value.int (iI yr)]) ++ List.replicate (4 - (lg_sl ([Value.ref h0, Value.int (iI (ob : Int)), Value.int (iI yr)])).length) Slot.unset).toArray = ls at hl ⊢
  have hl : lv_has ls 4 [(0, .ref h0), (1, .int (iI (ob : Int))), (2, .int (iI yr))] := hl
  unfold vc_LD_left at v
  refine lv_aload_n hx hb d_LD_left_0 rfl (lv_at hl 0 rfl) ?_
  refine lv_iload_n hx hb d_LD_left_1 rfl (lv_at hl 1 rfl) ?_
  obtain ⟨q1, v⟩ := v
  refine va_csr (nv_runV (wc := [(h0, .inr (7, [.ref x1, .ref y1, .ref al, .ref dy, .ref fl, .ref br, .ref bk, .int (iI fr), .int (iI po)])), (x1, .inr (9, [.ref x2, .int (iI (no : Int)), .int (iI xm)])), (x2, .inl (cO, xc, .inr (.inr (.inr (.inr xf))))), (e0, .inr (4, [.int (iI kd), .ref e1, .ref e2, .ref e3, .int (iI en)])), (e1, .inl (cI, 8, .inl (fun k => iI (es k)))), (e2, .inl (cI, 16, .inl (fun k => iI (ef k)))), (e3, .inl (cI, 16, .inl (fun k => iI (et k))))]) (As := [.int (iI (ob : Int))]) (rest := []) ⟨hx, hb, hml, hown, hts⟩ (m_LD_exhibitOf l D cI cJ cO cZ h0 x1 y1 al dy fl br bk x2 e0 e1 e2 e3 fr po no xm xc xf kd es ef et en ob hxf hob hxn hxc q1) (nv_cwV (n := 1) hts wd_191 wd_193 sl_3 wd_1 wd_194 (by decide +kernel) ⟨Nat.le_of_ble_eq_true rfl, Nat.le_of_ble_eq_true rfl⟩) hK (hP.sub [0, 6, 1, 2, 3, 4, 5] rfl) (va_recv hK hP (ci := 7) (q0 := 0) rfl rfl) rfl hl.1 rfl (Nat.le_of_ble_eq_true rfl) d_LD_left_2 (Nat.le_of_ble_eq_true rfl) (Nat.le_of_ble_eq_true rfl)) (fun r9 hr9 => ?_)
  have hr9 : r9 = e0 := hr9
  rw [hr9]
  refine lv_astore_n (lv' := [(3, .ref e0), (0, .ref h0), (1, .int (iI (ob : Int))), (2, .int (iI yr))]) hx hb d_LD_left_5 rfl hl (by decide) rfl (fun ls hl => ?_)
  refine lv_iload_n hx hb d_LD_left_6 rfl (lv_at hl 3 rfl) ?_
  refine nv_iconst (n := 3) hx hb d_LD_left_7 ?_
  obtain ⟨k2, v⟩ := v
  obtain ⟨c3, v⟩ := v
  refine nv_callSv (nv_runS (wc := []) (As := [.int (iI yr), .int (iI 3)]) (rest := []) ⟨hx, hb, hml, hown, hts⟩ (m_LD_checkIndex l D cI cJ cO cZ yr 3 (s_LD_checkIndex k2 (by decide) c3)) (nv_cwS (n := 2) hts wd_195 wd_196 wd_1 wd_197 (by decide +kernel) ⟨Nat.le_of_ble_eq_true rfl, Nat.le_of_ble_eq_true rfl⟩) hK (hP.sub [] rfl) rfl hl.1 rfl (Nat.le_of_ble_eq_true rfl) d_LD_left_8 (Nat.le_of_ble_eq_true rfl) (Nat.le_of_ble_eq_true rfl)) ?_
  refine lv_aload_n hx hb d_LD_left_11 rfl (lv_at hl 1 rfl) ?_
  refine va_get (D := D) (ci := 7) (v := .ref al) (C := "LightDoses") (T := T_LD) (N := 9) hx hb hts in_LD hown hK hP 0 rfl rfl 2 (by decide) (hts _ wd_141) (fun _ h9 => h9) rfl d_LD_left_12 ?_
  refine lv_aload_n hx hb d_LD_left_15 rfl (lv_at hl 0 rfl) ?_
  refine va_get (D := D) (ci := 4) (v := .int (iI kd)) (C := "LightDoses$Exhibit") (T := T_Ex) (N := 5) hx hb hts in_Ex hown hK hP 2 rfl rfl 0 (by decide) (hts _ wd_355) (fun _ h9 => h9) rfl d_LD_left_16 ?_
  obtain ⟨k4, v⟩ := v
  refine nv_iald (f := ba) hx hb hK 0 (hP 8 _ rfl) rfl (kd).toNat (Int.toNat_of_nonneg k4.1).symm (by omega) (by decide) d_LD_left_19 ?_
  refine nv_iconst (n := (-1)) hx hb d_LD_left_20 ?_
  obtain ⟨k5, v⟩ := v
  refine nv_icmp_ne (tgt := 27) hx hb d_LD_left_21 (by decide) k5 (by decide) (fun c6 => ?_) (fun c6 => ?_)
  · replace v := v.1 c6
    refine lv_aload_n hx hb d_LD_left_27 rfl (lv_at hl 1 rfl) ?_
    refine lv_iload_n hx hb d_LD_left_28 rfl (lv_at hl 2 rfl) ?_
    refine lv_iload_n hx hb d_LD_left_29 rfl (lv_at hl 3 rfl) ?_
    obtain ⟨P7, q9, v⟩ := v
    refine vp_callSl (nv_runV (wc := ([(h0, .inr (7, [.ref x1, .ref y1, .ref al, .ref dy, .ref fl, .ref br, .ref bk, .int (iI fr), .int (iI po)])), (x2, .inl (cO, xc, .inr (.inr (.inr (.inr xf))))), (e0, .inr (4, [.int (iI kd), .ref e1, .ref e2, .ref e3, .int (iI en)])), (e1, .inl (cI, 8, .inl (fun k => iI (es k)))), (e2, .inl (cI, 16, .inl (fun k => iI (ef k)))), (e3, .inl (cI, 16, .inl (fun k => iI (et k)))), (x1, .inr (9, [.ref x2, .int (iI (no : Int)), .int (iI xm)])), (y1, .inr (9, [.ref y2, .int (iI (nl : Int)), .int (iI ym)])), (al, .inl (cI, 6, .inl (fun k => iI (ba k)))), (dy, .inr (3, [.ref dy1, .ref dy2])), (dy1, .inl (cI, 24, .inl (fun k => iI (dl k)))), (dy2, .inl (cJ, 25, .inr (.inl (fun k => lI (ds k))))), (fl, .inr (5, [.ref fl1, .ref fl2, .ref fl3, .int (iI fn)])), (fl1, .inl (cI, 40, .inl (fun k => iI (fo k)))), (fl2, .inl (cI, 40, .inl (fun k => iI (fh k)))), (fl3, .inl (cI, 40, .inl (fun k => iI (fs k))))] ++ pool (gLr cI cJ cO y2 yc yf LA LC) nl)) (As := [.int (iI (ob : Int)), .int (iI yr)]) (rest := []) ⟨hx, hb, hml, hown, hts⟩ (m_LD_partsLeft l D cI cJ cO cZ h0 x1 y1 al dy fl br bk x2 e0 e1 e2 e3 y2 dy1 dy2 fl1 fl2 fl3 fr po xc xf kd es ef et en no xm nl ym ba dl ds fo fh fs fn yc yf LA LC ob yr hxf hob hxn hxc hyF hyn hyc hno hnl P7 q9) (nv_cwV (n := 2) hts wd_183 wd_185 sl_1 wd_1 wd_186 (by decide +kernel) ⟨Nat.le_of_ble_eq_true rfl, Nat.le_of_ble_eq_true rfl⟩) hK hP (va_recv hK hP (ci := 7) (q0 := 0) rfl rfl) rfl hl.1 rfl (Nat.le_of_ble_eq_true rfl) d_LD_left_30 (Nat.le_of_ble_eq_true rfl) (Nat.le_of_ble_eq_true rfl)) (fun r hr => ?_)
    obtain ⟨z8, rfl, hz⟩ := hr
    replace v := v z8 hz
    refine nv_ldc2 (z := 3600000) hx hb hown (hts _ wd_282) (by decide) d_LD_left_33 ?_
    obtain ⟨P10, q12, v⟩ := v
    refine vp_callSl (nv_runS (wc := []) (As := [.long (lI z8), .long (lI 3600000)]) (rest := []) ⟨hx, hb, hml, hown, hts⟩ (m_Mth_floorDiv l D cI cJ cO cZ z8 P10 q12) (nv_cwS2 (n := 2) hts wd_629 wd_630 wd_18 wd_631 (by decide +kernel) ⟨Nat.le_of_ble_eq_true rfl, Nat.le_of_ble_eq_true rfl⟩) hK (hP.sub [] rfl) rfl hl.1 rfl (Nat.le_of_ble_eq_true rfl) d_LD_left_36 (Nat.le_of_ble_eq_true rfl) (Nat.le_of_ble_eq_true rfl)) (fun r hr => ?_)
    obtain ⟨z11, rfl, hz⟩ := hr
    replace v := v z11 hz
    refine nv_l2i hx hb d_LD_left_39 ?_
    exact W.iret hx hb hr (fun t ht hW => ⟨_, rfl, ⟨_, rfl, v⟩, ht⟩) (fun q h => by cases h) d_LD_left_40
  · replace v := v.2 c6
    refine nv_ldc (z := (-2147483648)) hx hb hown (hts _ wd_628) (by decide) d_LD_left_24 ?_
    exact W.iret hx hb hr (fun t ht hW => ⟨_, rfl, ⟨_, rfl, v⟩, ht⟩) (fun q h => by cases h) d_LD_left_26

theorem d_LD_plan_0 : decode prog_1_method_14_code 0 = .ok (.iload_n 1, 1) := by decide +kernel
theorem d_LD_plan_1 : decode prog_1_method_14_code 1 = .ok (.aload_n 0, 1) := by decide +kernel
theorem d_LD_plan_2 : decode prog_1_method_14_code 2 = .ok (.getfield 12, 3) := by decide +kernel
theorem d_LD_plan_5 : decode prog_1_method_14_code 5 = .ok (.invokevirtual 69, 3) := by decide +kernel
theorem d_LD_plan_8 : decode prog_1_method_14_code 8 = .ok (.invokestatic 65, 3) := by decide +kernel
theorem d_LD_plan_11 : decode prog_1_method_14_code 11 = .ok (.iload_n 2, 1) := by decide +kernel
theorem d_LD_plan_12 : decode prog_1_method_14_code 12 = .ok (.sipush 26280, 3) := by decide +kernel
theorem d_LD_plan_15 : decode prog_1_method_14_code 15 = .ok (.invokestatic 65, 3) := by decide +kernel
theorem d_LD_plan_18 : decode prog_1_method_14_code 18 = .ok (.iload_n 2, 1) := by decide +kernel
theorem d_LD_plan_19 : decode prog_1_method_14_code 19 = .ok (.iload_n 3, 1) := by decide +kernel
theorem d_LD_plan_20 : decode prog_1_method_14_code 20 = .ok (.invokestatic 117, 3) := by decide +kernel
theorem d_LD_plan_23 : decode prog_1_method_14_code 23 = .ok (.iload_n 2, 1) := by decide +kernel
theorem d_LD_plan_24 : decode prog_1_method_14_code 24 = .ok (.istore 4, 2) := by decide +kernel
theorem d_LD_plan_26 : decode prog_1_method_14_code 26 = .ok (.iload_n 2, 1) := by decide +kernel
theorem d_LD_plan_27 : decode prog_1_method_14_code 27 = .ok (.sipush 8760, 3) := by decide +kernel
theorem d_LD_plan_30 : decode prog_1_method_14_code 30 = .ok (.idiv, 1) := by decide +kernel
theorem d_LD_plan_31 : decode prog_1_method_14_code 31 = .ok (.istore 5, 2) := by decide +kernel
theorem d_LD_plan_33 : decode prog_1_method_14_code 33 = .ok (.iload 5, 2) := by decide +kernel
theorem d_LD_plan_35 : decode prog_1_method_14_code 35 = .ok (.iconst 3, 1) := by decide +kernel
theorem d_LD_plan_36 : decode prog_1_method_14_code 36 = .ok (.if_icmp .ge 53, 3) := by decide +kernel
theorem d_LD_plan_39 : decode prog_1_method_14_code 39 = .ok (.iload 4, 2) := by decide +kernel
theorem d_LD_plan_41 : decode prog_1_method_14_code 41 = .ok (.iload_n 3, 1) := by decide +kernel
theorem d_LD_plan_42 : decode prog_1_method_14_code 42 = .ok (.if_icmp .ge 47, 3) := by decide +kernel
theorem d_LD_plan_45 : decode prog_1_method_14_code 45 = .ok (.iload_n 3, 1) := by decide +kernel
theorem d_LD_plan_46 : decode prog_1_method_14_code 46 = .ok (.iload 5, 2) := by decide +kernel
theorem d_LD_plan_48 : decode prog_1_method_14_code 48 = .ok (.iconst 1, 1) := by decide +kernel
theorem d_LD_plan_49 : decode prog_1_method_14_code 49 = .ok (.iadd, 1) := by decide +kernel
theorem d_LD_plan_50 : decode prog_1_method_14_code 50 = .ok (.sipush 8760, 3) := by decide +kernel
theorem d_LD_plan_53 : decode prog_1_method_14_code 53 = .ok (.imul, 1) := by decide +kernel
theorem d_LD_plan_54 : decode prog_1_method_14_code 54 = .ok (.invokestatic 174, 3) := by decide +kernel
theorem d_LD_plan_57 : decode prog_1_method_14_code 57 = .ok (.istore 6, 2) := by decide +kernel
theorem d_LD_plan_59 : decode prog_1_method_14_code 59 = .ok (.iload 4, 2) := by decide +kernel
theorem d_LD_plan_61 : decode prog_1_method_14_code 61 = .ok (.aload_n 0, 1) := by decide +kernel
theorem d_LD_plan_62 : decode prog_1_method_14_code 62 = .ok (.iload_n 1, 1) := by decide +kernel
theorem d_LD_plan_63 : decode prog_1_method_14_code 63 = .ok (.iload 4, 2) := by decide +kernel
theorem d_LD_plan_65 : decode prog_1_method_14_code 65 = .ok (.iload 6, 2) := by decide +kernel
theorem d_LD_plan_67 : decode prog_1_method_14_code 67 = .ok (.invokevirtual 178, 3) := by decide +kernel
theorem d_LD_plan_70 : decode prog_1_method_14_code 70 = .ok (.iadd, 1) := by decide +kernel
theorem d_LD_plan_71 : decode prog_1_method_14_code 71 = .ok (.istore 4, 2) := by decide +kernel
theorem d_LD_plan_73 : decode prog_1_method_14_code 73 = .ok (.iload 4, 2) := by decide +kernel
theorem d_LD_plan_75 : decode prog_1_method_14_code 75 = .ok (.iload 6, 2) := by decide +kernel
theorem d_LD_plan_77 : decode prog_1_method_14_code 77 = .ok (.if_icmp .ge 6, 3) := by decide +kernel
theorem d_LD_plan_80 : decode prog_1_method_14_code 80 = .ok (.goto 9, 3) := by decide +kernel
theorem d_LD_plan_83 : decode prog_1_method_14_code 83 = .ok (.iinc 5 1, 3) := by decide +kernel
theorem d_LD_plan_86 : decode prog_1_method_14_code 86 = .ok (.goto (-53), 3) := by decide +kernel
theorem d_LD_plan_89 : decode prog_1_method_14_code 89 = .ok (.iload 4, 2) := by decide +kernel
theorem d_LD_plan_91 : decode prog_1_method_14_code 91 = .ok (.iload_n 2, 1) := by decide +kernel
theorem d_LD_plan_92 : decode prog_1_method_14_code 92 = .ok (.isub, 1) := by decide +kernel
theorem d_LD_plan_93 : decode prog_1_method_14_code 93 = .ok (.ireturn, 1) := by decide +kernel
def vc_LD_plan (fr : Int) (po : Int) (xc : Nat) (xf : Nat → Option Nat) (kd : Int) (es : Nat → Int) (ef : Nat → Int) (et : Nat → Int) (en : Int) (no : Nat) (xm : Int) (nl : Nat) (ym : Int) (ba : Nat → Int) (dl : Nat → Int) (ds : Nat → Int) (fo : Nat → Int) (fh : Nat → Int) (fs : Nat → Int) (fn : Int) (yc : Nat) (yf : Nat → Option Nat) (LA : Nat → LpA) (LC : Nat → LpC) (ob : Nat) (from_ : Int) (to_ : Int) (post : Int → Prop) : Prop := (r32 (ob : Int)) ∧ ((r32 (no : Int)) ∧ ((0 ≤ (ob : Int) ∧ (ob : Int) < (no : Int)) ∧ ((r32 from_) ∧ ((0 ≤ from_ ∧ from_ < 26280) ∧ ((r32 to_) ∧ ((from_ < to_ ∧ to_ ≤ 26280) ∧ ((0 ≤ from_) ∧ (∃ (I9 : Int → Int → Prop) (μ10 : Int → Int → Nat), I9 from_ (from_ / 8760) ∧ ∀ (hw_ : Int) (y_ : Int), I9 hw_ y_ → (r32 y_) ∧ ((3 ≤ y_ → post (hw_ - from_)) ∧ (y_ < 3 → (r32 hw_) ∧ ((to_ ≤ hw_ → post (hw_ - from_)) ∧ (hw_ < to_ → (r32 ((y_ + 1) * 8760)) ∧ (∃ P18 : Int → Prop, vc_LD_hoursThatFit fr po xc xf kd es ef et en no xm nl ym ba dl ds fo fh fs fn yc yf LA LC ob hw_ (min to_ ((y_ + 1) * 8760)) P18 ∧ ∀ z19 : Int, P18 z19 → (r32 (hw_ + z19)) ∧ ((r32 (min to_ ((y_ + 1) * 8760))) ∧ ((min to_ ((y_ + 1) * 8760) ≤ hw_ + z19 → I9 (hw_ + z19) (y_ + 1) ∧ μ10 (hw_ + z19) (y_ + 1) < μ10 hw_ y_) ∧ (hw_ + z19 < min to_ ((y_ + 1) * 8760) → post (hw_ + z19 - from_)))))))))))))))))
set_option maxHeartbeats 4000000 in
set_option maxRecDepth 100000 in
theorem m_LD_plan (l : Launch) (D : va_G) (cI cJ cO cZ : ClassId) (h0 x1 y1 al dy fl br bk x2 e0 e1 e2 e3 y2 dy1 dy2 fl1 fl2 fl3 : Nat) (fr : Int) (po : Int) (xc : Nat) (xf : Nat → Option Nat) (kd : Int) (es : Nat → Int) (ef : Nat → Int) (et : Nat → Int) (en : Int) (no : Nat) (xm : Int) (nl : Nat) (ym : Int) (ba : Nat → Int) (dl : Nat → Int) (ds : Nat → Int) (fo : Nat → Int) (fh : Nat → Int) (fs : Nat → Int) (fn : Int) (yc : Nat) (yf : Nat → Option Nat) (LA : Nat → LpA) (LC : Nat → LpC) (ob : Nat) (from_ : Int) (to_ : Int) (hxf : xf ob = some e0) (hob : ob < no) (hxn : no ≤ xc) (hxc : xc < 1000000) (hyF : ∀ k, k < nl → yf k = some (LA k).a0) (hyn : nl ≤ yc) (hyc : yc < 1000000) (hno : no ≤ 12) (hnl : nl ≤ 8) (post : Int → Prop) (v : vc_LD_plan fr po xc xf kd es ef et en no xm nl ym ba dl ds fo fh fs fn yc yf LA LC ob from_ to_ post) : Met l ⟨"LightDoses", "plan", "(III)I"⟩ (.code ⟨"LightDoses", "plan", "(III)I"⟩ prog_1_method_14_code 7 (some .int) :: TG) { frames := 8, cells := 0, slots := 0, locals := 196 } (va_Pc [.ref h0, .int (iI (ob : Int)), .int (iI from_), .int (iI to_)] (fun U => va_K D vwCl (tyx cI cJ cO cZ) U ∧ va_P D vwCl ([(h0, .inr (7, [.ref x1, .ref y1, .ref al, .ref dy, .ref fl, .ref br, .ref bk, .int (iI fr), .int (iI po)])), (x2, .inl (cO, xc, .inr (.inr (.inr (.inr xf))))), (e0, .inr (4, [.int (iI kd), .ref e1, .ref e2, .ref e3, .int (iI en)])), (e1, .inl (cI, 8, .inl (fun k => iI (es k)))), (e2, .inl (cI, 16, .inl (fun k => iI (ef k)))), (e3, .inl (cI, 16, .inl (fun k => iI (et k)))), (x1, .inr (9, [.ref x2, .int (iI (no : Int)), .int (iI xm)])), (y1, .inr (9, [.ref y2, .int (iI (nl : Int)), .int (iI ym)])), (al, .inl (cI, 6, .inl (fun k => iI (ba k)))), (dy, .inr (3, [.ref dy1, .ref dy2])), (dy1, .inl (cI, 24, .inl (fun k => iI (dl k)))), (dy2, .inl (cJ, 25, .inr (.inl (fun k => lI (ds k))))), (fl, .inr (5, [.ref fl1, .ref fl2, .ref fl3, .int (iI fn)])), (fl1, .inl (cI, 40, .inl (fun k => iI (fo k)))), (fl2, .inl (cI, 40, .inl (fun k => iI (fh k)))), (fl3, .inl (cI, 40, .inl (fun k => iI (fs k))))] ++ pool (gLr cI cJ cO y2 yc yf LA LC) nl) U.heap)) (vp_Si (fun r => ∃ z : Int, r = iI z ∧ post z)) 0 0 (fun _ => False) := by
  refine Met.ofW (cc := prog_1_method_14_code) (maxL := 7) (ret := (some .int)) (by decide) rfl ?_
  intro p e s m args below meth c s₁ B hml hv
  obtain ⟨rfl, hK, hP⟩ := hv
  have hx := B.exec
  have hb := B.bytes
  have hr := B.returns
  have hts0 := atoms_spec (ws := (.code ⟨"LightDoses", "plan", "(III)I"⟩ prog_1_method_14_code 7 (some .int) :: TG)) B.pre
  have hts : ∀ w ∈ TG, w.before _ s = true := fun w h => hts0 w (List.mem_cons_of_mem _ h)
  have hown : s.vm.findClass "LightDoses" = some m.cls := findClass_of_methodNamed B.named
  have hlocks := B.notSynchronized
  have hP : va_P D vwCl ([(h0, .inr (7, [.ref x1, .ref y1, .ref al, .ref dy, .ref fl, .ref br, .ref bk, .int (iI fr), .int (iI po)])), (x2, .inl (cO, xc, .inr (.inr (.inr (.inr xf))))), (e0, .inr (4, [.int (iI kd), .ref e1, .ref e2, .ref e3, .int (iI en)])), (e1, .inl (cI, 8, .inl (fun k => iI (es k)))), (e2, .inl (cI, 16, .inl (fun k => iI (ef k)))), (e3, .inl (cI, 16, .inl (fun k => iI (et k)))), (x1, .inr (9, [.ref x2, .int (iI (no : Int)), .int (iI xm)])), (y1, .inr (9, [.ref y2, .int (iI (nl : Int)), .int (iI ym)])), (al, .inl (cI, 6, .inl (fun k => iI (ba k)))), (dy, .inr (3, [.ref dy1, .ref dy2])), (dy1, .inl (cI, 24, .inl (fun k => iI (dl k)))), (dy2, .inl (cJ, 25, .inr (.inl (fun k => lI (ds k))))), (fl, .inr (5, [.ref fl1, .ref fl2, .ref fl3, .int (iI fn)])), (fl1, .inl (cI, 40, .inl (fun k => iI (fo k)))), (fl2, .inl (cI, 40, .inl (fun k => iI (fh k)))), (fl3, .inl (cI, 40, .inl (fun k => iI (fs k))))] ++ pool (gLr cI cJ cO y2 yc yf LA LC) nl) s.heap := hP
  have hl := lv_entry ([Value.ref h0, Value.int (iI (ob : Int)), Value.int (iI from_), Value.int (iI to_)]) (n := 7) (Nat.le_of_ble_eq_true rfl)
  rw [lg_entry_eq]
  generalize (lg_sl ([Value.ref h0, Value.int (iI (ob : Int)), Value.int (iI from_), Value.int (iI to_)]) ++ List.replicate (7 - (lg_sl ([Value.ref h0, Value.int (iI (ob : Int)), Value.int (iI from_), Value.int (iI to_)])).length) Slot.unset).toArray = ls at hl ⊢
  have hl : lv_has ls 7 [(0, .ref h0), (1, .int (iI (ob : Int))), (2, .int (iI from_)), (3, .int (iI to_))] := hl
  unfold vc_LD_plan at v
  refine lv_iload_n hx hb d_LD_plan_0 rfl (lv_at hl 1 rfl) ?_
  refine lv_aload_n hx hb d_LD_plan_1 rfl (lv_at hl 0 rfl) ?_
  refine va_get (D := D) (ci := 7) (v := .ref x1) (C := "LightDoses") (T := T_LD) (N := 9) hx hb hts in_LD hown hK hP 0 rfl rfl 0 (by decide) (hts _ wd_139) (fun _ h9 => h9) rfl d_LD_plan_2 ?_
  refine vp_callSi (nv_runV (wc := [(x1, .inr (9, [.ref x2, .int (iI (no : Int)), .int (iI xm)]))]) (As := []) (rest := [.int (iI (ob : Int))]) ⟨hx, hb, hml, hown, hts⟩ (m_AL_size l D cI cJ cO cZ x1 x2 (no : Int) xm (fun z => z = (no : Int)) (by unfold vc_AL_size; rfl)) (nv_cwV (n := 0) hts wd_179 wd_180 wd_181 wd_4 wd_182 (by decide +kernel) ⟨Nat.le_of_ble_eq_true rfl, Nat.le_of_ble_eq_true rfl⟩) hK (hP.sub [6] rfl) (va_recv hK hP (ci := 9) (q0 := 6) rfl rfl) rfl hl.1 rfl (Nat.le_of_ble_eq_true rfl) d_LD_plan_5 (Nat.le_of_ble_eq_true rfl) (Nat.le_of_ble_eq_true rfl)) (fun r9 hr9 => ?_)
  obtain ⟨_, rfl, rfl⟩ := hr9
  obtain ⟨k1, v⟩ := v
  obtain ⟨k2, v⟩ := v
  obtain ⟨c3, v⟩ := v
  refine nv_callSv (nv_runS (wc := []) (As := [.int (iI (ob : Int)), .int (iI (no : Int))]) (rest := []) ⟨hx, hb, hml, hown, hts⟩ (m_LD_checkIndex l D cI cJ cO cZ (ob : Int) (no : Int) (s_LD_checkIndex k1 k2 c3)) (nv_cwS (n := 2) hts wd_195 wd_196 wd_1 wd_197 (by decide +kernel) ⟨Nat.le_of_ble_eq_true rfl, Nat.le_of_ble_eq_true rfl⟩) hK (hP.sub [] rfl) rfl hl.1 rfl (Nat.le_of_ble_eq_true rfl) d_LD_plan_8 (Nat.le_of_ble_eq_true rfl) (Nat.le_of_ble_eq_true rfl)) ?_
  refine lv_iload_n hx hb d_LD_plan_11 rfl (lv_at hl 2 rfl) ?_
  refine nv_sipush (z := 26280) hx hb d_LD_plan_12 (by decide) ?_
  obtain ⟨k4, v⟩ := v
  obtain ⟨c5, v⟩ := v
  refine nv_callSv (nv_runS (wc := []) (As := [.int (iI from_), .int (iI 26280)]) (rest := []) ⟨hx, hb, hml, hown, hts⟩ (m_LD_checkIndex l D cI cJ cO cZ from_ 26280 (s_LD_checkIndex k4 (by decide) c5)) (nv_cwS (n := 2) hts wd_195 wd_196 wd_1 wd_197 (by decide +kernel) ⟨Nat.le_of_ble_eq_true rfl, Nat.le_of_ble_eq_true rfl⟩) hK (hP.sub [] rfl) rfl hl.1 rfl (Nat.le_of_ble_eq_true rfl) d_LD_plan_15 (Nat.le_of_ble_eq_true rfl) (Nat.le_of_ble_eq_true rfl)) ?_
  refine lv_iload_n hx hb d_LD_plan_18 rfl (lv_at hl 2 rfl) ?_
  refine lv_iload_n hx hb d_LD_plan_19 rfl (lv_at hl 3 rfl) ?_
  obtain ⟨k6, v⟩ := v
  obtain ⟨c7, v⟩ := v
  refine nv_callSv (nv_runS (wc := []) (As := [.int (iI from_), .int (iI to_)]) (rest := []) ⟨hx, hb, hml, hown, hts⟩ (m_LD_checkEnd l D cI cJ cO cZ from_ to_ (s_LD_checkEnd k4 k6 c7)) (nv_cwS (n := 2) hts wd_556 wd_557 wd_1 wd_558 (by decide +kernel) ⟨Nat.le_of_ble_eq_true rfl, Nat.le_of_ble_eq_true rfl⟩) hK (hP.sub [] rfl) rfl hl.1 rfl (Nat.le_of_ble_eq_true rfl) d_LD_plan_20 (Nat.le_of_ble_eq_true rfl) (Nat.le_of_ble_eq_true rfl)) ?_
  refine lv_iload_n hx hb d_LD_plan_23 rfl (lv_at hl 2 rfl) ?_
  refine lv_istore (lv' := [(4, .int (iI from_)), (0, .ref h0), (1, .int (iI (ob : Int))), (2, .int (iI from_)), (3, .int (iI to_))]) hx hb d_LD_plan_24 hl (by decide) rfl (fun ls hl => ?_)
  refine lv_iload_n hx hb d_LD_plan_26 rfl (lv_at hl 3 rfl) ?_
  refine nv_sipush (z := 8760) hx hb d_LD_plan_27 (by decide) ?_
  obtain ⟨k8, v⟩ := v
  refine nv_idiv (z := from_ / 8760) hx hb d_LD_plan_30 k4 (by decide) k8 (by decide) rfl ?_
  refine lv_istore (lv' := [(5, .int (iI (from_ / 8760))), (4, .int (iI from_)), (0, .ref h0), (1, .int (iI (ob : Int))), (2, .int (iI from_)), (3, .int (iI to_))]) hx hb d_LD_plan_31 hl (by decide) rfl (fun ls hl => ?_)
  obtain ⟨I9, μ10, v24, v25⟩ := v
  have L26 : ∀ (N : Nat) (hw_ : Int) (y_ : Int) (ls : Array Slot), μ10 hw_ y_ < N → I9 hw_ y_ → lv_has ls 7 [(0, .ref h0), (1, .int (iI (ob : Int))), (2, .int (iI from_)), (3, .int (iI to_)), (4, .int (iI hw_)), (5, .int (iI y_))] → W p l e (headSpec (.code ⟨"LightDoses", "plan", "(III)I"⟩ prog_1_method_14_code 7 (some .int) :: TG) { frames := 8, cells := 0, slots := 0, locals := 196 }).room s m ([Value.ref h0, Value.int (iI (ob : Int)), Value.int (iI from_), Value.int (iI to_)] : List Value).toArray below meth c s.heap [] 0 0 (MQ below (vp_Si (fun r => ∃ z : Int, r = iI z ∧ post z)) ([Value.ref h0, Value.int (iI (ob : Int)), Value.int (iI from_), Value.int (iI to_)] : List Value).toArray s 0 0 (fun _ => False)) (F0 m 33 ls []) := by
    intro N
    induction N with
    | zero => intro hw_ y_ ls hN; exact absurd hN (Nat.not_lt_zero _)
    | succ N ih11 =>
      intro hw_ y_ ls hN12 hI hl
      have v := v25 hw_ y_ hI
      refine lv_iload hx hb d_LD_plan_33 (lv_at hl 5 rfl) ?_
      refine nv_iconst (n := 3) hx hb d_LD_plan_35 ?_
      obtain ⟨k13, v⟩ := v
      refine nv_icmp_ge (tgt := 89) hx hb d_LD_plan_36 (by decide) k13 (by decide) (fun c14 => ?_) (fun c14 => ?_)
      · replace v := v.1 c14
        refine lv_iload hx hb d_LD_plan_89 (lv_at hl 4 rfl) ?_
        refine lv_iload_n hx hb d_LD_plan_91 rfl (lv_at hl 2 rfl) ?_
        refine nv_isub (z := hw_ - from_) hx hb d_LD_plan_92 (by first | rfl | omega) ?_
        exact W.iret hx hb hr (fun t ht hW => ⟨_, rfl, ⟨_, rfl, v⟩, ht⟩) (fun q h => by cases h) d_LD_plan_93
      · replace v := v.2 c14
        refine lv_iload hx hb d_LD_plan_39 (lv_at hl 4 rfl) ?_
        refine lv_iload_n hx hb d_LD_plan_41 rfl (lv_at hl 3 rfl) ?_
        obtain ⟨k15, v⟩ := v
        refine nv_icmp_ge (tgt := 89) hx hb d_LD_plan_42 (by decide) k15 k6 (fun c16 => ?_) (fun c16 => ?_)
        · replace v := v.1 c16
          refine lv_iload hx hb d_LD_plan_89 (lv_at hl 4 rfl) ?_
          refine lv_iload_n hx hb d_LD_plan_91 rfl (lv_at hl 2 rfl) ?_
          refine nv_isub (z := hw_ - from_) hx hb d_LD_plan_92 (by first | rfl | omega) ?_
          exact W.iret hx hb hr (fun t ht hW => ⟨_, rfl, ⟨_, rfl, v⟩, ht⟩) (fun q h => by cases h) d_LD_plan_93
        · replace v := v.2 c16
          refine lv_iload_n hx hb d_LD_plan_45 rfl (lv_at hl 3 rfl) ?_
          refine lv_iload hx hb d_LD_plan_46 (lv_at hl 5 rfl) ?_
          refine nv_iconst (n := 1) hx hb d_LD_plan_48 ?_
          refine nv_iadd (z := y_ + 1) hx hb d_LD_plan_49 (by first | rfl | omega) ?_
          refine nv_sipush (z := 8760) hx hb d_LD_plan_50 (by decide) ?_
          refine nv_imul (z := (y_ + 1) * 8760) hx hb d_LD_plan_53 (by first | rfl | omega) ?_
          obtain ⟨k17, v⟩ := v
          refine nv_mmin (a := to_) (b := (y_ + 1) * 8760) hx hb (hml.trans hl.1.symm) hown (hts _ wd_294) (hts _ wd_295) (hts _ wd_18) (hts _ wd_296) (Nat.le_of_ble_eq_true rfl) (Nat.le_of_ble_eq_true rfl) (Nat.le_of_ble_eq_true rfl) (Nat.le_of_ble_eq_true rfl) k6 k17 d_LD_plan_54 ?_
          refine lv_istore (lv' := [(6, .int (iI (min to_ ((y_ + 1) * 8760)))), (0, .ref h0), (1, .int (iI (ob : Int))), (2, .int (iI from_)), (3, .int (iI to_)), (4, .int (iI hw_)), (5, .int (iI y_))]) hx hb d_LD_plan_57 hl (by decide) rfl (fun ls hl => ?_)
          refine lv_iload hx hb d_LD_plan_59 (lv_at hl 5 rfl) ?_
          refine lv_aload_n hx hb d_LD_plan_61 rfl (lv_at hl 1 rfl) ?_
          refine lv_iload_n hx hb d_LD_plan_62 rfl (lv_at hl 2 rfl) ?_
          refine lv_iload hx hb d_LD_plan_63 (lv_at hl 5 rfl) ?_
          refine lv_iload hx hb d_LD_plan_65 (lv_at hl 0 rfl) ?_
          obtain ⟨P18, q20, v⟩ := v
          refine vp_callSi (nv_runV (wc := ([(h0, .inr (7, [.ref x1, .ref y1, .ref al, .ref dy, .ref fl, .ref br, .ref bk, .int (iI fr), .int (iI po)])), (x2, .inl (cO, xc, .inr (.inr (.inr (.inr xf))))), (e0, .inr (4, [.int (iI kd), .ref e1, .ref e2, .ref e3, .int (iI en)])), (e1, .inl (cI, 8, .inl (fun k => iI (es k)))), (e2, .inl (cI, 16, .inl (fun k => iI (ef k)))), (e3, .inl (cI, 16, .inl (fun k => iI (et k)))), (x1, .inr (9, [.ref x2, .int (iI (no : Int)), .int (iI xm)])), (y1, .inr (9, [.ref y2, .int (iI (nl : Int)), .int (iI ym)])), (al, .inl (cI, 6, .inl (fun k => iI (ba k)))), (dy, .inr (3, [.ref dy1, .ref dy2])), (dy1, .inl (cI, 24, .inl (fun k => iI (dl k)))), (dy2, .inl (cJ, 25, .inr (.inl (fun k => lI (ds k))))), (fl, .inr (5, [.ref fl1, .ref fl2, .ref fl3, .int (iI fn)])), (fl1, .inl (cI, 40, .inl (fun k => iI (fo k)))), (fl2, .inl (cI, 40, .inl (fun k => iI (fh k)))), (fl3, .inl (cI, 40, .inl (fun k => iI (fs k))))] ++ pool (gLr cI cJ cO y2 yc yf LA LC) nl)) (As := [.int (iI (ob : Int)), .int (iI hw_), .int (iI (min to_ ((y_ + 1) * 8760)))]) (rest := [.int (iI hw_)]) ⟨hx, hb, hml, hown, hts⟩ (m_LD_hoursThatFit l D cI cJ cO cZ h0 x1 y1 al dy fl br bk x2 e0 e1 e2 e3 y2 dy1 dy2 fl1 fl2 fl3 fr po xc xf kd es ef et en no xm nl ym ba dl ds fo fh fs fn yc yf LA LC ob hw_ (min to_ ((y_ + 1) * 8760)) hxf hob hxn hxc hyF hyn hyc hno hnl P18 q20) (nv_cwV (n := 3) hts wd_639 wd_641 sl_15 wd_1 wd_642 (by decide +kernel) ⟨Nat.le_of_ble_eq_true rfl, Nat.le_of_ble_eq_true rfl⟩) hK hP (va_recv hK hP (ci := 7) (q0 := 0) rfl rfl) rfl hl.1 rfl (Nat.le_of_ble_eq_true rfl) d_LD_plan_67 (Nat.le_of_ble_eq_true rfl) (Nat.le_of_ble_eq_true rfl)) (fun r hr => ?_)
          obtain ⟨z19, rfl, hz⟩ := hr
          replace v := v z19 hz
          refine nv_iadd (z := hw_ + z19) hx hb d_LD_plan_70 (by first | rfl | omega) ?_
          refine lv_istore (lv' := [(4, .int (iI (hw_ + z19))), (6, .int (iI (min to_ ((y_ + 1) * 8760)))), (0, .ref h0), (1, .int (iI (ob : Int))), (2, .int (iI from_)), (3, .int (iI to_)), (5, .int (iI y_))]) hx hb d_LD_plan_71 hl (by decide) rfl (fun ls hl => ?_)
          refine lv_iload hx hb d_LD_plan_73 (lv_at hl 0 rfl) ?_
          refine lv_iload hx hb d_LD_plan_75 (lv_at hl 1 rfl) ?_
          obtain ⟨k21, v⟩ := v
          obtain ⟨k22, v⟩ := v
          refine nv_icmp_ge (tgt := 83) hx hb d_LD_plan_77 (by decide) k21 k22 (fun c23 => ?_) (fun c23 => ?_)
          · replace v := v.1 c23
            refine nv_iinc (k := 6) (z := y_ + 1) (lv' := [(5, .int (iI (y_ + 1))), (4, .int (iI (hw_ + z19))), (6, .int (iI (min to_ ((y_ + 1) * 8760)))), (0, .ref h0), (1, .int (iI (ob : Int))), (2, .int (iI from_)), (3, .int (iI to_))]) hx hb d_LD_plan_83 hl rfl (by omega) (by decide) rfl (fun ls hl => ?_)
            refine lv_goto (tgt := 33) hx hb d_LD_plan_86 (by decide) ?_
            exact ih11 (hw_ + z19) (y_ + 1) ls (Nat.lt_of_lt_of_le v.2 (Nat.le_of_lt_succ hN12)) v.1 (lv_sub hl [3, 4, 5, 6, 1, 0] rfl)
          · replace v := v.2 c23
            refine lv_goto (tgt := 89) hx hb d_LD_plan_80 (by decide) ?_
            refine lv_iload hx hb d_LD_plan_89 (lv_at hl 0 rfl) ?_
            refine lv_iload_n hx hb d_LD_plan_91 rfl (lv_at hl 4 rfl) ?_
            refine nv_isub (z := hw_ + z19 - from_) hx hb d_LD_plan_92 (by first | rfl | omega) ?_
            exact W.iret hx hb hr (fun t ht hW => ⟨_, rfl, ⟨_, rfl, v⟩, ht⟩) (fun q h => by cases h) d_LD_plan_93
  exact L26 _ from_ (from_ / 8760) ls (Nat.lt_succ_self _) v24 (lv_sub hl [2, 3, 4, 5, 1, 0] rfl)

