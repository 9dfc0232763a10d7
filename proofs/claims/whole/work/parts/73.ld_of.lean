/-! MODULE LightDoses: exhibitOf, lampOf, checkChange -/
theorem d_LD_exhibitOf_0 : decode prog_1_method_25_code 0 = .ok (.iload_n 1, 1) := by decide +kernel
theorem d_LD_exhibitOf_1 : decode prog_1_method_25_code 1 = .ok (.aload_n 0, 1) := by decide +kernel
theorem d_LD_exhibitOf_2 : decode prog_1_method_25_code 2 = .ok (.getfield 12, 3) := by decide +kernel
theorem d_LD_exhibitOf_5 : decode prog_1_method_25_code 5 = .ok (.invokevirtual 69, 3) := by decide +kernel
theorem d_LD_exhibitOf_8 : decode prog_1_method_25_code 8 = .ok (.invokestatic 65, 3) := by decide +kernel
theorem d_LD_exhibitOf_11 : decode prog_1_method_25_code 11 = .ok (.aload_n 0, 1) := by decide +kernel
theorem d_LD_exhibitOf_12 : decode prog_1_method_25_code 12 = .ok (.getfield 12, 3) := by decide +kernel
theorem d_LD_exhibitOf_15 : decode prog_1_method_25_code 15 = .ok (.iload_n 1, 1) := by decide +kernel
theorem d_LD_exhibitOf_16 : decode prog_1_method_25_code 16 = .ok (.invokevirtual 232, 3) := by decide +kernel
theorem d_LD_exhibitOf_19 : decode prog_1_method_25_code 19 = .ok (.checkcast 80, 3) := by decide +kernel
theorem d_LD_exhibitOf_22 : decode prog_1_method_25_code 22 = .ok (.areturn, 1) := by decide +kernel
def vc_LD_exhibitOf (fr : Int) (po : Int) (no : Nat) (xm : Int) (xc : Nat) (xf : Nat → Option Nat) (kd : Int) (es : Nat → Int) (ef : Nat → Int) (et : Nat → Int) (en : Int) (ob : Nat) : Prop := (r32 (ob : Int)) ∧ ((r32 (no : Int)) ∧ ((0 ≤ (ob : Int) ∧ (ob : Int) < (no : Int)) ∧ (True)))
set_option maxHeartbeats 4000000 in
set_option maxRecDepth 100000 in
theorem m_LD_exhibitOf (l : Launch) (D : va_G) (cI cJ cO cZ : ClassId) (h0 x1 y1 al dy fl br bk x2 e0 e1 e2 e3 : Nat) (fr : Int) (po : Int) (no : Nat) (xm : Int) (xc : Nat) (xf : Nat → Option Nat) (kd : Int) (es : Nat → Int) (ef : Nat → Int) (et : Nat → Int) (en : Int) (ob : Nat) (hxf : xf ob = some e0) (hob : ob < no) (hxn : no ≤ xc) (hxc : xc < 1000000) (v : vc_LD_exhibitOf fr po no xm xc xf kd es ef et en ob) : Met l ⟨"LightDoses", "exhibitOf", "(I)LLightDoses$Exhibit;"⟩ (.code ⟨"LightDoses", "exhibitOf", "(I)LLightDoses$Exhibit;"⟩ prog_1_method_25_code 2 (some (.object "LightDoses$Exhibit")) :: TG) { frames := 3, cells := 0, slots := 0, locals := 64 } (va_Pc [.ref h0, .int (iI (ob : Int))] (fun U => va_K D vwCl (tyx cI cJ cO cZ) U ∧ va_P D vwCl [(h0, .inr (7, [.ref x1, .ref y1, .ref al, .ref dy, .ref fl, .ref br, .ref bk, .int (iI fr), .int (iI po)])), (x1, .inr (9, [.ref x2, .int (iI (no : Int)), .int (iI xm)])), (x2, .inl (cO, xc, .inr (.inr (.inr (.inr xf))))), (e0, .inr (4, [.int (iI kd), .ref e1, .ref e2, .ref e3, .int (iI en)])), (e1, .inl (cI, 8, .inl (fun k => iI (es k)))), (e2, .inl (cI, 16, .inl (fun k => iI (ef k)))), (e3, .inl (cI, 16, .inl (fun k => iI (et k))))] U.heap)) (va_Sr (fun x => x = e0) Value.ref) 0 0 (fun _ => False) := by
  refine Met.ofW (cc := prog_1_method_25_code) (maxL := 2) (ret := (some (.object "LightDoses$Exhibit"))) (by decide) rfl ?_
  intro p e s m args below meth c s₁ B hml hv
  obtain ⟨rfl, hK, hP⟩ := hv
  have hx := B.exec
  have hb := B.bytes
  have hr := B.returns
  have hts0 := atoms_spec (ws := (.code ⟨"LightDoses", "exhibitOf", "(I)LLightDoses$Exhibit;"⟩ prog_1_method_25_code 2 (some (.object "LightDoses$Exhibit")) :: TG)) B.pre
  have hts : ∀ w ∈ TG, w.before _ s = true := fun w h => hts0 w (List.mem_cons_of_mem _ h)
  have hown : s.vm.findClass "LightDoses" = some m.cls := findClass_of_methodNamed B.named
  have hlocks := B.notSynchronized
  have hP : va_P D vwCl [(h0, .inr (7, [.ref x1, .ref y1, .ref al, .ref dy, .ref fl, .ref br, .ref bk, .int (iI fr), .int (iI po)])), (x1, .inr (9, [.ref x2, .int (iI (no : Int)), .int (iI xm)])), (x2, .inl (cO, xc, .inr (.inr (.inr (.inr xf))))), (e0, .inr (4, [.int (iI kd), .ref e1, .ref e2, .ref e3, .int (iI en)])), (e1, .inl (cI, 8, .inl (fun k => iI (es k)))), (e2, .inl (cI, 16, .inl (fun k => iI (ef k)))), (e3, .inl (cI, 16, .inl (fun k => iI (et k))))] s.heap := hP
  have hl := lv_entry ([Value.ref h0, Value.int (iI (ob : Int))]) (n := 2) (Nat.le_of_ble_eq_true rfl)
  rw [lg_entry_eq]
  generalize (lg_sl ([Value.ref h0, Value.int (iI (ob : Int))]) ++ List.replicate (2 - (lg_sl ([Value.ref h0, Value.int (iI (ob : Int))])).length) Slot.unset).toArray = ls at hl ⊢
  have hl : lv_has ls 2 [(0, .ref h0), (1, .int (iI (ob : Int)))] := hl
  unfold vc_LD_exhibitOf at v
  refine lv_iload_n hx hb d_LD_exhibitOf_0 rfl (lv_at hl 1 rfl) ?_
  refine lv_aload_n hx hb d_LD_exhibitOf_1 rfl (lv_at hl 0 rfl) ?_
  refine va_get (D := D) (ci := 7) (v := .ref x1) (C := "LightDoses") (T := T_LD) (N := 9) hx hb hts in_LD hown hK hP 0 rfl rfl 0 (by decide) (hts _ wd_139) (fun _ h9 => h9) rfl d_LD_exhibitOf_2 ?_
  refine vp_callSi (nv_runV (wc := [(x1, .inr (9, [.ref x2, .int (iI (no : Int)), .int (iI xm)]))]) (As := []) (rest := [.int (iI (ob : Int))]) ⟨hx, hb, hml, hown, hts⟩ (m_AL_size l D cI cJ cO cZ x1 x2 (no : Int) xm (fun z => z = (no : Int)) (by unfold vc_AL_size; rfl)) (nv_cwV (n := 0) hts wd_179 wd_180 wd_181 wd_4 wd_182 (by decide +kernel) ⟨Nat.le_of_ble_eq_true rfl, Nat.le_of_ble_eq_true rfl⟩) hK (hP.sub [1] rfl) (va_recv hK hP (ci := 9) (q0 := 1) rfl rfl) rfl hl.1 rfl (Nat.le_of_ble_eq_true rfl) d_LD_exhibitOf_5 (Nat.le_of_ble_eq_true rfl) (Nat.le_of_ble_eq_true rfl)) (fun r9 hr9 => ?_)
  obtain ⟨_, rfl, rfl⟩ := hr9
  obtain ⟨k1, v⟩ := v
  obtain ⟨k2, v⟩ := v
  obtain ⟨c3, v⟩ := v
  refine nv_callSv (nv_runS (wc := []) (As := [.int (iI (ob : Int)), .int (iI (no : Int))]) (rest := []) ⟨hx, hb, hml, hown, hts⟩ (m_LD_checkIndex l D cI cJ cO cZ (ob : Int) (no : Int) (s_LD_checkIndex k1 k2 c3)) (nv_cwS (n := 2) hts wd_195 wd_196 wd_1 wd_197 (by decide +kernel) ⟨Nat.le_of_ble_eq_true rfl, Nat.le_of_ble_eq_true rfl⟩) hK (hP.sub [] rfl) rfl hl.1 rfl (Nat.le_of_ble_eq_true rfl) d_LD_exhibitOf_8 (Nat.le_of_ble_eq_true rfl) (Nat.le_of_ble_eq_true rfl)) ?_
  refine lv_aload_n hx hb d_LD_exhibitOf_11 rfl (lv_at hl 0 rfl) ?_
  refine va_get (D := D) (ci := 7) (v := .ref x1) (C := "LightDoses") (T := T_LD) (N := 9) hx hb hts in_LD hown hK hP 0 rfl rfl 0 (by decide) (hts _ wd_139) (fun _ h9 => h9) rfl d_LD_exhibitOf_12 ?_
  refine lv_iload_n hx hb d_LD_exhibitOf_15 rfl (lv_at hl 1 rfl) ?_
  refine va_csr (nv_runV (wc := [(x1, .inr (9, [.ref x2, .int (iI (no : Int)), .int (iI xm)])), (x2, .inl (cO, xc, .inr (.inr (.inr (.inr xf)))))]) (As := [.int (iI (ob : Int))]) (rest := []) ⟨hx, hb, hml, hown, hts⟩ (m_AL_get l D cI cJ cO cZ x1 x2 (no : Int) xm xc xf ob e0 hxf (by omega) (by omega) hxc) (nv_cwV (n := 1) hts wd_266 wd_267 wd_268 wd_4 wd_269 (by decide +kernel) ⟨Nat.le_of_ble_eq_true rfl, Nat.le_of_ble_eq_true rfl⟩) hK (hP.sub [1, 2] rfl) (va_recv hK hP (ci := 9) (q0 := 1) rfl rfl) rfl hl.1 rfl (Nat.le_of_ble_eq_true rfl) d_LD_exhibitOf_16 (Nat.le_of_ble_eq_true rfl) (Nat.le_of_ble_eq_true rfl)) (fun r9 hr9 => ?_)
  have hr9 : r9 = e0 := hr9
  rw [hr9]
  refine va_castS hx hb hown (hts _ wd_280) (hK.1 4 _ rfl).2 (va_recv hK hP (ci := 4) (q0 := 3) rfl rfl) d_LD_exhibitOf_19 ?_
  exact W.aret hx hb hr (Or.inl ⟨_, rfl⟩) (Or.inr ⟨_, rfl⟩) (fun t ht hW => ⟨_, rfl, rfl, ht⟩) (fun q h => by cases h) d_LD_exhibitOf_22

theorem d_LD_lampOf_0 : decode prog_1_method_26_code 0 = .ok (.iload_n 1, 1) := by decide +kernel
theorem d_LD_lampOf_1 : decode prog_1_method_26_code 1 = .ok (.aload_n 0, 1) := by decide +kernel
theorem d_LD_lampOf_2 : decode prog_1_method_26_code 2 = .ok (.getfield 16, 3) := by decide +kernel
theorem d_LD_lampOf_5 : decode prog_1_method_26_code 5 = .ok (.invokevirtual 69, 3) := by decide +kernel
theorem d_LD_lampOf_8 : decode prog_1_method_26_code 8 = .ok (.invokestatic 65, 3) := by decide +kernel
theorem d_LD_lampOf_11 : decode prog_1_method_26_code 11 = .ok (.aload_n 0, 1) := by decide +kernel
theorem d_LD_lampOf_12 : decode prog_1_method_26_code 12 = .ok (.getfield 16, 3) := by decide +kernel
theorem d_LD_lampOf_15 : decode prog_1_method_26_code 15 = .ok (.iload_n 1, 1) := by decide +kernel
theorem d_LD_lampOf_16 : decode prog_1_method_26_code 16 = .ok (.invokevirtual 232, 3) := by decide +kernel
theorem d_LD_lampOf_19 : decode prog_1_method_26_code 19 = .ok (.checkcast 96, 3) := by decide +kernel
theorem d_LD_lampOf_22 : decode prog_1_method_26_code 22 = .ok (.areturn, 1) := by decide +kernel
def vc_LD_lampOf (fr : Int) (po : Int) (nl : Nat) (ym : Int) (yc : Nat) (yf : Nat → Option Nat) (wfst : Int) (wh : Nat → Int) (wv : Nat → Int) (wn : Int) (mfst : Int) (mh : Nat → Int) (mv : Nat → Int) (mn : Int) (ps : Nat → Int) (pl : Nat → Int) (pt : Nat → Int) (np : Int) (lp : Nat) : Prop := (r32 (lp : Int)) ∧ ((r32 (nl : Int)) ∧ ((0 ≤ (lp : Int) ∧ (lp : Int) < (nl : Int)) ∧ (True)))
set_option maxHeartbeats 4000000 in
set_option maxRecDepth 100000 in
theorem m_LD_lampOf (l : Launch) (D : va_G) (cI cJ cO cZ : ClassId) (h0 x1 y1 al dy fl br bk y2 p0 p1 p4 p7 p8 p9 p2 p3 p5 p6 : Nat) (fr : Int) (po : Int) (nl : Nat) (ym : Int) (yc : Nat) (yf : Nat → Option Nat) (wfst : Int) (wh : Nat → Int) (wv : Nat → Int) (wn : Int) (mfst : Int) (mh : Nat → Int) (mv : Nat → Int) (mn : Int) (ps : Nat → Int) (pl : Nat → Int) (pt : Nat → Int) (np : Int) (lp : Nat) (hyf : yf lp = some p0) (hlp : lp < nl) (hyn : nl ≤ yc) (hyc : yc < 1000000) (v : vc_LD_lampOf fr po nl ym yc yf wfst wh wv wn mfst mh mv mn ps pl pt np lp) : Met l ⟨"LightDoses", "lampOf", "(I)LLightDoses$Lamp;"⟩ (.code ⟨"LightDoses", "lampOf", "(I)LLightDoses$Lamp;"⟩ prog_1_method_26_code 2 (some (.object "LightDoses$Lamp")) :: TG) { frames := 3, cells := 0, slots := 0, locals := 64 } (va_Pc [.ref h0, .int (iI (lp : Int))] (fun U => va_K D vwCl (tyx cI cJ cO cZ) U ∧ va_P D vwCl [(h0, .inr (7, [.ref x1, .ref y1, .ref al, .ref dy, .ref fl, .ref br, .ref bk, .int (iI fr), .int (iI po)])), (y1, .inr (9, [.ref y2, .int (iI (nl : Int)), .int (iI ym)])), (y2, .inl (cO, yc, .inr (.inr (.inr (.inr yf))))), (p0, .inr (6, [.ref p1, .ref p4, .ref p7, .ref p8, .ref p9, .int (iI np)])), (p1, .inr (2, [.int (iI wfst), .ref p2, .ref p3, .int (iI wn)])), (p2, .inl (cI, 20, .inl (fun k => iI (wh k)))), (p3, .inl (cI, 20, .inl (fun k => iI (wv k)))), (p4, .inr (2, [.int (iI mfst), .ref p5, .ref p6, .int (iI mn)])), (p5, .inl (cI, 20, .inl (fun k => iI (mh k)))), (p6, .inl (cI, 20, .inl (fun k => iI (mv k)))), (p7, .inl (cI, 41, .inl (fun k => iI (ps k)))), (p8, .inl (cI, 41, .inl (fun k => iI (pl k)))), (p9, .inl (cJ, 41, .inr (.inl (fun k => lI (pt k)))))] U.heap)) (va_Sr (fun x => x = p0) Value.ref) 0 0 (fun _ => False) := by
  refine Met.ofW (cc := prog_1_method_26_code) (maxL := 2) (ret := (some (.object "LightDoses$Lamp"))) (by decide) rfl ?_
  intro p e s m args below meth c s₁ B hml hv
  obtain ⟨rfl, hK, hP⟩ := hv
  have hx := B.exec
  have hb := B.bytes
  have hr := B.returns
  have hts0 := atoms_spec (ws := (.code ⟨"LightDoses", "lampOf", "(I)LLightDoses$Lamp;"⟩ prog_1_method_26_code 2 (some (.object "LightDoses$Lamp")) :: TG)) B.pre
  have hts : ∀ w ∈ TG, w.before _ s = true := fun w h => hts0 w (List.mem_cons_of_mem _ h)
  have hown : s.vm.findClass "LightDoses" = some m.cls := findClass_of_methodNamed B.named
  have hlocks := B.notSynchronized
  have hP : va_P D vwCl [(h0, .inr (7, [.ref x1, .ref y1, .ref al, .ref dy, .ref fl, .ref br, .ref bk, .int (iI fr), .int (iI po)])), (y1, .inr (9, [.ref y2, .int (iI (nl : Int)), .int (iI ym)])), (y2, .inl (cO, yc, .inr (.inr (.inr (.inr yf))))), (p0, .inr (6, [.ref p1, .ref p4, .ref p7, .ref p8, .ref p9, .int (iI np)])), (p1, .inr (2, [.int (iI wfst), .ref p2, .ref p3, .int (iI wn)])), (p2, .inl (cI, 20, .inl (fun k => iI (wh k)))), (p3, .inl (cI, 20, .inl (fun k => iI (wv k)))), (p4, .inr (2, [.int (iI mfst), .ref p5, .ref p6, .int (iI mn)])), (p5, .inl (cI, 20, .inl (fun k => iI (mh k)))), (p6, .inl (cI, 20, .inl (fun k => iI (mv k)))), (p7, .inl (cI, 41, .inl (fun k => iI (ps k)))), (p8, .inl (cI, 41, .inl (fun k => iI (pl k)))), (p9, .inl (cJ, 41, .inr (.inl (fun k => lI (pt k)))))] s.heap := hP
  have hl := lv_entry ([Value.ref h0, Value.int (iI (lp : Int))]) (n := 2) (Nat.le_of_ble_eq_true rfl)
  rw [lg_entry_eq]
  generalize (lg_sl ([Value.ref h0, Value.int (iI (lp : Int))]) ++ List.replicate (2 - (lg_sl ([Value.ref h0, Value.int (iI (lp : Int))])).length) Slot.unset).toArray = ls at hl ⊢
  have hl : lv_has ls 2 [(0, .ref h0), (1, .int (iI (lp : Int)))] := hl
  unfold vc_LD_lampOf at v
  refine lv_iload_n hx hb d_LD_lampOf_0 rfl (lv_at hl 1 rfl) ?_
  refine lv_aload_n hx hb d_LD_lampOf_1 rfl (lv_at hl 0 rfl) ?_
  refine va_get (D := D) (ci := 7) (v := .ref y1) (C := "LightDoses") (T := T_LD) (N := 9) hx hb hts in_LD hown hK hP 0 rfl rfl 1 (by decide) (hts _ wd_140) (fun _ h9 => h9) rfl d_LD_lampOf_2 ?_
  refine vp_callSi (nv_runV (wc := [(y1, .inr (9, [.ref y2, .int (iI (nl : Int)), .int (iI ym)]))]) (As := []) (rest := [.int (iI (lp : Int))]) ⟨hx, hb, hml, hown, hts⟩ (m_AL_size l D cI cJ cO cZ y1 y2 (nl : Int) ym (fun z => z = (nl : Int)) (by unfold vc_AL_size; rfl)) (nv_cwV (n := 0) hts wd_179 wd_180 wd_181 wd_4 wd_182 (by decide +kernel) ⟨Nat.le_of_ble_eq_true rfl, Nat.le_of_ble_eq_true rfl⟩) hK (hP.sub [1] rfl) (va_recv hK hP (ci := 9) (q0 := 1) rfl rfl) rfl hl.1 rfl (Nat.le_of_ble_eq_true rfl) d_LD_lampOf_5 (Nat.le_of_ble_eq_true rfl) (Nat.le_of_ble_eq_true rfl)) (fun r9 hr9 => ?_)
  obtain ⟨_, rfl, rfl⟩ := hr9
  obtain ⟨k1, v⟩ := v
  obtain ⟨k2, v⟩ := v
  obtain ⟨c3, v⟩ := v
  refine nv_callSv (nv_runS (wc := []) (As := [.int (iI (lp : Int)), .int (iI (nl : Int))]) (rest := []) ⟨hx, hb, hml, hown, hts⟩ (m_LD_checkIndex l D cI cJ cO cZ (lp : Int) (nl : Int) (s_LD_checkIndex k1 k2 c3)) (nv_cwS (n := 2) hts wd_195 wd_196 wd_1 wd_197 (by decide +kernel) ⟨Nat.le_of_ble_eq_true rfl, Nat.le_of_ble_eq_true rfl⟩) hK (hP.sub [] rfl) rfl hl.1 rfl (Nat.le_of_ble_eq_true rfl) d_LD_lampOf_8 (Nat.le_of_ble_eq_true rfl) (Nat.le_of_ble_eq_true rfl)) ?_
  refine lv_aload_n hx hb d_LD_lampOf_11 rfl (lv_at hl 0 rfl) ?_
  refine va_get (D := D) (ci := 7) (v := .ref y1) (C := "LightDoses") (T := T_LD) (N := 9) hx hb hts in_LD hown hK hP 0 rfl rfl 1 (by decide) (hts _ wd_140) (fun _ h9 => h9) rfl d_LD_lampOf_12 ?_
  refine lv_iload_n hx hb d_LD_lampOf_15 rfl (lv_at hl 1 rfl) ?_
  refine va_csr (nv_runV (wc := [(y1, .inr (9, [.ref y2, .int (iI (nl : Int)), .int (iI ym)])), (y2, .inl (cO, yc, .inr (.inr (.inr (.inr yf)))))]) (As := [.int (iI (lp : Int))]) (rest := []) ⟨hx, hb, hml, hown, hts⟩ (m_AL_get l D cI cJ cO cZ y1 y2 (nl : Int) ym yc yf lp p0 hyf (by omega) (by omega) hyc) (nv_cwV (n := 1) hts wd_266 wd_267 wd_268 wd_4 wd_269 (by decide +kernel) ⟨Nat.le_of_ble_eq_true rfl, Nat.le_of_ble_eq_true rfl⟩) hK (hP.sub [1, 2] rfl) (va_recv hK hP (ci := 9) (q0 := 1) rfl rfl) rfl hl.1 rfl (Nat.le_of_ble_eq_true rfl) d_LD_lampOf_16 (Nat.le_of_ble_eq_true rfl) (Nat.le_of_ble_eq_true rfl)) (fun r9 hr9 => ?_)
  have hr9 : r9 = p0 := hr9
  rw [hr9]
  refine va_castS hx hb hown (hts _ wd_305) (hK.1 6 _ rfl).2 (va_recv hK hP (ci := 6) (q0 := 3) rfl rfl) d_LD_lampOf_19 ?_
  exact W.aret hx hb hr (Or.inl ⟨_, rfl⟩) (Or.inr ⟨_, rfl⟩) (fun t ht hW => ⟨_, rfl, rfl, ht⟩) (fun q h => by cases h) d_LD_lampOf_22

def vt_LD_exhibitOf (fr : Int) (po : Int) (no : Nat) (xm : Int) (ob : Int) (X : String) : Prop := (r32 ob) ∧ ((r32 (no : Int)) ∧ (((0 ≤ ob ∧ ob < (no : Int)) → False) ∧ (¬ (0 ≤ ob ∧ ob < (no : Int)) → X = "java/lang/IndexOutOfBoundsException")))
set_option maxHeartbeats 4000000 in
set_option maxRecDepth 100000 in
theorem t_LD_exhibitOf (l : Launch) (D : va_G) (cI cJ cO cZ : ClassId) (qd mi : Nat) (Z : State) (hZ : EvZ qd mi Z) (hfl : ∀ e : Env, l.admits e → e.platform.stackTraces = false) (h0 x1 y1 al dy fl br bk x2 : Nat) (fr : Int) (po : Int) (no : Nat) (xm : Int) (ob : Int) (X : String) (v : vt_LD_exhibitOf fr po no xm ob X) : MetT l ⟨"LightDoses", "exhibitOf", "(I)LLightDoses$Exhibit;"⟩ (.code ⟨"LightDoses", "exhibitOf", "(I)LLightDoses$Exhibit;"⟩ prog_1_method_25_code 2 (some (.object "LightDoses$Exhibit")) :: TG) { frames := 7, cells := 1, slots := 6, locals := 111 } (va_Pc [.ref h0, .int (iI ob)] (fun U => va_K D vwCl (tyx cI cJ cO cZ) U ∧ va_P D vwCl [(h0, .inr (7, [.ref x1, .ref y1, .ref al, .ref dy, .ref fl, .ref br, .ref bk, .int (iI fr), .int (iI po)])), (x1, .inr (9, [.ref x2, .int (iI (no : Int)), .int (iI xm)]))] U.heap ∧ Ev Z U)) (th_X X) 1 6 (fun _ => False) := by
  refine MetT.ofW (cc := prog_1_method_25_code) (maxL := 2) (ret := (some (.object "LightDoses$Exhibit"))) (by decide) rfl ?_
  intro p e s m args below meth c s₁ B hml hv
  obtain ⟨rfl, hK, hP, hE⟩ := hv
  have hx := B.exec
  have hb := B.bytes
  have hr := B.returns
  have hts0 := atoms_spec (ws := (.code ⟨"LightDoses", "exhibitOf", "(I)LLightDoses$Exhibit;"⟩ prog_1_method_25_code 2 (some (.object "LightDoses$Exhibit")) :: TG)) B.pre
  have hts : ∀ w ∈ TG, w.before _ s = true := fun w h => hts0 w (List.mem_cons_of_mem _ h)
  have hown : s.vm.findClass "LightDoses" = some m.cls := findClass_of_methodNamed B.named
  have hlocks := B.notSynchronized
  have hno := nv_noTable B hts0
  have hP : va_P D vwCl [(h0, .inr (7, [.ref x1, .ref y1, .ref al, .ref dy, .ref fl, .ref br, .ref bk, .int (iI fr), .int (iI po)])), (x1, .inr (9, [.ref x2, .int (iI (no : Int)), .int (iI xm)]))] s.heap := hP
  have hl := lv_entry ([Value.ref h0, Value.int (iI ob)]) (n := 2) (Nat.le_of_ble_eq_true rfl)
  rw [lg_entry_eq]
  generalize (lg_sl ([Value.ref h0, Value.int (iI ob)]) ++ List.replicate (2 - (lg_sl ([Value.ref h0, Value.int (iI ob)])).length) Slot.unset).toArray = ls at hl ⊢
  have hl : lv_has ls 2 [(0, .ref h0), (1, .int (iI ob))] := hl
  unfold vt_LD_exhibitOf at v
  refine lv_iload_n hx hb d_LD_exhibitOf_0 rfl (lv_at hl 1 rfl) ?_
  refine lv_aload_n hx hb d_LD_exhibitOf_1 rfl (lv_at hl 0 rfl) ?_
  refine va_get (D := D) (ci := 7) (v := .ref x1) (C := "LightDoses") (T := T_LD) (N := 9) hx hb hts in_LD hown hK hP 0 rfl rfl 0 (by decide) (hts _ wd_139) (fun _ h9 => h9) rfl d_LD_exhibitOf_2 ?_
  refine vp_callSi (nv_runV (wc := [(x1, .inr (9, [.ref x2, .int (iI (no : Int)), .int (iI xm)]))]) (As := []) (rest := [.int (iI ob)]) ⟨hx, hb, hml, hown, hts⟩ (m_AL_size l D cI cJ cO cZ x1 x2 (no : Int) xm (fun z => z = (no : Int)) (by unfold vc_AL_size; rfl)) (nv_cwV (n := 0) hts wd_179 wd_180 wd_181 wd_4 wd_182 (by decide +kernel) ⟨Nat.le_of_ble_eq_true rfl, Nat.le_of_ble_eq_true rfl⟩) hK (hP.sub [1] rfl) (va_recv hK hP (ci := 9) (q0 := 1) rfl rfl) rfl hl.1 rfl (Nat.le_of_ble_eq_true rfl) d_LD_exhibitOf_5 (Nat.le_of_ble_eq_true rfl) (Nat.le_of_ble_eq_true rfl)) (fun r9 hr9 => ?_)
  obtain ⟨_, rfl, rfl⟩ := hr9
  obtain ⟨k1, v⟩ := v
  obtain ⟨k2, v⟩ := v
  by_cases c3 : 0 ≤ ob ∧ ob < (no : Int)
  · replace v := v.1 c3
    refine nv_callSv (nv_runS (wc := []) (As := [.int (iI ob), .int (iI (no : Int))]) (rest := []) ⟨hx, hb, hml, hown, hts⟩ (m_LD_checkIndex l D cI cJ cO cZ ob (no : Int) (s_LD_checkIndex k1 k2 c3)) (nv_cwS (n := 2) hts wd_195 wd_196 wd_1 wd_197 (by decide +kernel) ⟨Nat.le_of_ble_eq_true rfl, Nat.le_of_ble_eq_true rfl⟩) hK (hP.sub [] rfl) rfl hl.1 rfl (Nat.le_of_ble_eq_true rfl) d_LD_exhibitOf_8 (Nat.le_of_ble_eq_true rfl) (Nat.le_of_ble_eq_true rfl)) ?_
    exact v.elim
  · have v := v.2 c3
    subst v
    exact nv_thS (wc := []) (As := [.int (iI ob), .int (iI (no : Int))]) (rest := []) ⟨hx, hb, hml, hown, hts⟩ (t_LD_checkIndex l D cI cJ cO cZ qd mi Z hZ hfl ob (no : Int) "java/lang/IndexOutOfBoundsException" (f_LD_checkIndex k1 k2 c3)) (nv_cwS (rm := { frames := 6, cells := 1, slots := 6, locals := 90 }) (n := 2) hts wd_195 wd_196 wd_1 wd_197 (by decide +kernel) ⟨Nat.le_of_ble_eq_true rfl, Nat.le_of_ble_eq_true rfl⟩) hK (hP.sub [] rfl) hE rfl hl.1 rfl (Nat.le_of_ble_eq_true rfl) d_LD_exhibitOf_8 (Nat.le_of_ble_eq_true rfl) (Nat.le_of_ble_eq_true rfl) hno hlocks

theorem f_LD_exhibitOf {fr : Int} {po : Int} {no : Nat} {xm : Int} {ob : Int} (h1 : r32 ob) (h2 : r32 (no : Int)) (hc : ¬ (0 ≤ ob ∧ ob < (no : Int))) : vt_LD_exhibitOf fr po no xm ob "java/lang/IndexOutOfBoundsException" := by
  obtain ⟨_, _⟩ := h1
  obtain ⟨_, _⟩ := h2
  unfold vt_LD_exhibitOf
  repeat' (first | (intro _) | apply And.intro | omega | rfl | trivial)
theorem s_LD_exhibitOf {fr : Int} {po : Int} {no : Nat} {xm : Int} {xc : Nat} {xf : Nat → Option Nat} {kd : Int} {es : Nat → Int} {ef : Nat → Int} {et : Nat → Int} {en : Int} {ob : Nat} (h1 : ob < no) (h2 : no ≤ 12) : vc_LD_exhibitOf fr po no xm xc xf kd es ef et en ob := by
  unfold vc_LD_exhibitOf
  repeat' (first | (intro _) | apply And.intro | omega | rfl | trivial)
def vt_LD_lampOf (fr : Int) (po : Int) (nl : Nat) (ym : Int) (lp : Int) (X : String) : Prop := (r32 lp) ∧ ((r32 (nl : Int)) ∧ (((0 ≤ lp ∧ lp < (nl : Int)) → False) ∧ (¬ (0 ≤ lp ∧ lp < (nl : Int)) → X = "java/lang/IndexOutOfBoundsException")))
set_option maxHeartbeats 4000000 in
set_option maxRecDepth 100000 in
theorem t_LD_lampOf (l : Launch) (D : va_G) (cI cJ cO cZ : ClassId) (qd mi : Nat) (Z : State) (hZ : EvZ qd mi Z) (hfl : ∀ e : Env, l.admits e → e.platform.stackTraces = false) (h0 x1 y1 al dy fl br bk y2 : Nat) (fr : Int) (po : Int) (nl : Nat) (ym : Int) (lp : Int) (X : String) (v : vt_LD_lampOf fr po nl ym lp X) : MetT l ⟨"LightDoses", "lampOf", "(I)LLightDoses$Lamp;"⟩ (.code ⟨"LightDoses", "lampOf", "(I)LLightDoses$Lamp;"⟩ prog_1_method_26_code 2 (some (.object "LightDoses$Lamp")) :: TG) { frames := 7, cells := 1, slots := 6, locals := 111 } (va_Pc [.ref h0, .int (iI lp)] (fun U => va_K D vwCl (tyx cI cJ cO cZ) U ∧ va_P D vwCl [(h0, .inr (7, [.ref x1, .ref y1, .ref al, .ref dy, .ref fl, .ref br, .ref bk, .int (iI fr), .int (iI po)])), (y1, .inr (9, [.ref y2, .int (iI (nl : Int)), .int (iI ym)]))] U.heap ∧ Ev Z U)) (th_X X) 1 6 (fun _ => False) := by
  refine MetT.ofW (cc := prog_1_method_26_code) (maxL := 2) (ret := (some (.object "LightDoses$Lamp"))) (by decide) rfl ?_
  intro p e s m args below meth c s₁ B hml hv
  obtain ⟨rfl, hK, hP, hE⟩ := hv
  have hx := B.exec
  have hb := B.bytes
  have hr := B.returns
  have hts0 := atoms_spec (ws := (.code ⟨"LightDoses", "lampOf", "(I)LLightDoses$Lamp;"⟩ prog_1_method_26_code 2 (some (.object "LightDoses$Lamp")) :: TG)) B.pre
  have hts : ∀ w ∈ TG, w.before _ s = true := fun w h => hts0 w (List.mem_cons_of_mem _ h)
  have hown : s.vm.findClass "LightDoses" = some m.cls := findClass_of_methodNamed B.named
  have hlocks := B.notSynchronized
  have hno := nv_noTable B hts0
  have hP : va_P D vwCl [(h0, .inr (7, [.ref x1, .ref y1, .ref al, .ref dy, .ref fl, .ref br, .ref bk, .int (iI fr), .int (iI po)])), (y1, .inr (9, [.ref y2, .int (iI (nl : Int)), .int (iI ym)]))] s.heap := hP
  have hl := lv_entry ([Value.ref h0, Value.int (iI lp)]) (n := 2) (Nat.le_of_ble_eq_true rfl)
  rw [lg_entry_eq]
  generalize (lg_sl ([Value.ref h0, Value.int (iI lp)]) ++ List.replicate (2 - (lg_sl ([Value.ref h0, Value.int (iI lp)])).length) Slot.unset).toArray = ls at hl ⊢
  have hl : lv_has ls 2 [(0, .ref h0), (1, .int (iI lp))] := hl
  unfold vt_LD_lampOf at v
  refine lv_iload_n hx hb d_LD_lampOf_0 rfl (lv_at hl 1 rfl) ?_
  refine lv_aload_n hx hb d_LD_lampOf_1 rfl (lv_at hl 0 rfl) ?_
  refine va_get (D := D) (ci := 7) (v := .ref y1) (C := "LightDoses") (T := T_LD) (N := 9) hx hb hts in_LD hown hK hP 0 rfl rfl 1 (by decide) (hts _ wd_140) (fun _ h9 => h9) rfl d_LD_lampOf_2 ?_
  refine vp_callSi (nv_runV (wc := [(y1, .inr (9, [.ref y2, .int (iI (nl : Int)), .int (iI ym)]))]) (As := []) (rest := [.int (iI lp)]) ⟨hx, hb, hml, hown, hts⟩ (m_AL_size l D cI cJ cO cZ y1 y2 (nl : Int) ym (fun z => z = (nl : Int)) (by unfold vc_AL_size; rfl)) (nv_cwV (n := 0) hts wd_179 wd_180 wd_181 wd_4 wd_182 (by decide +kernel) ⟨Nat.le_of_ble_eq_true rfl, Nat.le_of_ble_eq_true rfl⟩) hK (hP.sub [1] rfl) (va_recv hK hP (ci := 9) (q0 := 1) rfl rfl) rfl hl.1 rfl (Nat.le_of_ble_eq_true rfl) d_LD_lampOf_5 (Nat.le_of_ble_eq_true rfl) (Nat.le_of_ble_eq_true rfl)) (fun r9 hr9 => ?_)
  obtain ⟨_, rfl, rfl⟩ := hr9
  obtain ⟨k1, v⟩ := v
  obtain ⟨k2, v⟩ := v
  by_cases c3 : 0 ≤ lp ∧ lp < (nl : Int)
  · replace v := v.1 c3
    refine nv_callSv (nv_runS (wc := []) (As := [.int (iI lp), .int (iI (nl : Int))]) (rest := []) ⟨hx, hb, hml, hown, hts⟩ (m_LD_checkIndex l D cI cJ cO cZ lp (nl : Int) (s_LD_checkIndex k1 k2 c3)) (nv_cwS (n := 2) hts wd_195 wd_196 wd_1 wd_197 (by decide +kernel) ⟨Nat.le_of_ble_eq_true rfl, Nat.le_of_ble_eq_true rfl⟩) hK (hP.sub [] rfl) rfl hl.1 rfl (Nat.le_of_ble_eq_true rfl) d_LD_lampOf_8 (Nat.le_of_ble_eq_true rfl) (Nat.le_of_ble_eq_true rfl)) ?_
    exact v.elim
  · have v := v.2 c3
    subst v
    exact nv_thS (wc := []) (As := [.int (iI lp), .int (iI (nl : Int))]) (rest := []) ⟨hx, hb, hml, hown, hts⟩ (t_LD_checkIndex l D cI cJ cO cZ qd mi Z hZ hfl lp (nl : Int) "java/lang/IndexOutOfBoundsException" (f_LD_checkIndex k1 k2 c3)) (nv_cwS (rm := { frames := 6, cells := 1, slots := 6, locals := 90 }) (n := 2) hts wd_195 wd_196 wd_1 wd_197 (by decide +kernel) ⟨Nat.le_of_ble_eq_true rfl, Nat.le_of_ble_eq_true rfl⟩) hK (hP.sub [] rfl) hE rfl hl.1 rfl (Nat.le_of_ble_eq_true rfl) d_LD_lampOf_8 (Nat.le_of_ble_eq_true rfl) (Nat.le_of_ble_eq_true rfl) hno hlocks

theorem f_LD_lampOf {fr : Int} {po : Int} {nl : Nat} {ym : Int} {lp : Int} (h1 : r32 lp) (h2 : r32 (nl : Int)) (hc : ¬ (0 ≤ lp ∧ lp < (nl : Int))) : vt_LD_lampOf fr po nl ym lp "java/lang/IndexOutOfBoundsException" := by
  obtain ⟨_, _⟩ := h1
  obtain ⟨_, _⟩ := h2
  unfold vt_LD_lampOf
  repeat' (first | (intro _) | apply And.intro | omega | rfl | trivial)
theorem s_LD_lampOf {fr : Int} {po : Int} {nl : Nat} {ym : Int} {yc : Nat} {yf : Nat → Option Nat} {wfst : Int} {wh : Nat → Int} {wv : Nat → Int} {wn : Int} {mfst : Int} {mh : Nat → Int} {mv : Nat → Int} {mn : Int} {ps : Nat → Int} {pl : Nat → Int} {pt : Nat → Int} {np : Int} {lp : Nat} (h1 : lp < nl) (h2 : nl ≤ 12) : vc_LD_lampOf fr po nl ym yc yf wfst wh wv wn mfst mh mv mn ps pl pt np lp := by
  unfold vc_LD_lampOf
  repeat' (first | (intro _) | apply And.intro | omega | rfl | trivial)
