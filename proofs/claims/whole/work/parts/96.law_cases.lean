/-! THE LAW: its cases -/
def vl_object (AA : LdA) (CC : LdC) (MM : MdC) (f : Nat → Int) (x1 x2 x3 : Int) (Rl : LdC → MdC → Prop) : Prop := ∃ Pw1, vw_object AA CC f x1 Pw1 ∧ ∀ (k : Int) (f1 : Nat → Int) (C1 : LdC), Pw1 k f1 C1 → r32 k ∧ (∃ Pm3, vc_Md_object MM.th MM.no MM.ca MM.ba MM.nl MM.xa MM.sa MM.da MM.la MM.ra MM.fa MM.ta MM.ua MM.uh MM.uo MM.ma MM.mh MM.ml MM.nf MM.fo MM.fh MM.fs MM.rs MM.ic MM.mn MM.bh MM.bo MM.ya MM.np MM.pa MM.nc MM.cp x1 Pm3 ∧ ∀ (z : Int) (u0 : Int) (u1 : Nat → Int) (u2 : Int) (u3 : Int), Pm3 z u0 u1 u2 u3 → u0 = k ∧ (k = 0 → f1 0 = z ∧ r32 z) ∧ Rl C1 ((u0, u2, u1, MM.ba, MM.nl, MM.xa, MM.sa, MM.da, MM.la, MM.ra, MM.fa, MM.ta, MM.ua, MM.uh, MM.uo, MM.ma, MM.mh, MM.ml, MM.nf, MM.fo, MM.fh, MM.fs, MM.rs, u3, MM.mn, MM.bh, MM.bo, MM.ya, MM.np, MM.pa, MM.nc, MM.cp) : MdC))
set_option maxHeartbeats 4000000 in
set_option maxRecDepth 100000 in
theorem c_object {p : Program} {l : Launch} {e : Env} {s : State} {m : MethodId} {below : List Frame} {meth : Method} {c : Code} {Q : State → Prop} {b L : Nat} {xs : Nat → Int32} {D : va_G} {cI cJ cO cZ : ClassId} {qd mi : Nat} (F9 : LwF p l s m meth c b L xs D cI cJ cO cZ qd mi) {o : Nat} {BB : MdA} {f : Nat → Int} {AA : LdA} {CC : LdC} {MM : MdC} {H : Heap} {ls : Array Slot} {i cells slots : Nat} {x1 x2 x3 : Int} (hAA : ldA qd AA CC) (hP : va_P D vwCl (wMdS cI cJ cZ BB MM ++ (cOut cJ o f :: LDW cI cJ cO AA CC)) H) (hD : va_D (fun q => s.heap.size ≤ q) (wMdS cI cJ cZ BB MM ++ (cOut cJ o f :: LDW cI cJ cO AA CC))) (hS : va_S (fun q => s.heap.size ≤ q) s.heap H []) (hl : lv_has ls 7 [(4, .int (iI (i : Int))), (3, .ref o), (2, .ref BB.a0), (1, .ref AA.h0), (0, .ref b)]) (hi : i + 3 < L) (hL : L ≤ 2048) (q1 : xs (i + 1) = iI x1) (q2 : xs (i + 2) = iI x2) (q3 : xs (i + 3) = iI x3) (r1 : r32 x1) (r2 : r32 x2) (r3 : r32 x3) (hc : cells + 12 ≤ 601024) (hsl : slots + 240 ≤ 7293034) (Rl : LdC → MdC → Prop) (v : vl_object AA CC MM f x1 x2 x3 Rl)
    (kk : ∀ (f1 : Nat → Int) (A1 : LdA) (C1 : LdC) (M1 : MdC) (H : Heap) (ls : Array Slot), ldA qd A1 C1 → A1.h0 = AA.h0 → Rl C1 M1 → va_P D vwCl (wMdS cI cJ cZ BB M1 ++ (cOut cJ o f1 :: LDW cI cJ cO A1 C1)) H → va_D (fun q => s.heap.size ≤ q) (wMdS cI cJ cZ BB M1 ++ (cOut cJ o f1 :: LDW cI cJ cO A1 C1)) → va_S (fun q => s.heap.size ≤ q) s.heap H [] → lv_has ls 7 [(0, .ref b), (1, .ref AA.h0), (2, .ref BB.a0), (3, .ref o), (4, .int (iI (i : Int)))] → W p l e room_1 s m #[Value.ref b] below meth c H [] (cells + 12) (slots + 240) Q (F0 m 1338 ls [])) :
    W p l e room_1 s m #[Value.ref b] below meth c H [] cells slots Q (F0 m 128 ls []) := by
  obtain ⟨hx, hb, hml, hown, hts, hX, hbl, hK, hZ, hN, hfl⟩ := F9
  unfold vl_object at v
  refine lv_aload_n hx hb d_law_128 rfl (lv_at hl 3 rfl) ?_
  refine lv_aload_n hx hb d_law_129 rfl (lv_at hl 4 rfl) ?_
  refine lv_iload hx hb d_law_130 (lv_at hl 0 rfl) ?_
  refine nv_iconst (n := 1) hx hb d_law_132 ?_
  refine nv_iadd (z := (i : Int) + 1) hx hb d_law_133 (by first | rfl | omega) ?_
  refine nv_sld hx hb hX hbl (Nat.not_le.mpr hbl) hS (x := x1) (i + 1) (by omega) (by omega) (by omega) q1 d_law_134 ?_
  refine lv_aload_n hx hb d_law_135 rfl (lv_at hl 1 rfl) ?_
  obtain ⟨Pw1, vw2, v⟩ := v
  have hPs := nv_Pperm hP List.perm_append_comm
  have hDs := nv_Dperm hD List.perm_append_comm
  have hPc := (nv_Papp.mp hPs).1
  have hDc := nv_Dleft hDs
  have hFc := nv_free hDs hS (fun q h => h)
  refine va_calli (nv_runSW (n := 3) (As := [.ref AA.h0, .int (iI x1), .ref o]) (rest := []) ⟨hx, hb, hml, hown, hts⟩ (w_object l D cI cJ cO cZ qd mi s hZ hfl hN o f AA CC hAA H.size x1 Pw1 vw2) hts wd_324 wd_325 wd_0 wd_326 rfl rfl (by decide +kernel) ⟨Nat.le_of_ble_eq_true rfl, Nat.le_of_ble_eq_true rfl⟩ ⟨blWE, fun U hU hW => ⟨rfl, by rw [hU], by rw [hU]; exact hPc, va_K.moved hW.alike hK, hDc, (Ev.rf s).step (fun _ h => h) hS hU hW⟩⟩ rfl rfl hl.1 rfl (lv_room (Nat.le_of_ble_eq_true rfl)) d_law_136 ⟨by show _ ≤ 601024; omega, by show _ ≤ 7293034; omega⟩) hS (fun q _ h => hFc q h) hFc (fun r u t H1 locs ht hvm hw hB hz1 hk1 hS => ?_)
  obtain ⟨f1, C1⟩ := u
  obtain ⟨A1, hA1, hh0, hP1, hK1, hD1⟩ := hB
  rw [ht] at hP1
  obtain ⟨k, rfl, hw⟩ := hw
  obtain ⟨hP, hD⟩ := nv_join (w1 := (cOut cJ o f1 :: LDW cI cJ cO A1 C1)) hPs hDs hk1 hFc hP1 hD1
  generalize H1 = H at hP hS ⊢
  refine nv_forget hS (fun hS => ?_)
  replace hP := nv_Pperm hP List.perm_append_comm
  replace hD := nv_Dperm hD List.perm_append_comm
  obtain ⟨rk, v⟩ := v k f1 C1 hw
  refine lv_istore (lv' := [(5, .int (iI k)), (4, .int (iI (i : Int))), (3, .ref o), (2, .ref BB.a0), (1, .ref AA.h0), (0, .ref b)]) hx hb d_law_139 hl (by decide) rfl (fun ls hl => ?_)
  refine lv_aload_n hx hb d_law_141 rfl (lv_at hl 3 rfl) ?_
  refine lv_aload_n hx hb d_law_142 rfl (lv_at hl 5 rfl) ?_
  refine lv_iload hx hb d_law_143 (lv_at hl 1 rfl) ?_
  refine nv_iconst (n := 1) hx hb d_law_145 ?_
  refine nv_iadd (z := (i : Int) + 1) hx hb d_law_146 (by first | rfl | omega) ?_
  refine nv_sld hx hb hX hbl (Nat.not_le.mpr hbl) hS (x := x1) (i + 1) (by omega) (by omega) (by omega) q1 d_law_147 ?_
  obtain ⟨Pm3, vm4, v⟩ := v
  have hPc := (nv_Papp.mp hP).1
  have hDc := nv_Dleft hD
  have hFc := nv_free hD hS (fun q h => h)
  refine va_calli (va_runV (As := [.int (iI x1)]) (rest := []) ⟨hx, hb, hml, hown, hts⟩ (m_Md_object l D cI cJ cO cZ BB.a0 BB.a1 BB.a2 BB.a3 BB.a4 BB.a5 BB.a6 BB.a7 BB.a8 BB.a9 BB.a10 BB.a11 BB.a12 BB.a13 BB.a14 BB.a15 BB.a16 BB.a17 BB.a18 BB.a19 BB.a20 BB.a21 BB.a22 BB.a23 H.size MM.th MM.no MM.ca MM.ba MM.nl MM.xa MM.sa MM.da MM.la MM.ra MM.fa MM.ta MM.ua MM.uh MM.uo MM.ma MM.mh MM.ml MM.nf MM.fo MM.fh MM.fs MM.rs MM.ic MM.mn MM.bh MM.bo MM.ya MM.np MM.pa MM.nc MM.cp x1 Pm3 vm4) (nv_cwV (n := 1) hts wd_805 wd_806 wd_807 wd_10 wd_808 (by decide +kernel) ⟨Nat.le_of_ble_eq_true rfl, Nat.le_of_ble_eq_true rfl⟩) ⟨blW, va_recv hK hPc (ci := 8) (q0 := 0) rfl rfl, fun U hU hW => ⟨rfl, by rw [hU], by rw [hU]; exact hPc, va_K.moved hW.alike hK, hDc.weaken (fun _ _ _ _ => trivial)⟩⟩ rfl rfl hl.1 rfl (lv_room (Nat.le_of_ble_eq_true rfl)) d_law_148 ⟨by show _ ≤ 601024; omega, by show _ ≤ 7293034; omega⟩) hS (fun q _ h => hFc q h) hFc (fun r u t H1 locs ht hvm hw hB hz1 hk1 hS => ?_)
  obtain ⟨u0, u1, u2, u3⟩ := u
  obtain ⟨hP1, hK1, hD1⟩ := hB
  rw [ht] at hP1
  obtain ⟨z, rfl, hw⟩ := hw
  obtain ⟨hP, hD⟩ := nv_join (w1 := wMdS cI cJ cZ BB ((u0, u2, u1, MM.ba, MM.nl, MM.xa, MM.sa, MM.da, MM.la, MM.ra, MM.fa, MM.ta, MM.ua, MM.uh, MM.uo, MM.ma, MM.mh, MM.ml, MM.nf, MM.fo, MM.fh, MM.fs, MM.rs, u3, MM.mn, MM.bh, MM.bo, MM.ya, MM.np, MM.pa, MM.nc, MM.cp) : MdC)) hP hD hk1 hFc hP1 hD1
  generalize H1 = H at hP hS ⊢
  refine nv_forget hS (fun hS => ?_)
  replace v := v z u0 u1 u2 u3 hw
  obtain ⟨hth, hz9, hRl⟩ := v
  refine lv_istore (lv' := [(6, .int (iI z)), (5, .int (iI k)), (4, .int (iI (i : Int))), (3, .ref o), (2, .ref BB.a0), (1, .ref AA.h0), (0, .ref b)]) hx hb d_law_151 hl (by decide) rfl (fun ls hl => ?_)
  refine lv_aload_n hx hb d_law_153 rfl (lv_at hl 4 rfl) ?_
  refine vp_callSi (nv_runV (wc := wMdS cI cJ cZ BB ((u0, u2, u1, MM.ba, MM.nl, MM.xa, MM.sa, MM.da, MM.la, MM.ra, MM.fa, MM.ta, MM.ua, MM.uh, MM.uo, MM.ma, MM.mh, MM.ml, MM.nf, MM.fo, MM.fh, MM.fs, MM.rs, u3, MM.mn, MM.bh, MM.bo, MM.ya, MM.np, MM.pa, MM.nc, MM.cp) : MdC)) (As := []) (rest := []) ⟨hx, hb, hml, hown, hts⟩ (m_Md_thrown l D cI cJ cO cZ BB.a0 BB.a1 BB.a2 BB.a3 BB.a4 BB.a5 BB.a6 BB.a7 BB.a8 BB.a9 BB.a10 BB.a11 BB.a12 BB.a13 BB.a14 BB.a15 BB.a16 BB.a17 BB.a18 BB.a19 BB.a20 BB.a21 BB.a22 BB.a23 u0 u2 u1 MM.ba MM.nl MM.xa MM.sa MM.da MM.la MM.ra MM.fa MM.ta MM.ua MM.uh MM.uo MM.ma MM.mh MM.ml MM.nf MM.fo MM.fh MM.fs MM.rs u3 MM.mn MM.bh MM.bo MM.ya MM.np MM.pa MM.nc MM.cp (fun z => z = u0) (by unfold vc_Md_thrown; rfl)) (nv_cwV (n := 0) hts wd_801 wd_802 wd_803 wd_10 wd_804 (by decide +kernel) ⟨Nat.le_of_ble_eq_true rfl, Nat.le_of_ble_eq_true rfl⟩) hK (nv_Papp.mp hP).1 (va_recv hK hP (ci := 8) (q0 := 0) rfl rfl) rfl hl.1 rfl (Nat.le_of_ble_eq_true rfl) d_law_154 (by show _ ≤ 601024; omega) (by show _ ≤ 7293034; omega)) (fun r9 hr9 => ?_)
  obtain ⟨z9, rfl, hz8⟩ := hr9
  have hz8 : z9 = k := hz8.trans hth
  rw [hz8]
  refine lv_iload hx hb d_law_157 (lv_at hl 1 rfl) ?_
  refine nv_icmp_eq (tgt := 164) hx hb d_law_159 (by decide) rk rk (fun _ => ?_) (fun h9 => absurd rfl h9)
  refine lv_iload hx hb d_law_164 (lv_at hl 1 rfl) ?_
  refine nv_if_ne (tgt := 181) hx hb d_law_166 (by decide) rk (fun _ => ?_) (fun hk0 => ?_)
  · refine lv_goto (tgt := 1338) hx hb d_law_181 (by decide) ?_
    exact kk f1 A1 C1 ((u0, u2, u1, MM.ba, MM.nl, MM.xa, MM.sa, MM.da, MM.la, MM.ra, MM.fa, MM.ta, MM.ua, MM.uh, MM.uo, MM.ma, MM.mh, MM.ml, MM.nf, MM.fo, MM.fh, MM.fs, MM.rs, u3, MM.mn, MM.bh, MM.bo, MM.ya, MM.np, MM.pa, MM.nc, MM.cp) : MdC) H ls hA1 hh0 hRl hP hD hS (lv_sub hl [6, 5, 4, 3, 2] rfl)
  · obtain ⟨hz7, rz⟩ := hz9 hk0
    refine lv_aload_n hx hb d_law_169 rfl (lv_at hl 3 rfl) ?_
    refine nv_iconst (n := 0) hx hb d_law_170 ?_
    refine nv_lald (f := f1) hx hb hK 1 (hP 24 _ rfl) rfl 0 rfl (by decide) (by decide) d_law_171 ?_
    rw [hz7]
    refine lv_iload hx hb d_law_172 (lv_at hl 0 rfl) ?_
    refine nv_i2l hx hb d_law_174 rz ?_
    refine nv_lcmp_eq (tgt := 181) hx hb d_law_175 d_law_176 (by decide) ⟨by have := rz.1; omega, by have := rz.2; omega⟩ ⟨by have := rz.1; omega, by have := rz.2; omega⟩ (fun _ => ?_) (fun h9 => absurd rfl h9)
    refine lv_goto (tgt := 1338) hx hb d_law_181 (by decide) ?_
    exact kk f1 A1 C1 ((u0, u2, u1, MM.ba, MM.nl, MM.xa, MM.sa, MM.da, MM.la, MM.ra, MM.fa, MM.ta, MM.ua, MM.uh, MM.uo, MM.ma, MM.mh, MM.ml, MM.nf, MM.fo, MM.fh, MM.fs, MM.rs, u3, MM.mn, MM.bh, MM.bo, MM.ya, MM.np, MM.pa, MM.nc, MM.cp) : MdC) H ls hA1 hh0 hRl hP hD hS (lv_sub hl [6, 5, 4, 3, 2] rfl)
def vl_allowed (AA : LdA) (CC : LdC) (MM : MdC) (f : Nat → Int) (x1 x2 x3 : Int) (Rl : LdC → MdC → Prop) : Prop := ∃ Pw1, vw_allowed AA CC f x1 x2 Pw1 ∧ ∀ (k : Int) (f1 : Nat → Int) (C1 : LdC), Pw1 k f1 C1 → r32 k ∧ (∃ Pm3, vc_Md_allowed MM.th MM.no MM.ca MM.ba MM.nl MM.xa MM.sa MM.da MM.la MM.ra MM.fa MM.ta MM.ua MM.uh MM.uo MM.ma MM.mh MM.ml MM.nf MM.fo MM.fh MM.fs MM.rs MM.ic MM.mn MM.bh MM.bo MM.ya MM.np MM.pa MM.nc MM.cp x1 x2 Pm3 ∧ ∀ (z : Int) (u0 : Int) (u1 : Nat → Int) (u2 : Int), Pm3 z u0 u1 u2 → u0 = k ∧ (k = 0 → f1 0 = z ∧ r32 z) ∧ Rl C1 ((u0, MM.no, MM.ca, u1, MM.nl, MM.xa, MM.sa, MM.da, MM.la, MM.ra, MM.fa, MM.ta, MM.ua, MM.uh, MM.uo, MM.ma, MM.mh, MM.ml, MM.nf, MM.fo, MM.fh, MM.fs, MM.rs, u2, MM.mn, MM.bh, MM.bo, MM.ya, MM.np, MM.pa, MM.nc, MM.cp) : MdC))
set_option maxHeartbeats 4000000 in
set_option maxRecDepth 100000 in
theorem c_allowed {p : Program} {l : Launch} {e : Env} {s : State} {m : MethodId} {below : List Frame} {meth : Method} {c : Code} {Q : State → Prop} {b L : Nat} {xs : Nat → Int32} {D : va_G} {cI cJ cO cZ : ClassId} {qd mi : Nat} (F9 : LwF p l s m meth c b L xs D cI cJ cO cZ qd mi) {o : Nat} {BB : MdA} {f : Nat → Int} {AA : LdA} {CC : LdC} {MM : MdC} {H : Heap} {ls : Array Slot} {i cells slots : Nat} {x1 x2 x3 : Int} (hAA : ldA qd AA CC) (hP : va_P D vwCl (wMdS cI cJ cZ BB MM ++ (cOut cJ o f :: LDW cI cJ cO AA CC)) H) (hD : va_D (fun q => s.heap.size ≤ q) (wMdS cI cJ cZ BB MM ++ (cOut cJ o f :: LDW cI cJ cO AA CC))) (hS : va_S (fun q => s.heap.size ≤ q) s.heap H []) (hl : lv_has ls 7 [(4, .int (iI (i : Int))), (3, .ref o), (2, .ref BB.a0), (1, .ref AA.h0), (0, .ref b)]) (hi : i + 3 < L) (hL : L ≤ 2048) (q1 : xs (i + 1) = iI x1) (q2 : xs (i + 2) = iI x2) (q3 : xs (i + 3) = iI x3) (r1 : r32 x1) (r2 : r32 x2) (r3 : r32 x3) (hc : cells + 12 ≤ 601024) (hsl : slots + 240 ≤ 7293034) (Rl : LdC → MdC → Prop) (v : vl_allowed AA CC MM f x1 x2 x3 Rl)
    (kk : ∀ (f1 : Nat → Int) (A1 : LdA) (C1 : LdC) (M1 : MdC) (H : Heap) (ls : Array Slot), ldA qd A1 C1 → A1.h0 = AA.h0 → Rl C1 M1 → va_P D vwCl (wMdS cI cJ cZ BB M1 ++ (cOut cJ o f1 :: LDW cI cJ cO A1 C1)) H → va_D (fun q => s.heap.size ≤ q) (wMdS cI cJ cZ BB M1 ++ (cOut cJ o f1 :: LDW cI cJ cO A1 C1)) → va_S (fun q => s.heap.size ≤ q) s.heap H [] → lv_has ls 7 [(0, .ref b), (1, .ref AA.h0), (2, .ref BB.a0), (3, .ref o), (4, .int (iI (i : Int)))] → W p l e room_1 s m #[Value.ref b] below meth c H [] (cells + 12) (slots + 240) Q (F0 m 1338 ls [])) :
    W p l e room_1 s m #[Value.ref b] below meth c H [] cells slots Q (F0 m 184 ls []) := by
  obtain ⟨hx, hb, hml, hown, hts, hX, hbl, hK, hZ, hN, hfl⟩ := F9
  unfold vl_allowed at v
  refine lv_aload_n hx hb d_law_184 rfl (lv_at hl 3 rfl) ?_
  refine lv_aload_n hx hb d_law_185 rfl (lv_at hl 4 rfl) ?_
  refine lv_iload hx hb d_law_186 (lv_at hl 0 rfl) ?_
  refine nv_iconst (n := 1) hx hb d_law_188 ?_
  refine nv_iadd (z := (i : Int) + 1) hx hb d_law_189 (by first | rfl | omega) ?_
  refine nv_sld hx hb hX hbl (Nat.not_le.mpr hbl) hS (x := x1) (i + 1) (by omega) (by omega) (by omega) q1 d_law_190 ?_
  refine lv_aload_n hx hb d_law_191 rfl (lv_at hl 4 rfl) ?_
  refine lv_iload hx hb d_law_192 (lv_at hl 0 rfl) ?_
  refine nv_iconst (n := 2) hx hb d_law_194 ?_
  refine nv_iadd (z := (i : Int) + 2) hx hb d_law_195 (by first | rfl | omega) ?_
  refine nv_sld hx hb hX hbl (Nat.not_le.mpr hbl) hS (x := x2) (i + 2) (by omega) (by omega) (by omega) q2 d_law_196 ?_
  refine lv_aload_n hx hb d_law_197 rfl (lv_at hl 1 rfl) ?_
  obtain ⟨Pw1, vw2, v⟩ := v
  have hPs := nv_Pperm hP List.perm_append_comm
  have hDs := nv_Dperm hD List.perm_append_comm
  have hPc := (nv_Papp.mp hPs).1
  have hDc := nv_Dleft hDs
  have hFc := nv_free hDs hS (fun q h => h)
  refine va_calli (nv_runSW (n := 4) (As := [.ref AA.h0, .int (iI x1), .int (iI x2), .ref o]) (rest := []) ⟨hx, hb, hml, hown, hts⟩ (w_allowed l D cI cJ cO cZ qd mi s hZ hfl hN o f AA CC hAA H.size x1 x2 Pw1 vw2) hts wd_431 wd_432 wd_0 wd_433 rfl rfl (by decide +kernel) ⟨Nat.le_of_ble_eq_true rfl, Nat.le_of_ble_eq_true rfl⟩ ⟨blWE, fun U hU hW => ⟨rfl, by rw [hU], by rw [hU]; exact hPc, va_K.moved hW.alike hK, hDc, (Ev.rf s).step (fun _ h => h) hS hU hW⟩⟩ rfl rfl hl.1 rfl (lv_room (Nat.le_of_ble_eq_true rfl)) d_law_198 ⟨by show _ ≤ 601024; omega, by show _ ≤ 7293034; omega⟩) hS (fun q _ h => hFc q h) hFc (fun r u t H1 locs ht hvm hw hB hz1 hk1 hS => ?_)
  obtain ⟨f1, C1⟩ := u
  obtain ⟨A1, hA1, hh0, hP1, hK1, hD1⟩ := hB
  rw [ht] at hP1
  obtain ⟨k, rfl, hw⟩ := hw
  obtain ⟨hP, hD⟩ := nv_join (w1 := (cOut cJ o f1 :: LDW cI cJ cO A1 C1)) hPs hDs hk1 hFc hP1 hD1
  generalize H1 = H at hP hS ⊢
  refine nv_forget hS (fun hS => ?_)
  replace hP := nv_Pperm hP List.perm_append_comm
  replace hD := nv_Dperm hD List.perm_append_comm
  obtain ⟨rk, v⟩ := v k f1 C1 hw
  refine lv_istore (lv' := [(5, .int (iI k)), (4, .int (iI (i : Int))), (3, .ref o), (2, .ref BB.a0), (1, .ref AA.h0), (0, .ref b)]) hx hb d_law_201 hl (by decide) rfl (fun ls hl => ?_)
  refine lv_aload_n hx hb d_law_203 rfl (lv_at hl 3 rfl) ?_
  refine lv_aload_n hx hb d_law_204 rfl (lv_at hl 5 rfl) ?_
  refine lv_iload hx hb d_law_205 (lv_at hl 1 rfl) ?_
  refine nv_iconst (n := 1) hx hb d_law_207 ?_
  refine nv_iadd (z := (i : Int) + 1) hx hb d_law_208 (by first | rfl | omega) ?_
  refine nv_sld hx hb hX hbl (Nat.not_le.mpr hbl) hS (x := x1) (i + 1) (by omega) (by omega) (by omega) q1 d_law_209 ?_
  refine lv_aload_n hx hb d_law_210 rfl (lv_at hl 5 rfl) ?_
  refine lv_iload hx hb d_law_211 (lv_at hl 1 rfl) ?_
  refine nv_iconst (n := 2) hx hb d_law_213 ?_
  refine nv_iadd (z := (i : Int) + 2) hx hb d_law_214 (by first | rfl | omega) ?_
  refine nv_sld hx hb hX hbl (Nat.not_le.mpr hbl) hS (x := x2) (i + 2) (by omega) (by omega) (by omega) q2 d_law_215 ?_
  obtain ⟨Pm3, vm4, v⟩ := v
  have hPc := (nv_Papp.mp hP).1
  have hDc := nv_Dleft hD
  have hFc := nv_free hD hS (fun q h => h)
  refine va_calli (va_runV (As := [.int (iI x1), .int (iI x2)]) (rest := []) ⟨hx, hb, hml, hown, hts⟩ (m_Md_allowed l D cI cJ cO cZ BB.a0 BB.a1 BB.a2 BB.a3 BB.a4 BB.a5 BB.a6 BB.a7 BB.a8 BB.a9 BB.a10 BB.a11 BB.a12 BB.a13 BB.a14 BB.a15 BB.a16 BB.a17 BB.a18 BB.a19 BB.a20 BB.a21 BB.a22 BB.a23 H.size MM.th MM.no MM.ca MM.ba MM.nl MM.xa MM.sa MM.da MM.la MM.ra MM.fa MM.ta MM.ua MM.uh MM.uo MM.ma MM.mh MM.ml MM.nf MM.fo MM.fh MM.fs MM.rs MM.ic MM.mn MM.bh MM.bo MM.ya MM.np MM.pa MM.nc MM.cp x1 x2 Pm3 vm4) (nv_cwV (n := 2) hts wd_816 wd_817 wd_818 wd_10 wd_819 (by decide +kernel) ⟨Nat.le_of_ble_eq_true rfl, Nat.le_of_ble_eq_true rfl⟩) ⟨blW, va_recv hK hPc (ci := 8) (q0 := 0) rfl rfl, fun U hU hW => ⟨rfl, by rw [hU], by rw [hU]; exact hPc, va_K.moved hW.alike hK, hDc.weaken (fun _ _ _ _ => trivial)⟩⟩ rfl rfl hl.1 rfl (lv_room (Nat.le_of_ble_eq_true rfl)) d_law_216 ⟨by show _ ≤ 601024; omega, by show _ ≤ 7293034; omega⟩) hS (fun q _ h => hFc q h) hFc (fun r u t H1 locs ht hvm hw hB hz1 hk1 hS => ?_)
  obtain ⟨u0, u1, u2⟩ := u
  obtain ⟨hP1, hK1, hD1⟩ := hB
  rw [ht] at hP1
  obtain ⟨z, rfl, hw⟩ := hw
  obtain ⟨hP, hD⟩ := nv_join (w1 := wMdS cI cJ cZ BB ((u0, MM.no, MM.ca, u1, MM.nl, MM.xa, MM.sa, MM.da, MM.la, MM.ra, MM.fa, MM.ta, MM.ua, MM.uh, MM.uo, MM.ma, MM.mh, MM.ml, MM.nf, MM.fo, MM.fh, MM.fs, MM.rs, u2, MM.mn, MM.bh, MM.bo, MM.ya, MM.np, MM.pa, MM.nc, MM.cp) : MdC)) hP hD hk1 hFc hP1 hD1
  generalize H1 = H at hP hS ⊢
  refine nv_forget hS (fun hS => ?_)
  replace v := v z u0 u1 u2 hw
  obtain ⟨hth, hz9, hRl⟩ := v
  refine lv_istore (lv' := [(6, .int (iI z)), (5, .int (iI k)), (4, .int (iI (i : Int))), (3, .ref o), (2, .ref BB.a0), (1, .ref AA.h0), (0, .ref b)]) hx hb d_law_219 hl (by decide) rfl (fun ls hl => ?_)
  refine lv_aload_n hx hb d_law_221 rfl (lv_at hl 4 rfl) ?_
  refine vp_callSi (nv_runV (wc := wMdS cI cJ cZ BB ((u0, MM.no, MM.ca, u1, MM.nl, MM.xa, MM.sa, MM.da, MM.la, MM.ra, MM.fa, MM.ta, MM.ua, MM.uh, MM.uo, MM.ma, MM.mh, MM.ml, MM.nf, MM.fo, MM.fh, MM.fs, MM.rs, u2, MM.mn, MM.bh, MM.bo, MM.ya, MM.np, MM.pa, MM.nc, MM.cp) : MdC)) (As := []) (rest := []) ⟨hx, hb, hml, hown, hts⟩ (m_Md_thrown l D cI cJ cO cZ BB.a0 BB.a1 BB.a2 BB.a3 BB.a4 BB.a5 BB.a6 BB.a7 BB.a8 BB.a9 BB.a10 BB.a11 BB.a12 BB.a13 BB.a14 BB.a15 BB.a16 BB.a17 BB.a18 BB.a19 BB.a20 BB.a21 BB.a22 BB.a23 u0 MM.no MM.ca u1 MM.nl MM.xa MM.sa MM.da MM.la MM.ra MM.fa MM.ta MM.ua MM.uh MM.uo MM.ma MM.mh MM.ml MM.nf MM.fo MM.fh MM.fs MM.rs u2 MM.mn MM.bh MM.bo MM.ya MM.np MM.pa MM.nc MM.cp (fun z => z = u0) (by unfold vc_Md_thrown; rfl)) (nv_cwV (n := 0) hts wd_801 wd_802 wd_803 wd_10 wd_804 (by decide +kernel) ⟨Nat.le_of_ble_eq_true rfl, Nat.le_of_ble_eq_true rfl⟩) hK (nv_Papp.mp hP).1 (va_recv hK hP (ci := 8) (q0 := 0) rfl rfl) rfl hl.1 rfl (Nat.le_of_ble_eq_true rfl) d_law_222 (by show _ ≤ 601024; omega) (by show _ ≤ 7293034; omega)) (fun r9 hr9 => ?_)
  obtain ⟨z9, rfl, hz8⟩ := hr9
  have hz8 : z9 = k := hz8.trans hth
  rw [hz8]
  refine lv_iload hx hb d_law_225 (lv_at hl 1 rfl) ?_
  refine nv_icmp_eq (tgt := 232) hx hb d_law_227 (by decide) rk rk (fun _ => ?_) (fun h9 => absurd rfl h9)
  refine lv_iload hx hb d_law_232 (lv_at hl 1 rfl) ?_
  refine nv_if_ne (tgt := 249) hx hb d_law_234 (by decide) rk (fun _ => ?_) (fun hk0 => ?_)
  · refine lv_goto (tgt := 1338) hx hb d_law_249 (by decide) ?_
    exact kk f1 A1 C1 ((u0, MM.no, MM.ca, u1, MM.nl, MM.xa, MM.sa, MM.da, MM.la, MM.ra, MM.fa, MM.ta, MM.ua, MM.uh, MM.uo, MM.ma, MM.mh, MM.ml, MM.nf, MM.fo, MM.fh, MM.fs, MM.rs, u2, MM.mn, MM.bh, MM.bo, MM.ya, MM.np, MM.pa, MM.nc, MM.cp) : MdC) H ls hA1 hh0 hRl hP hD hS (lv_sub hl [6, 5, 4, 3, 2] rfl)
  · obtain ⟨hz7, rz⟩ := hz9 hk0
    refine lv_aload_n hx hb d_law_237 rfl (lv_at hl 3 rfl) ?_
    refine nv_iconst (n := 0) hx hb d_law_238 ?_
    refine nv_lald (f := f1) hx hb hK 1 (hP 24 _ rfl) rfl 0 rfl (by decide) (by decide) d_law_239 ?_
    rw [hz7]
    refine lv_iload hx hb d_law_240 (lv_at hl 0 rfl) ?_
    refine nv_i2l hx hb d_law_242 rz ?_
    refine nv_lcmp_eq (tgt := 249) hx hb d_law_243 d_law_244 (by decide) ⟨by have := rz.1; omega, by have := rz.2; omega⟩ ⟨by have := rz.1; omega, by have := rz.2; omega⟩ (fun _ => ?_) (fun h9 => absurd rfl h9)
    refine lv_goto (tgt := 1338) hx hb d_law_249 (by decide) ?_
    exact kk f1 A1 C1 ((u0, MM.no, MM.ca, u1, MM.nl, MM.xa, MM.sa, MM.da, MM.la, MM.ra, MM.fa, MM.ta, MM.ua, MM.uh, MM.uo, MM.ma, MM.mh, MM.ml, MM.nf, MM.fo, MM.fh, MM.fs, MM.rs, u2, MM.mn, MM.bh, MM.bo, MM.ya, MM.np, MM.pa, MM.nc, MM.cp) : MdC) H ls hA1 hh0 hRl hP hD hS (lv_sub hl [6, 5, 4, 3, 2] rfl)
def vl_lamp (AA : LdA) (CC : LdC) (MM : MdC) (f : Nat → Int) (x1 x2 x3 : Int) (Rl : LdC → MdC → Prop) : Prop := ∃ Pw1, vw_lamp AA CC f x1 Pw1 ∧ ∀ (k : Int) (f1 : Nat → Int) (C1 : LdC), Pw1 k f1 C1 → r32 k ∧ (∃ Pm3, vc_Md_lamp MM.th MM.no MM.ca MM.ba MM.nl MM.xa MM.sa MM.da MM.la MM.ra MM.fa MM.ta MM.ua MM.uh MM.uo MM.ma MM.mh MM.ml MM.nf MM.fo MM.fh MM.fs MM.rs MM.ic MM.mn MM.bh MM.bo MM.ya MM.np MM.pa MM.nc MM.cp x1 Pm3 ∧ ∀ (z : Int) (u0 : Int) (u1 : Nat → Int) (u2 : Int) (u3 : Nat → Int) (u4 : Int), Pm3 z u0 u1 u2 u3 u4 → u0 = k ∧ (k = 0 → f1 0 = z ∧ r32 z) ∧ Rl C1 ((u0, MM.no, MM.ca, MM.ba, u2, u1, MM.sa, MM.da, u3, MM.ra, MM.fa, MM.ta, MM.ua, MM.uh, MM.uo, MM.ma, MM.mh, MM.ml, MM.nf, MM.fo, MM.fh, MM.fs, MM.rs, u4, MM.mn, MM.bh, MM.bo, MM.ya, MM.np, MM.pa, MM.nc, MM.cp) : MdC))
set_option maxHeartbeats 4000000 in
set_option maxRecDepth 100000 in
theorem c_lamp {p : Program} {l : Launch} {e : Env} {s : State} {m : MethodId} {below : List Frame} {meth : Method} {c : Code} {Q : State → Prop} {b L : Nat} {xs : Nat → Int32} {D : va_G} {cI cJ cO cZ : ClassId} {qd mi : Nat} (F9 : LwF p l s m meth c b L xs D cI cJ cO cZ qd mi) {o : Nat} {BB : MdA} {f : Nat → Int} {AA : LdA} {CC : LdC} {MM : MdC} {H : Heap} {ls : Array Slot} {i cells slots : Nat} {x1 x2 x3 : Int} (hAA : ldA qd AA CC) (hP : va_P D vwCl (wMdS cI cJ cZ BB MM ++ (cOut cJ o f :: LDW cI cJ cO AA CC)) H) (hD : va_D (fun q => s.heap.size ≤ q) (wMdS cI cJ cZ BB MM ++ (cOut cJ o f :: LDW cI cJ cO AA CC))) (hS : va_S (fun q => s.heap.size ≤ q) s.heap H []) (hl : lv_has ls 7 [(4, .int (iI (i : Int))), (3, .ref o), (2, .ref BB.a0), (1, .ref AA.h0), (0, .ref b)]) (hi : i + 3 < L) (hL : L ≤ 2048) (q1 : xs (i + 1) = iI x1) (q2 : xs (i + 2) = iI x2) (q3 : xs (i + 3) = iI x3) (r1 : r32 x1) (r2 : r32 x2) (r3 : r32 x3) (hc : cells + 12 ≤ 601024) (hsl : slots + 240 ≤ 7293034) (Rl : LdC → MdC → Prop) (v : vl_lamp AA CC MM f x1 x2 x3 Rl)
    (kk : ∀ (f1 : Nat → Int) (A1 : LdA) (C1 : LdC) (M1 : MdC) (H : Heap) (ls : Array Slot), ldA qd A1 C1 → A1.h0 = AA.h0 → Rl C1 M1 → va_P D vwCl (wMdS cI cJ cZ BB M1 ++ (cOut cJ o f1 :: LDW cI cJ cO A1 C1)) H → va_D (fun q => s.heap.size ≤ q) (wMdS cI cJ cZ BB M1 ++ (cOut cJ o f1 :: LDW cI cJ cO A1 C1)) → va_S (fun q => s.heap.size ≤ q) s.heap H [] → lv_has ls 7 [(0, .ref b), (1, .ref AA.h0), (2, .ref BB.a0), (3, .ref o), (4, .int (iI (i : Int)))] → W p l e room_1 s m #[Value.ref b] below meth c H [] (cells + 12) (slots + 240) Q (F0 m 1338 ls [])) :
    W p l e room_1 s m #[Value.ref b] below meth c H [] cells slots Q (F0 m 252 ls []) := by
  obtain ⟨hx, hb, hml, hown, hts, hX, hbl, hK, hZ, hN, hfl⟩ := F9
  unfold vl_lamp at v
  refine lv_aload_n hx hb d_law_252 rfl (lv_at hl 3 rfl) ?_
  refine lv_aload_n hx hb d_law_253 rfl (lv_at hl 4 rfl) ?_
  refine lv_iload hx hb d_law_254 (lv_at hl 0 rfl) ?_
  refine nv_iconst (n := 1) hx hb d_law_256 ?_
  refine nv_iadd (z := (i : Int) + 1) hx hb d_law_257 (by first | rfl | omega) ?_
  refine nv_sld hx hb hX hbl (Nat.not_le.mpr hbl) hS (x := x1) (i + 1) (by omega) (by omega) (by omega) q1 d_law_258 ?_
  refine lv_aload_n hx hb d_law_259 rfl (lv_at hl 1 rfl) ?_
  obtain ⟨Pw1, vw2, v⟩ := v
  have hPs := nv_Pperm hP List.perm_append_comm
  have hDs := nv_Dperm hD List.perm_append_comm
  have hPc := (nv_Papp.mp hPs).1
  have hDc := nv_Dleft hDs
  have hFc := nv_free hDs hS (fun q h => h)
  refine va_calli (nv_runSW (n := 3) (As := [.ref AA.h0, .int (iI x1), .ref o]) (rest := []) ⟨hx, hb, hml, hown, hts⟩ (w_lamp l D cI cJ cO cZ qd mi s hZ hfl hN o f AA CC hAA H.size x1 Pw1 vw2) hts wd_459 wd_460 wd_0 wd_461 rfl rfl (by decide +kernel) ⟨Nat.le_of_ble_eq_true rfl, Nat.le_of_ble_eq_true rfl⟩ ⟨blWE, fun U hU hW => ⟨rfl, by rw [hU], by rw [hU]; exact hPc, va_K.moved hW.alike hK, hDc, (Ev.rf s).step (fun _ h => h) hS hU hW⟩⟩ rfl rfl hl.1 rfl (lv_room (Nat.le_of_ble_eq_true rfl)) d_law_260 ⟨by show _ ≤ 601024; omega, by show _ ≤ 7293034; omega⟩) hS (fun q _ h => hFc q h) hFc (fun r u t H1 locs ht hvm hw hB hz1 hk1 hS => ?_)
  obtain ⟨f1, C1⟩ := u
  obtain ⟨A1, hA1, hh0, hP1, hK1, hD1⟩ := hB
  rw [ht] at hP1
  obtain ⟨k, rfl, hw⟩ := hw
  obtain ⟨hP, hD⟩ := nv_join (w1 := (cOut cJ o f1 :: LDW cI cJ cO A1 C1)) hPs hDs hk1 hFc hP1 hD1
  generalize H1 = H at hP hS ⊢
  refine nv_forget hS (fun hS => ?_)
  replace hP := nv_Pperm hP List.perm_append_comm
  replace hD := nv_Dperm hD List.perm_append_comm
  obtain ⟨rk, v⟩ := v k f1 C1 hw
  refine lv_istore (lv' := [(5, .int (iI k)), (4, .int (iI (i : Int))), (3, .ref o), (2, .ref BB.a0), (1, .ref AA.h0), (0, .ref b)]) hx hb d_law_263 hl (by decide) rfl (fun ls hl => ?_)
  refine lv_aload_n hx hb d_law_265 rfl (lv_at hl 3 rfl) ?_
  refine lv_aload_n hx hb d_law_266 rfl (lv_at hl 5 rfl) ?_
  refine lv_iload hx hb d_law_267 (lv_at hl 1 rfl) ?_
  refine nv_iconst (n := 1) hx hb d_law_269 ?_
  refine nv_iadd (z := (i : Int) + 1) hx hb d_law_270 (by first | rfl | omega) ?_
  refine nv_sld hx hb hX hbl (Nat.not_le.mpr hbl) hS (x := x1) (i + 1) (by omega) (by omega) (by omega) q1 d_law_271 ?_
  obtain ⟨Pm3, vm4, v⟩ := v
  have hPc := (nv_Papp.mp hP).1
  have hDc := nv_Dleft hD
  have hFc := nv_free hD hS (fun q h => h)
  refine va_calli (va_runV (As := [.int (iI x1)]) (rest := []) ⟨hx, hb, hml, hown, hts⟩ (m_Md_lamp l D cI cJ cO cZ BB.a0 BB.a1 BB.a2 BB.a3 BB.a4 BB.a5 BB.a6 BB.a7 BB.a8 BB.a9 BB.a10 BB.a11 BB.a12 BB.a13 BB.a14 BB.a15 BB.a16 BB.a17 BB.a18 BB.a19 BB.a20 BB.a21 BB.a22 BB.a23 H.size MM.th MM.no MM.ca MM.ba MM.nl MM.xa MM.sa MM.da MM.la MM.ra MM.fa MM.ta MM.ua MM.uh MM.uo MM.ma MM.mh MM.ml MM.nf MM.fo MM.fh MM.fs MM.rs MM.ic MM.mn MM.bh MM.bo MM.ya MM.np MM.pa MM.nc MM.cp x1 Pm3 vm4) (nv_cwV (n := 1) hts wd_821 wd_822 wd_823 wd_10 wd_824 (by decide +kernel) ⟨Nat.le_of_ble_eq_true rfl, Nat.le_of_ble_eq_true rfl⟩) ⟨blW, va_recv hK hPc (ci := 8) (q0 := 0) rfl rfl, fun U hU hW => ⟨rfl, by rw [hU], by rw [hU]; exact hPc, va_K.moved hW.alike hK, hDc.weaken (fun _ _ _ _ => trivial)⟩⟩ rfl rfl hl.1 rfl (lv_room (Nat.le_of_ble_eq_true rfl)) d_law_272 ⟨by show _ ≤ 601024; omega, by show _ ≤ 7293034; omega⟩) hS (fun q _ h => hFc q h) hFc (fun r u t H1 locs ht hvm hw hB hz1 hk1 hS => ?_)
  obtain ⟨u0, u1, u2, u3, u4⟩ := u
  obtain ⟨hP1, hK1, hD1⟩ := hB
  rw [ht] at hP1
  obtain ⟨z, rfl, hw⟩ := hw
  obtain ⟨hP, hD⟩ := nv_join (w1 := wMdS cI cJ cZ BB ((u0, MM.no, MM.ca, MM.ba, u2, u1, MM.sa, MM.da, u3, MM.ra, MM.fa, MM.ta, MM.ua, MM.uh, MM.uo, MM.ma, MM.mh, MM.ml, MM.nf, MM.fo, MM.fh, MM.fs, MM.rs, u4, MM.mn, MM.bh, MM.bo, MM.ya, MM.np, MM.pa, MM.nc, MM.cp) : MdC)) hP hD hk1 hFc hP1 hD1
  generalize H1 = H at hP hS ⊢
  refine nv_forget hS (fun hS => ?_)
  replace v := v z u0 u1 u2 u3 u4 hw
  obtain ⟨hth, hz9, hRl⟩ := v
  refine lv_istore (lv' := [(6, .int (iI z)), (5, .int (iI k)), (4, .int (iI (i : Int))), (3, .ref o), (2, .ref BB.a0), (1, .ref AA.h0), (0, .ref b)]) hx hb d_law_275 hl (by decide) rfl (fun ls hl => ?_)
  refine lv_aload_n hx hb d_law_277 rfl (lv_at hl 4 rfl) ?_
  refine vp_callSi (nv_runV (wc := wMdS cI cJ cZ BB ((u0, MM.no, MM.ca, MM.ba, u2, u1, MM.sa, MM.da, u3, MM.ra, MM.fa, MM.ta, MM.ua, MM.uh, MM.uo, MM.ma, MM.mh, MM.ml, MM.nf, MM.fo, MM.fh, MM.fs, MM.rs, u4, MM.mn, MM.bh, MM.bo, MM.ya, MM.np, MM.pa, MM.nc, MM.cp) : MdC)) (As := []) (rest := []) ⟨hx, hb, hml, hown, hts⟩ (m_Md_thrown l D cI cJ cO cZ BB.a0 BB.a1 BB.a2 BB.a3 BB.a4 BB.a5 BB.a6 BB.a7 BB.a8 BB.a9 BB.a10 BB.a11 BB.a12 BB.a13 BB.a14 BB.a15 BB.a16 BB.a17 BB.a18 BB.a19 BB.a20 BB.a21 BB.a22 BB.a23 u0 MM.no MM.ca MM.ba u2 u1 MM.sa MM.da u3 MM.ra MM.fa MM.ta MM.ua MM.uh MM.uo MM.ma MM.mh MM.ml MM.nf MM.fo MM.fh MM.fs MM.rs u4 MM.mn MM.bh MM.bo MM.ya MM.np MM.pa MM.nc MM.cp (fun z => z = u0) (by unfold vc_Md_thrown; rfl)) (nv_cwV (n := 0) hts wd_801 wd_802 wd_803 wd_10 wd_804 (by decide +kernel) ⟨Nat.le_of_ble_eq_true rfl, Nat.le_of_ble_eq_true rfl⟩) hK (nv_Papp.mp hP).1 (va_recv hK hP (ci := 8) (q0 := 0) rfl rfl) rfl hl.1 rfl (Nat.le_of_ble_eq_true rfl) d_law_278 (by show _ ≤ 601024; omega) (by show _ ≤ 7293034; omega)) (fun r9 hr9 => ?_)
  obtain ⟨z9, rfl, hz8⟩ := hr9
  have hz8 : z9 = k := hz8.trans hth
  rw [hz8]
  refine lv_iload hx hb d_law_281 (lv_at hl 1 rfl) ?_
  refine nv_icmp_eq (tgt := 288) hx hb d_law_283 (by decide) rk rk (fun _ => ?_) (fun h9 => absurd rfl h9)
  refine lv_iload hx hb d_law_288 (lv_at hl 1 rfl) ?_
  refine nv_if_ne (tgt := 305) hx hb d_law_290 (by decide) rk (fun _ => ?_) (fun hk0 => ?_)
  · refine lv_goto (tgt := 1338) hx hb d_law_305 (by decide) ?_
    exact kk f1 A1 C1 ((u0, MM.no, MM.ca, MM.ba, u2, u1, MM.sa, MM.da, u3, MM.ra, MM.fa, MM.ta, MM.ua, MM.uh, MM.uo, MM.ma, MM.mh, MM.ml, MM.nf, MM.fo, MM.fh, MM.fs, MM.rs, u4, MM.mn, MM.bh, MM.bo, MM.ya, MM.np, MM.pa, MM.nc, MM.cp) : MdC) H ls hA1 hh0 hRl hP hD hS (lv_sub hl [6, 5, 4, 3, 2] rfl)
  · obtain ⟨hz7, rz⟩ := hz9 hk0
    refine lv_aload_n hx hb d_law_293 rfl (lv_at hl 3 rfl) ?_
    refine nv_iconst (n := 0) hx hb d_law_294 ?_
    refine nv_lald (f := f1) hx hb hK 1 (hP 24 _ rfl) rfl 0 rfl (by decide) (by decide) d_law_295 ?_
    rw [hz7]
    refine lv_iload hx hb d_law_296 (lv_at hl 0 rfl) ?_
    refine nv_i2l hx hb d_law_298 rz ?_
    refine nv_lcmp_eq (tgt := 305) hx hb d_law_299 d_law_300 (by decide) ⟨by have := rz.1; omega, by have := rz.2; omega⟩ ⟨by have := rz.1; omega, by have := rz.2; omega⟩ (fun _ => ?_) (fun h9 => absurd rfl h9)
    refine lv_goto (tgt := 1338) hx hb d_law_305 (by decide) ?_
    exact kk f1 A1 C1 ((u0, MM.no, MM.ca, MM.ba, u2, u1, MM.sa, MM.da, u3, MM.ra, MM.fa, MM.ta, MM.ua, MM.uh, MM.uo, MM.ma, MM.mh, MM.ml, MM.nf, MM.fo, MM.fh, MM.fs, MM.rs, u4, MM.mn, MM.bh, MM.bo, MM.ya, MM.np, MM.pa, MM.nc, MM.cp) : MdC) H ls hA1 hh0 hRl hP hD hS (lv_sub hl [6, 5, 4, 3, 2] rfl)
def vl_shines (AA : LdA) (CC : LdC) (MM : MdC) (f : Nat → Int) (x1 x2 x3 : Int) (Rl : LdC → MdC → Prop) : Prop := ∃ Pw1, vw_shines AA CC f x1 x2 x3 Pw1 ∧ ∀ (k : Int) (f1 : Nat → Int) (C1 : LdC), Pw1 k f1 C1 → r32 k ∧ (∃ Pm3, vc_Md_shines MM.th MM.no MM.ca MM.ba MM.nl MM.xa MM.sa MM.da MM.la MM.ra MM.fa MM.ta MM.ua MM.uh MM.uo MM.ma MM.mh MM.ml MM.nf MM.fo MM.fh MM.fs MM.rs MM.ic MM.mn MM.bh MM.bo MM.ya MM.np MM.pa MM.nc MM.cp x1 x2 x3 Pm3 ∧ ∀ (z : Int) (u0 : Int) (u1 : Nat → Int) (u2 : Int), Pm3 z u0 u1 u2 → u0 = k ∧ (k = 0 → f1 0 = z ∧ r32 z) ∧ Rl C1 ((u0, MM.no, MM.ca, MM.ba, MM.nl, MM.xa, u1, MM.da, MM.la, MM.ra, MM.fa, MM.ta, MM.ua, MM.uh, MM.uo, MM.ma, MM.mh, MM.ml, MM.nf, MM.fo, MM.fh, MM.fs, MM.rs, u2, MM.mn, MM.bh, MM.bo, MM.ya, MM.np, MM.pa, MM.nc, MM.cp) : MdC))
set_option maxHeartbeats 4000000 in
set_option maxRecDepth 100000 in
theorem c_shines {p : Program} {l : Launch} {e : Env} {s : State} {m : MethodId} {below : List Frame} {meth : Method} {c : Code} {Q : State → Prop} {b L : Nat} {xs : Nat → Int32} {D : va_G} {cI cJ cO cZ : ClassId} {qd mi : Nat} (F9 : LwF p l s m meth c b L xs D cI cJ cO cZ qd mi) {o : Nat} {BB : MdA} {f : Nat → Int} {AA : LdA} {CC : LdC} {MM : MdC} {H : Heap} {ls : Array Slot} {i cells slots : Nat} {x1 x2 x3 : Int} (hAA : ldA qd AA CC) (hP : va_P D vwCl (wMdS cI cJ cZ BB MM ++ (cOut cJ o f :: LDW cI cJ cO AA CC)) H) (hD : va_D (fun q => s.heap.size ≤ q) (wMdS cI cJ cZ BB MM ++ (cOut cJ o f :: LDW cI cJ cO AA CC))) (hS : va_S (fun q => s.heap.size ≤ q) s.heap H []) (hl : lv_has ls 7 [(4, .int (iI (i : Int))), (3, .ref o), (2, .ref BB.a0), (1, .ref AA.h0), (0, .ref b)]) (hi : i + 3 < L) (hL : L ≤ 2048) (q1 : xs (i + 1) = iI x1) (q2 : xs (i + 2) = iI x2) (q3 : xs (i + 3) = iI x3) (r1 : r32 x1) (r2 : r32 x2) (r3 : r32 x3) (hc : cells + 12 ≤ 601024) (hsl : slots + 240 ≤ 7293034) (Rl : LdC → MdC → Prop) (v : vl_shines AA CC MM f x1 x2 x3 Rl)
    (kk : ∀ (f1 : Nat → Int) (A1 : LdA) (C1 : LdC) (M1 : MdC) (H : Heap) (ls : Array Slot), ldA qd A1 C1 → A1.h0 = AA.h0 → Rl C1 M1 → va_P D vwCl (wMdS cI cJ cZ BB M1 ++ (cOut cJ o f1 :: LDW cI cJ cO A1 C1)) H → va_D (fun q => s.heap.size ≤ q) (wMdS cI cJ cZ BB M1 ++ (cOut cJ o f1 :: LDW cI cJ cO A1 C1)) → va_S (fun q => s.heap.size ≤ q) s.heap H [] → lv_has ls 7 [(0, .ref b), (1, .ref AA.h0), (2, .ref BB.a0), (3, .ref o), (4, .int (iI (i : Int)))] → W p l e room_1 s m #[Value.ref b] below meth c H [] (cells + 12) (slots + 240) Q (F0 m 1338 ls [])) :
    W p l e room_1 s m #[Value.ref b] below meth c H [] cells slots Q (F0 m 308 ls []) := by
  obtain ⟨hx, hb, hml, hown, hts, hX, hbl, hK, hZ, hN, hfl⟩ := F9
  unfold vl_shines at v
  refine lv_aload_n hx hb d_law_308 rfl (lv_at hl 3 rfl) ?_
  refine lv_aload_n hx hb d_law_309 rfl (lv_at hl 4 rfl) ?_
  refine lv_iload hx hb d_law_310 (lv_at hl 0 rfl) ?_
  refine nv_iconst (n := 1) hx hb d_law_312 ?_
  refine nv_iadd (z := (i : Int) + 1) hx hb d_law_313 (by first | rfl | omega) ?_
  refine nv_sld hx hb hX hbl (Nat.not_le.mpr hbl) hS (x := x1) (i + 1) (by omega) (by omega) (by omega) q1 d_law_314 ?_
  refine lv_aload_n hx hb d_law_315 rfl (lv_at hl 4 rfl) ?_
  refine lv_iload hx hb d_law_316 (lv_at hl 0 rfl) ?_
  refine nv_iconst (n := 2) hx hb d_law_318 ?_
  refine nv_iadd (z := (i : Int) + 2) hx hb d_law_319 (by first | rfl | omega) ?_
  refine nv_sld hx hb hX hbl (Nat.not_le.mpr hbl) hS (x := x2) (i + 2) (by omega) (by omega) (by omega) q2 d_law_320 ?_
  refine lv_aload_n hx hb d_law_321 rfl (lv_at hl 4 rfl) ?_
  refine lv_iload hx hb d_law_322 (lv_at hl 0 rfl) ?_
  refine nv_iconst (n := 3) hx hb d_law_324 ?_
  refine nv_iadd (z := (i : Int) + 3) hx hb d_law_325 (by first | rfl | omega) ?_
  refine nv_sld hx hb hX hbl (Nat.not_le.mpr hbl) hS (x := x3) (i + 3) (by omega) (by omega) (by omega) q3 d_law_326 ?_
  refine lv_aload_n hx hb d_law_327 rfl (lv_at hl 1 rfl) ?_
  obtain ⟨Pw1, vw2, v⟩ := v
  have hPs := nv_Pperm hP List.perm_append_comm
  have hDs := nv_Dperm hD List.perm_append_comm
  have hPc := (nv_Papp.mp hPs).1
  have hDc := nv_Dleft hDs
  have hFc := nv_free hDs hS (fun q h => h)
  refine va_calli (nv_runSW (n := 5) (As := [.ref AA.h0, .int (iI x1), .int (iI x2), .int (iI x3), .ref o]) (rest := []) ⟨hx, hb, hml, hown, hts⟩ (w_shines l D cI cJ cO cZ qd mi s hZ hfl hN o f AA CC hAA H.size x1 x2 x3 Pw1 vw2) hts wd_530 wd_531 wd_0 wd_532 rfl rfl (by decide +kernel) ⟨Nat.le_of_ble_eq_true rfl, Nat.le_of_ble_eq_true rfl⟩ ⟨blWE, fun U hU hW => ⟨rfl, by rw [hU], by rw [hU]; exact hPc, va_K.moved hW.alike hK, hDc, (Ev.rf s).step (fun _ h => h) hS hU hW⟩⟩ rfl rfl hl.1 rfl (lv_room (Nat.le_of_ble_eq_true rfl)) d_law_328 ⟨by show _ ≤ 601024; omega, by show _ ≤ 7293034; omega⟩) hS (fun q _ h => hFc q h) hFc (fun r u t H1 locs ht hvm hw hB hz1 hk1 hS => ?_)
  obtain ⟨f1, C1⟩ := u
  obtain ⟨A1, hA1, hh0, hP1, hK1, hD1⟩ := hB
  rw [ht] at hP1
  obtain ⟨k, rfl, hw⟩ := hw
  obtain ⟨hP, hD⟩ := nv_join (w1 := (cOut cJ o f1 :: LDW cI cJ cO A1 C1)) hPs hDs hk1 hFc hP1 hD1
  generalize H1 = H at hP hS ⊢
  refine nv_forget hS (fun hS => ?_)
  replace hP := nv_Pperm hP List.perm_append_comm
  replace hD := nv_Dperm hD List.perm_append_comm
  obtain ⟨rk, v⟩ := v k f1 C1 hw
  refine lv_istore (lv' := [(5, .int (iI k)), (4, .int (iI (i : Int))), (3, .ref o), (2, .ref BB.a0), (1, .ref AA.h0), (0, .ref b)]) hx hb d_law_331 hl (by decide) rfl (fun ls hl => ?_)
  refine lv_aload_n hx hb d_law_333 rfl (lv_at hl 3 rfl) ?_
  refine lv_aload_n hx hb d_law_334 rfl (lv_at hl 5 rfl) ?_
  refine lv_iload hx hb d_law_335 (lv_at hl 1 rfl) ?_
  refine nv_iconst (n := 1) hx hb d_law_337 ?_
  refine nv_iadd (z := (i : Int) + 1) hx hb d_law_338 (by first | rfl | omega) ?_
  refine nv_sld hx hb hX hbl (Nat.not_le.mpr hbl) hS (x := x1) (i + 1) (by omega) (by omega) (by omega) q1 d_law_339 ?_
  refine lv_aload_n hx hb d_law_340 rfl (lv_at hl 5 rfl) ?_
  refine lv_iload hx hb d_law_341 (lv_at hl 1 rfl) ?_
  refine nv_iconst (n := 2) hx hb d_law_343 ?_
  refine nv_iadd (z := (i : Int) + 2) hx hb d_law_344 (by first | rfl | omega) ?_
  refine nv_sld hx hb hX hbl (Nat.not_le.mpr hbl) hS (x := x2) (i + 2) (by omega) (by omega) (by omega) q2 d_law_345 ?_
  refine lv_aload_n hx hb d_law_346 rfl (lv_at hl 5 rfl) ?_
  refine lv_iload hx hb d_law_347 (lv_at hl 1 rfl) ?_
  refine nv_iconst (n := 3) hx hb d_law_349 ?_
  refine nv_iadd (z := (i : Int) + 3) hx hb d_law_350 (by first | rfl | omega) ?_
  refine nv_sld hx hb hX hbl (Nat.not_le.mpr hbl) hS (x := x3) (i + 3) (by omega) (by omega) (by omega) q3 d_law_351 ?_
  obtain ⟨Pm3, vm4, v⟩ := v
  have hPc := (nv_Papp.mp hP).1
  have hDc := nv_Dleft hD
  have hFc := nv_free hD hS (fun q h => h)
  refine va_calli (va_runV (As := [.int (iI x1), .int (iI x2), .int (iI x3)]) (rest := []) ⟨hx, hb, hml, hown, hts⟩ (m_Md_shines l D cI cJ cO cZ BB.a0 BB.a1 BB.a2 BB.a3 BB.a4 BB.a5 BB.a6 BB.a7 BB.a8 BB.a9 BB.a10 BB.a11 BB.a12 BB.a13 BB.a14 BB.a15 BB.a16 BB.a17 BB.a18 BB.a19 BB.a20 BB.a21 BB.a22 BB.a23 H.size MM.th MM.no MM.ca MM.ba MM.nl MM.xa MM.sa MM.da MM.la MM.ra MM.fa MM.ta MM.ua MM.uh MM.uo MM.ma MM.mh MM.ml MM.nf MM.fo MM.fh MM.fs MM.rs MM.ic MM.mn MM.bh MM.bo MM.ya MM.np MM.pa MM.nc MM.cp x1 x2 x3 Pm3 vm4) (nv_cwV (n := 3) hts wd_832 wd_833 wd_834 wd_10 wd_835 (by decide +kernel) ⟨Nat.le_of_ble_eq_true rfl, Nat.le_of_ble_eq_true rfl⟩) ⟨blW, va_recv hK hPc (ci := 8) (q0 := 0) rfl rfl, fun U hU hW => ⟨rfl, by rw [hU], by rw [hU]; exact hPc, va_K.moved hW.alike hK, hDc.weaken (fun _ _ _ _ => trivial)⟩⟩ rfl rfl hl.1 rfl (lv_room (Nat.le_of_ble_eq_true rfl)) d_law_352 ⟨by show _ ≤ 601024; omega, by show _ ≤ 7293034; omega⟩) hS (fun q _ h => hFc q h) hFc (fun r u t H1 locs ht hvm hw hB hz1 hk1 hS => ?_)
  obtain ⟨u0, u1, u2⟩ := u
  obtain ⟨hP1, hK1, hD1⟩ := hB
  rw [ht] at hP1
  obtain ⟨z, rfl, hw⟩ := hw
  obtain ⟨hP, hD⟩ := nv_join (w1 := wMdS cI cJ cZ BB ((u0, MM.no, MM.ca, MM.ba, MM.nl, MM.xa, u1, MM.da, MM.la, MM.ra, MM.fa, MM.ta, MM.ua, MM.uh, MM.uo, MM.ma, MM.mh, MM.ml, MM.nf, MM.fo, MM.fh, MM.fs, MM.rs, u2, MM.mn, MM.bh, MM.bo, MM.ya, MM.np, MM.pa, MM.nc, MM.cp) : MdC)) hP hD hk1 hFc hP1 hD1
  generalize H1 = H at hP hS ⊢
  refine nv_forget hS (fun hS => ?_)
  replace v := v z u0 u1 u2 hw
  obtain ⟨hth, hz9, hRl⟩ := v
  refine lv_istore (lv' := [(6, .int (iI z)), (5, .int (iI k)), (4, .int (iI (i : Int))), (3, .ref o), (2, .ref BB.a0), (1, .ref AA.h0), (0, .ref b)]) hx hb d_law_355 hl (by decide) rfl (fun ls hl => ?_)
  refine lv_aload_n hx hb d_law_357 rfl (lv_at hl 4 rfl) ?_
  refine vp_callSi (nv_runV (wc := wMdS cI cJ cZ BB ((u0, MM.no, MM.ca, MM.ba, MM.nl, MM.xa, u1, MM.da, MM.la, MM.ra, MM.fa, MM.ta, MM.ua, MM.uh, MM.uo, MM.ma, MM.mh, MM.ml, MM.nf, MM.fo, MM.fh, MM.fs, MM.rs, u2, MM.mn, MM.bh, MM.bo, MM.ya, MM.np, MM.pa, MM.nc, MM.cp) : MdC)) (As := []) (rest := []) ⟨hx, hb, hml, hown, hts⟩ (m_Md_thrown l D cI cJ cO cZ BB.a0 BB.a1 BB.a2 BB.a3 BB.a4 BB.a5 BB.a6 BB.a7 BB.a8 BB.a9 BB.a10 BB.a11 BB.a12 BB.a13 BB.a14 BB.a15 BB.a16 BB.a17 BB.a18 BB.a19 BB.a20 BB.a21 BB.a22 BB.a23 u0 MM.no MM.ca MM.ba MM.nl MM.xa u1 MM.da MM.la MM.ra MM.fa MM.ta MM.ua MM.uh MM.uo MM.ma MM.mh MM.ml MM.nf MM.fo MM.fh MM.fs MM.rs u2 MM.mn MM.bh MM.bo MM.ya MM.np MM.pa MM.nc MM.cp (fun z => z = u0) (by unfold vc_Md_thrown; rfl)) (nv_cwV (n := 0) hts wd_801 wd_802 wd_803 wd_10 wd_804 (by decide +kernel) ⟨Nat.le_of_ble_eq_true rfl, Nat.le_of_ble_eq_true rfl⟩) hK (nv_Papp.mp hP).1 (va_recv hK hP (ci := 8) (q0 := 0) rfl rfl) rfl hl.1 rfl (Nat.le_of_ble_eq_true rfl) d_law_358 (by show _ ≤ 601024; omega) (by show _ ≤ 7293034; omega)) (fun r9 hr9 => ?_)
  obtain ⟨z9, rfl, hz8⟩ := hr9
  have hz8 : z9 = k := hz8.trans hth
  rw [hz8]
  refine lv_iload hx hb d_law_361 (lv_at hl 1 rfl) ?_
  refine nv_icmp_eq (tgt := 368) hx hb d_law_363 (by decide) rk rk (fun _ => ?_) (fun h9 => absurd rfl h9)
  refine lv_iload hx hb d_law_368 (lv_at hl 1 rfl) ?_
  refine nv_if_ne (tgt := 385) hx hb d_law_370 (by decide) rk (fun _ => ?_) (fun hk0 => ?_)
  · refine lv_goto (tgt := 1338) hx hb d_law_385 (by decide) ?_
    exact kk f1 A1 C1 ((u0, MM.no, MM.ca, MM.ba, MM.nl, MM.xa, u1, MM.da, MM.la, MM.ra, MM.fa, MM.ta, MM.ua, MM.uh, MM.uo, MM.ma, MM.mh, MM.ml, MM.nf, MM.fo, MM.fh, MM.fs, MM.rs, u2, MM.mn, MM.bh, MM.bo, MM.ya, MM.np, MM.pa, MM.nc, MM.cp) : MdC) H ls hA1 hh0 hRl hP hD hS (lv_sub hl [6, 5, 4, 3, 2] rfl)
  · obtain ⟨hz7, rz⟩ := hz9 hk0
    refine lv_aload_n hx hb d_law_373 rfl (lv_at hl 3 rfl) ?_
    refine nv_iconst (n := 0) hx hb d_law_374 ?_
    refine nv_lald (f := f1) hx hb hK 1 (hP 24 _ rfl) rfl 0 rfl (by decide) (by decide) d_law_375 ?_
    rw [hz7]
    refine lv_iload hx hb d_law_376 (lv_at hl 0 rfl) ?_
    refine nv_i2l hx hb d_law_378 rz ?_
    refine nv_lcmp_eq (tgt := 385) hx hb d_law_379 d_law_380 (by decide) ⟨by have := rz.1; omega, by have := rz.2; omega⟩ ⟨by have := rz.1; omega, by have := rz.2; omega⟩ (fun _ => ?_) (fun h9 => absurd rfl h9)
    refine lv_goto (tgt := 1338) hx hb d_law_385 (by decide) ?_
    exact kk f1 A1 C1 ((u0, MM.no, MM.ca, MM.ba, MM.nl, MM.xa, u1, MM.da, MM.la, MM.ra, MM.fa, MM.ta, MM.ua, MM.uh, MM.uo, MM.ma, MM.mh, MM.ml, MM.nf, MM.fo, MM.fh, MM.fs, MM.rs, u2, MM.mn, MM.bh, MM.bo, MM.ya, MM.np, MM.pa, MM.nc, MM.cp) : MdC) H ls hA1 hh0 hRl hP hD hS (lv_sub hl [6, 5, 4, 3, 2] rfl)
def vl_daylight (AA : LdA) (CC : LdC) (MM : MdC) (f : Nat → Int) (x1 x2 x3 : Int) (Rl : LdC → MdC → Prop) : Prop := ∃ Pw1, vw_daylight AA CC f x1 x2 Pw1 ∧ ∀ (k : Int) (f1 : Nat → Int) (C1 : LdC), Pw1 k f1 C1 → r32 k ∧ (∃ Pm3, vc_Md_daylight MM.th MM.no MM.ca MM.ba MM.nl MM.xa MM.sa MM.da MM.la MM.ra MM.fa MM.ta MM.ua MM.uh MM.uo MM.ma MM.mh MM.ml MM.nf MM.fo MM.fh MM.fs MM.rs MM.ic MM.mn MM.bh MM.bo MM.ya MM.np MM.pa MM.nc MM.cp x1 x2 Pm3 ∧ ∀ (z : Int) (u0 : Int) (u1 : Nat → Int) (u2 : Int), Pm3 z u0 u1 u2 → u0 = k ∧ (k = 0 → f1 0 = z ∧ r32 z) ∧ Rl C1 ((u0, MM.no, MM.ca, MM.ba, MM.nl, MM.xa, MM.sa, u1, MM.la, MM.ra, MM.fa, MM.ta, MM.ua, MM.uh, MM.uo, MM.ma, MM.mh, MM.ml, MM.nf, MM.fo, MM.fh, MM.fs, MM.rs, u2, MM.mn, MM.bh, MM.bo, MM.ya, MM.np, MM.pa, MM.nc, MM.cp) : MdC))
set_option maxHeartbeats 4000000 in
set_option maxRecDepth 100000 in
theorem c_daylight {p : Program} {l : Launch} {e : Env} {s : State} {m : MethodId} {below : List Frame} {meth : Method} {c : Code} {Q : State → Prop} {b L : Nat} {xs : Nat → Int32} {D : va_G} {cI cJ cO cZ : ClassId} {qd mi : Nat} (F9 : LwF p l s m meth c b L xs D cI cJ cO cZ qd mi) {o : Nat} {BB : MdA} {f : Nat → Int} {AA : LdA} {CC : LdC} {MM : MdC} {H : Heap} {ls : Array Slot} {i cells slots : Nat} {x1 x2 x3 : Int} (hAA : ldA qd AA CC) (hP : va_P D vwCl (wMdS cI cJ cZ BB MM ++ (cOut cJ o f :: LDW cI cJ cO AA CC)) H) (hD : va_D (fun q => s.heap.size ≤ q) (wMdS cI cJ cZ BB MM ++ (cOut cJ o f :: LDW cI cJ cO AA CC))) (hS : va_S (fun q => s.heap.size ≤ q) s.heap H []) (hl : lv_has ls 7 [(4, .int (iI (i : Int))), (3, .ref o), (2, .ref BB.a0), (1, .ref AA.h0), (0, .ref b)]) (hi : i + 3 < L) (hL : L ≤ 2048) (q1 : xs (i + 1) = iI x1) (q2 : xs (i + 2) = iI x2) (q3 : xs (i + 3) = iI x3) (r1 : r32 x1) (r2 : r32 x2) (r3 : r32 x3) (hc : cells + 12 ≤ 601024) (hsl : slots + 240 ≤ 7293034) (Rl : LdC → MdC → Prop) (v : vl_daylight AA CC MM f x1 x2 x3 Rl)
    (kk : ∀ (f1 : Nat → Int) (A1 : LdA) (C1 : LdC) (M1 : MdC) (H : Heap) (ls : Array Slot), ldA qd A1 C1 → A1.h0 = AA.h0 → Rl C1 M1 → va_P D vwCl (wMdS cI cJ cZ BB M1 ++ (cOut cJ o f1 :: LDW cI cJ cO A1 C1)) H → va_D (fun q => s.heap.size ≤ q) (wMdS cI cJ cZ BB M1 ++ (cOut cJ o f1 :: LDW cI cJ cO A1 C1)) → va_S (fun q => s.heap.size ≤ q) s.heap H [] → lv_has ls 7 [(0, .ref b), (1, .ref AA.h0), (2, .ref BB.a0), (3, .ref o), (4, .int (iI (i : Int)))] → W p l e room_1 s m #[Value.ref b] below meth c H [] (cells + 12) (slots + 240) Q (F0 m 1338 ls [])) :
    W p l e room_1 s m #[Value.ref b] below meth c H [] cells slots Q (F0 m 388 ls []) := by
  obtain ⟨hx, hb, hml, hown, hts, hX, hbl, hK, hZ, hN, hfl⟩ := F9
  unfold vl_daylight at v
  refine lv_aload_n hx hb d_law_388 rfl (lv_at hl 3 rfl) ?_
  refine lv_aload_n hx hb d_law_389 rfl (lv_at hl 4 rfl) ?_
  refine lv_iload hx hb d_law_390 (lv_at hl 0 rfl) ?_
  refine nv_iconst (n := 1) hx hb d_law_392 ?_
  refine nv_iadd (z := (i : Int) + 1) hx hb d_law_393 (by first | rfl | omega) ?_
  refine nv_sld hx hb hX hbl (Nat.not_le.mpr hbl) hS (x := x1) (i + 1) (by omega) (by omega) (by omega) q1 d_law_394 ?_
  refine lv_aload_n hx hb d_law_395 rfl (lv_at hl 4 rfl) ?_
  refine lv_iload hx hb d_law_396 (lv_at hl 0 rfl) ?_
  refine nv_iconst (n := 2) hx hb d_law_398 ?_
  refine nv_iadd (z := (i : Int) + 2) hx hb d_law_399 (by first | rfl | omega) ?_
  refine nv_sld hx hb hX hbl (Nat.not_le.mpr hbl) hS (x := x2) (i + 2) (by omega) (by omega) (by omega) q2 d_law_400 ?_
  refine lv_aload_n hx hb d_law_401 rfl (lv_at hl 1 rfl) ?_
  obtain ⟨Pw1, vw2, v⟩ := v
  have hPs := nv_Pperm hP List.perm_append_comm
  have hDs := nv_Dperm hD List.perm_append_comm
  have hPc := (nv_Papp.mp hPs).1
  have hDc := nv_Dleft hDs
  have hFc := nv_free hDs hS (fun q h => h)
  refine va_calli (nv_runSW (n := 4) (As := [.ref AA.h0, .int (iI x1), .int (iI x2), .ref o]) (rest := []) ⟨hx, hb, hml, hown, hts⟩ (w_daylight l D cI cJ cO cZ qd mi s hZ hfl hN o f AA CC hAA H.size x1 x2 Pw1 vw2) hts wd_537 wd_538 wd_0 wd_539 rfl rfl (by decide +kernel) ⟨Nat.le_of_ble_eq_true rfl, Nat.le_of_ble_eq_true rfl⟩ ⟨blWE, fun U hU hW => ⟨rfl, by rw [hU], by rw [hU]; exact hPc, va_K.moved hW.alike hK, hDc, (Ev.rf s).step (fun _ h => h) hS hU hW⟩⟩ rfl rfl hl.1 rfl (lv_room (Nat.le_of_ble_eq_true rfl)) d_law_402 ⟨by show _ ≤ 601024; omega, by show _ ≤ 7293034; omega⟩) hS (fun q _ h => hFc q h) hFc (fun r u t H1 locs ht hvm hw hB hz1 hk1 hS => ?_)
  obtain ⟨f1, C1⟩ := u
  obtain ⟨A1, hA1, hh0, hP1, hK1, hD1⟩ := hB
  rw [ht] at hP1
  obtain ⟨k, rfl, hw⟩ := hw
  obtain ⟨hP, hD⟩ := nv_join (w1 := (cOut cJ o f1 :: LDW cI cJ cO A1 C1)) hPs hDs hk1 hFc hP1 hD1
  generalize H1 = H at hP hS ⊢
  refine nv_forget hS (fun hS => ?_)
  replace hP := nv_Pperm hP List.perm_append_comm
  replace hD := nv_Dperm hD List.perm_append_comm
  obtain ⟨rk, v⟩ := v k f1 C1 hw
  refine lv_istore (lv' := [(5, .int (iI k)), (4, .int (iI (i : Int))), (3, .ref o), (2, .ref BB.a0), (1, .ref AA.h0), (0, .ref b)]) hx hb d_law_405 hl (by decide) rfl (fun ls hl => ?_)
  refine lv_aload_n hx hb d_law_407 rfl (lv_at hl 3 rfl) ?_
  refine lv_aload_n hx hb d_law_408 rfl (lv_at hl 5 rfl) ?_
  refine lv_iload hx hb d_law_409 (lv_at hl 1 rfl) ?_
  refine nv_iconst (n := 1) hx hb d_law_411 ?_
  refine nv_iadd (z := (i : Int) + 1) hx hb d_law_412 (by first | rfl | omega) ?_
  refine nv_sld hx hb hX hbl (Nat.not_le.mpr hbl) hS (x := x1) (i + 1) (by omega) (by omega) (by omega) q1 d_law_413 ?_
  refine lv_aload_n hx hb d_law_414 rfl (lv_at hl 5 rfl) ?_
  refine lv_iload hx hb d_law_415 (lv_at hl 1 rfl) ?_
  refine nv_iconst (n := 2) hx hb d_law_417 ?_
  refine nv_iadd (z := (i : Int) + 2) hx hb d_law_418 (by first | rfl | omega) ?_
  refine nv_sld hx hb hX hbl (Nat.not_le.mpr hbl) hS (x := x2) (i + 2) (by omega) (by omega) (by omega) q2 d_law_419 ?_
  obtain ⟨Pm3, vm4, v⟩ := v
  have hPc := (nv_Papp.mp hP).1
  have hDc := nv_Dleft hD
  have hFc := nv_free hD hS (fun q h => h)
  refine va_calli (va_runV (As := [.int (iI x1), .int (iI x2)]) (rest := []) ⟨hx, hb, hml, hown, hts⟩ (m_Md_daylight l D cI cJ cO cZ BB.a0 BB.a1 BB.a2 BB.a3 BB.a4 BB.a5 BB.a6 BB.a7 BB.a8 BB.a9 BB.a10 BB.a11 BB.a12 BB.a13 BB.a14 BB.a15 BB.a16 BB.a17 BB.a18 BB.a19 BB.a20 BB.a21 BB.a22 BB.a23 H.size MM.th MM.no MM.ca MM.ba MM.nl MM.xa MM.sa MM.da MM.la MM.ra MM.fa MM.ta MM.ua MM.uh MM.uo MM.ma MM.mh MM.ml MM.nf MM.fo MM.fh MM.fs MM.rs MM.ic MM.mn MM.bh MM.bo MM.ya MM.np MM.pa MM.nc MM.cp x1 x2 Pm3 vm4) (nv_cwV (n := 2) hts wd_844 wd_845 wd_846 wd_10 wd_847 (by decide +kernel) ⟨Nat.le_of_ble_eq_true rfl, Nat.le_of_ble_eq_true rfl⟩) ⟨blW, va_recv hK hPc (ci := 8) (q0 := 0) rfl rfl, fun U hU hW => ⟨rfl, by rw [hU], by rw [hU]; exact hPc, va_K.moved hW.alike hK, hDc.weaken (fun _ _ _ _ => trivial)⟩⟩ rfl rfl hl.1 rfl (lv_room (Nat.le_of_ble_eq_true rfl)) d_law_420 ⟨by show _ ≤ 601024; omega, by show _ ≤ 7293034; omega⟩) hS (fun q _ h => hFc q h) hFc (fun r u t H1 locs ht hvm hw hB hz1 hk1 hS => ?_)
  obtain ⟨u0, u1, u2⟩ := u
  obtain ⟨hP1, hK1, hD1⟩ := hB
  rw [ht] at hP1
  obtain ⟨z, rfl, hw⟩ := hw
  obtain ⟨hP, hD⟩ := nv_join (w1 := wMdS cI cJ cZ BB ((u0, MM.no, MM.ca, MM.ba, MM.nl, MM.xa, MM.sa, u1, MM.la, MM.ra, MM.fa, MM.ta, MM.ua, MM.uh, MM.uo, MM.ma, MM.mh, MM.ml, MM.nf, MM.fo, MM.fh, MM.fs, MM.rs, u2, MM.mn, MM.bh, MM.bo, MM.ya, MM.np, MM.pa, MM.nc, MM.cp) : MdC)) hP hD hk1 hFc hP1 hD1
  generalize H1 = H at hP hS ⊢
  refine nv_forget hS (fun hS => ?_)
  replace v := v z u0 u1 u2 hw
  obtain ⟨hth, hz9, hRl⟩ := v
  refine lv_istore (lv' := [(6, .int (iI z)), (5, .int (iI k)), (4, .int (iI (i : Int))), (3, .ref o), (2, .ref BB.a0), (1, .ref AA.h0), (0, .ref b)]) hx hb d_law_423 hl (by decide) rfl (fun ls hl => ?_)
  refine lv_aload_n hx hb d_law_425 rfl (lv_at hl 4 rfl) ?_
  refine vp_callSi (nv_runV (wc := wMdS cI cJ cZ BB ((u0, MM.no, MM.ca, MM.ba, MM.nl, MM.xa, MM.sa, u1, MM.la, MM.ra, MM.fa, MM.ta, MM.ua, MM.uh, MM.uo, MM.ma, MM.mh, MM.ml, MM.nf, MM.fo, MM.fh, MM.fs, MM.rs, u2, MM.mn, MM.bh, MM.bo, MM.ya, MM.np, MM.pa, MM.nc, MM.cp) : MdC)) (As := []) (rest := []) ⟨hx, hb, hml, hown, hts⟩ (m_Md_thrown l D cI cJ cO cZ BB.a0 BB.a1 BB.a2 BB.a3 BB.a4 BB.a5 BB.a6 BB.a7 BB.a8 BB.a9 BB.a10 BB.a11 BB.a12 BB.a13 BB.a14 BB.a15 BB.a16 BB.a17 BB.a18 BB.a19 BB.a20 BB.a21 BB.a22 BB.a23 u0 MM.no MM.ca MM.ba MM.nl MM.xa MM.sa u1 MM.la MM.ra MM.fa MM.ta MM.ua MM.uh MM.uo MM.ma MM.mh MM.ml MM.nf MM.fo MM.fh MM.fs MM.rs u2 MM.mn MM.bh MM.bo MM.ya MM.np MM.pa MM.nc MM.cp (fun z => z = u0) (by unfold vc_Md_thrown; rfl)) (nv_cwV (n := 0) hts wd_801 wd_802 wd_803 wd_10 wd_804 (by decide +kernel) ⟨Nat.le_of_ble_eq_true rfl, Nat.le_of_ble_eq_true rfl⟩) hK (nv_Papp.mp hP).1 (va_recv hK hP (ci := 8) (q0 := 0) rfl rfl) rfl hl.1 rfl (Nat.le_of_ble_eq_true rfl) d_law_426 (by show _ ≤ 601024; omega) (by show _ ≤ 7293034; omega)) (fun r9 hr9 => ?_)
  obtain ⟨z9, rfl, hz8⟩ := hr9
  have hz8 : z9 = k := hz8.trans hth
  rw [hz8]
  refine lv_iload hx hb d_law_429 (lv_at hl 1 rfl) ?_
  refine nv_icmp_eq (tgt := 436) hx hb d_law_431 (by decide) rk rk (fun _ => ?_) (fun h9 => absurd rfl h9)
  refine lv_iload hx hb d_law_436 (lv_at hl 1 rfl) ?_
  refine nv_if_ne (tgt := 453) hx hb d_law_438 (by decide) rk (fun _ => ?_) (fun hk0 => ?_)
  · refine lv_goto (tgt := 1338) hx hb d_law_453 (by decide) ?_
    exact kk f1 A1 C1 ((u0, MM.no, MM.ca, MM.ba, MM.nl, MM.xa, MM.sa, u1, MM.la, MM.ra, MM.fa, MM.ta, MM.ua, MM.uh, MM.uo, MM.ma, MM.mh, MM.ml, MM.nf, MM.fo, MM.fh, MM.fs, MM.rs, u2, MM.mn, MM.bh, MM.bo, MM.ya, MM.np, MM.pa, MM.nc, MM.cp) : MdC) H ls hA1 hh0 hRl hP hD hS (lv_sub hl [6, 5, 4, 3, 2] rfl)
  · obtain ⟨hz7, rz⟩ := hz9 hk0
    refine lv_aload_n hx hb d_law_441 rfl (lv_at hl 3 rfl) ?_
    refine nv_iconst (n := 0) hx hb d_law_442 ?_
    refine nv_lald (f := f1) hx hb hK 1 (hP 24 _ rfl) rfl 0 rfl (by decide) (by decide) d_law_443 ?_
    rw [hz7]
    refine lv_iload hx hb d_law_444 (lv_at hl 0 rfl) ?_
    refine nv_i2l hx hb d_law_446 rz ?_
    refine nv_lcmp_eq (tgt := 453) hx hb d_law_447 d_law_448 (by decide) ⟨by have := rz.1; omega, by have := rz.2; omega⟩ ⟨by have := rz.1; omega, by have := rz.2; omega⟩ (fun _ => ?_) (fun h9 => absurd rfl h9)
    refine lv_goto (tgt := 1338) hx hb d_law_453 (by decide) ?_
    exact kk f1 A1 C1 ((u0, MM.no, MM.ca, MM.ba, MM.nl, MM.xa, MM.sa, u1, MM.la, MM.ra, MM.fa, MM.ta, MM.ua, MM.uh, MM.uo, MM.ma, MM.mh, MM.ml, MM.nf, MM.fo, MM.fh, MM.fs, MM.rs, u2, MM.mn, MM.bh, MM.bo, MM.ya, MM.np, MM.pa, MM.nc, MM.cp) : MdC) H ls hA1 hh0 hRl hP hD hS (lv_sub hl [6, 5, 4, 3, 2] rfl)
def vl_shown (AA : LdA) (CC : LdC) (MM : MdC) (f : Nat → Int) (x1 x2 x3 : Int) (Rl : LdC → MdC → Prop) : Prop := ∃ Pw1, vw_shown AA CC f x1 x2 x3 Pw1 ∧ ∀ (k : Int) (f1 : Nat → Int) (C1 : LdC), Pw1 k f1 C1 → r32 k ∧ (∃ Pm3, vc_Md_shown MM.th MM.no MM.ca MM.ba MM.nl MM.xa MM.sa MM.da MM.la MM.ra MM.fa MM.ta MM.ua MM.uh MM.uo MM.ma MM.mh MM.ml MM.nf MM.fo MM.fh MM.fs MM.rs MM.ic MM.mn MM.bh MM.bo MM.ya MM.np MM.pa MM.nc MM.cp x1 x2 x3 Pm3 ∧ ∀ (z : Int) (u0 : Int) (u1 : Nat → Int) (u2 : Nat → Int) (u3 : Nat → Int) (u4 : Int), Pm3 z u0 u1 u2 u3 u4 → u0 = k ∧ (k = 0 → f1 0 = z ∧ r32 z) ∧ Rl C1 ((u0, MM.no, MM.ca, MM.ba, MM.nl, MM.xa, MM.sa, MM.da, MM.la, u3, u1, u2, MM.ua, MM.uh, MM.uo, MM.ma, MM.mh, MM.ml, MM.nf, MM.fo, MM.fh, MM.fs, MM.rs, u4, MM.mn, MM.bh, MM.bo, MM.ya, MM.np, MM.pa, MM.nc, MM.cp) : MdC))
set_option maxHeartbeats 4000000 in
set_option maxRecDepth 100000 in
theorem c_shown {p : Program} {l : Launch} {e : Env} {s : State} {m : MethodId} {below : List Frame} {meth : Method} {c : Code} {Q : State → Prop} {b L : Nat} {xs : Nat → Int32} {D : va_G} {cI cJ cO cZ : ClassId} {qd mi : Nat} (F9 : LwF p l s m meth c b L xs D cI cJ cO cZ qd mi) {o : Nat} {BB : MdA} {f : Nat → Int} {AA : LdA} {CC : LdC} {MM : MdC} {H : Heap} {ls : Array Slot} {i cells slots : Nat} {x1 x2 x3 : Int} (hAA : ldA qd AA CC) (hP : va_P D vwCl (wMdS cI cJ cZ BB MM ++ (cOut cJ o f :: LDW cI cJ cO AA CC)) H) (hD : va_D (fun q => s.heap.size ≤ q) (wMdS cI cJ cZ BB MM ++ (cOut cJ o f :: LDW cI cJ cO AA CC))) (hS : va_S (fun q => s.heap.size ≤ q) s.heap H []) (hl : lv_has ls 7 [(4, .int (iI (i : Int))), (3, .ref o), (2, .ref BB.a0), (1, .ref AA.h0), (0, .ref b)]) (hi : i + 3 < L) (hL : L ≤ 2048) (q1 : xs (i + 1) = iI x1) (q2 : xs (i + 2) = iI x2) (q3 : xs (i + 3) = iI x3) (r1 : r32 x1) (r2 : r32 x2) (r3 : r32 x3) (hc : cells + 12 ≤ 601024) (hsl : slots + 240 ≤ 7293034) (Rl : LdC → MdC → Prop) (v : vl_shown AA CC MM f x1 x2 x3 Rl)
    (kk : ∀ (f1 : Nat → Int) (A1 : LdA) (C1 : LdC) (M1 : MdC) (H : Heap) (ls : Array Slot), ldA qd A1 C1 → A1.h0 = AA.h0 → Rl C1 M1 → va_P D vwCl (wMdS cI cJ cZ BB M1 ++ (cOut cJ o f1 :: LDW cI cJ cO A1 C1)) H → va_D (fun q => s.heap.size ≤ q) (wMdS cI cJ cZ BB M1 ++ (cOut cJ o f1 :: LDW cI cJ cO A1 C1)) → va_S (fun q => s.heap.size ≤ q) s.heap H [] → lv_has ls 7 [(0, .ref b), (1, .ref AA.h0), (2, .ref BB.a0), (3, .ref o), (4, .int (iI (i : Int)))] → W p l e room_1 s m #[Value.ref b] below meth c H [] (cells + 12) (slots + 240) Q (F0 m 1338 ls [])) :
    W p l e room_1 s m #[Value.ref b] below meth c H [] cells slots Q (F0 m 456 ls []) := by
  obtain ⟨hx, hb, hml, hown, hts, hX, hbl, hK, hZ, hN, hfl⟩ := F9
  unfold vl_shown at v
  refine lv_aload_n hx hb d_law_456 rfl (lv_at hl 3 rfl) ?_
  refine lv_aload_n hx hb d_law_457 rfl (lv_at hl 4 rfl) ?_
  refine lv_iload hx hb d_law_458 (lv_at hl 0 rfl) ?_
  refine nv_iconst (n := 1) hx hb d_law_460 ?_
  refine nv_iadd (z := (i : Int) + 1) hx hb d_law_461 (by first | rfl | omega) ?_
  refine nv_sld hx hb hX hbl (Nat.not_le.mpr hbl) hS (x := x1) (i + 1) (by omega) (by omega) (by omega) q1 d_law_462 ?_
  refine lv_aload_n hx hb d_law_463 rfl (lv_at hl 4 rfl) ?_
  refine lv_iload hx hb d_law_464 (lv_at hl 0 rfl) ?_
  refine nv_iconst (n := 2) hx hb d_law_466 ?_
  refine nv_iadd (z := (i : Int) + 2) hx hb d_law_467 (by first | rfl | omega) ?_
  refine nv_sld hx hb hX hbl (Nat.not_le.mpr hbl) hS (x := x2) (i + 2) (by omega) (by omega) (by omega) q2 d_law_468 ?_
  refine lv_aload_n hx hb d_law_469 rfl (lv_at hl 4 rfl) ?_
  refine lv_iload hx hb d_law_470 (lv_at hl 0 rfl) ?_
  refine nv_iconst (n := 3) hx hb d_law_472 ?_
  refine nv_iadd (z := (i : Int) + 3) hx hb d_law_473 (by first | rfl | omega) ?_
  refine nv_sld hx hb hX hbl (Nat.not_le.mpr hbl) hS (x := x3) (i + 3) (by omega) (by omega) (by omega) q3 d_law_474 ?_
  refine lv_aload_n hx hb d_law_475 rfl (lv_at hl 1 rfl) ?_
  obtain ⟨Pw1, vw2, v⟩ := v
  have hPs := nv_Pperm hP List.perm_append_comm
  have hDs := nv_Dperm hD List.perm_append_comm
  have hPc := (nv_Papp.mp hPs).1
  have hDc := nv_Dleft hDs
  have hFc := nv_free hDs hS (fun q h => h)
  refine va_calli (nv_runSW (n := 5) (As := [.ref AA.h0, .int (iI x1), .int (iI x2), .int (iI x3), .ref o]) (rest := []) ⟨hx, hb, hml, hown, hts⟩ (w_shown l D cI cJ cO cZ qd mi s hZ hfl hN o f AA CC hAA H.size x1 x2 x3 Pw1 vw2) hts wd_548 wd_549 wd_0 wd_550 rfl rfl (by decide +kernel) ⟨Nat.le_of_ble_eq_true rfl, Nat.le_of_ble_eq_true rfl⟩ ⟨blWE, fun U hU hW => ⟨rfl, by rw [hU], by rw [hU]; exact hPc, va_K.moved hW.alike hK, hDc, (Ev.rf s).step (fun _ h => h) hS hU hW⟩⟩ rfl rfl hl.1 rfl (lv_room (Nat.le_of_ble_eq_true rfl)) d_law_476 ⟨by show _ ≤ 601024; omega, by show _ ≤ 7293034; omega⟩) hS (fun q _ h => hFc q h) hFc (fun r u t H1 locs ht hvm hw hB hz1 hk1 hS => ?_)
  obtain ⟨f1, C1⟩ := u
  obtain ⟨A1, hA1, hh0, hP1, hK1, hD1⟩ := hB
  rw [ht] at hP1
  obtain ⟨k, rfl, hw⟩ := hw
  obtain ⟨hP, hD⟩ := nv_join (w1 := (cOut cJ o f1 :: LDW cI cJ cO A1 C1)) hPs hDs hk1 hFc hP1 hD1
  generalize H1 = H at hP hS ⊢
  refine nv_forget hS (fun hS => ?_)
  replace hP := nv_Pperm hP List.perm_append_comm
  replace hD := nv_Dperm hD List.perm_append_comm
  obtain ⟨rk, v⟩ := v k f1 C1 hw
  refine lv_istore (lv' := [(5, .int (iI k)), (4, .int (iI (i : Int))), (3, .ref o), (2, .ref BB.a0), (1, .ref AA.h0), (0, .ref b)]) hx hb d_law_479 hl (by decide) rfl (fun ls hl => ?_)
  refine lv_aload_n hx hb d_law_481 rfl (lv_at hl 3 rfl) ?_
  refine lv_aload_n hx hb d_law_482 rfl (lv_at hl 5 rfl) ?_
  refine lv_iload hx hb d_law_483 (lv_at hl 1 rfl) ?_
  refine nv_iconst (n := 1) hx hb d_law_485 ?_
  refine nv_iadd (z := (i : Int) + 1) hx hb d_law_486 (by first | rfl | omega) ?_
  refine nv_sld hx hb hX hbl (Nat.not_le.mpr hbl) hS (x := x1) (i + 1) (by omega) (by omega) (by omega) q1 d_law_487 ?_
  refine lv_aload_n hx hb d_law_488 rfl (lv_at hl 5 rfl) ?_
  refine lv_iload hx hb d_law_489 (lv_at hl 1 rfl) ?_
  refine nv_iconst (n := 2) hx hb d_law_491 ?_
  refine nv_iadd (z := (i : Int) + 2) hx hb d_law_492 (by first | rfl | omega) ?_
  refine nv_sld hx hb hX hbl (Nat.not_le.mpr hbl) hS (x := x2) (i + 2) (by omega) (by omega) (by omega) q2 d_law_493 ?_
  refine lv_aload_n hx hb d_law_494 rfl (lv_at hl 5 rfl) ?_
  refine lv_iload hx hb d_law_495 (lv_at hl 1 rfl) ?_
  refine nv_iconst (n := 3) hx hb d_law_497 ?_
  refine nv_iadd (z := (i : Int) + 3) hx hb d_law_498 (by first | rfl | omega) ?_
  refine nv_sld hx hb hX hbl (Nat.not_le.mpr hbl) hS (x := x3) (i + 3) (by omega) (by omega) (by omega) q3 d_law_499 ?_
  obtain ⟨Pm3, vm4, v⟩ := v
  have hPc := (nv_Papp.mp hP).1
  have hDc := nv_Dleft hD
  have hFc := nv_free hD hS (fun q h => h)
  refine va_calli (va_runV (As := [.int (iI x1), .int (iI x2), .int (iI x3)]) (rest := []) ⟨hx, hb, hml, hown, hts⟩ (m_Md_shown l D cI cJ cO cZ BB.a0 BB.a1 BB.a2 BB.a3 BB.a4 BB.a5 BB.a6 BB.a7 BB.a8 BB.a9 BB.a10 BB.a11 BB.a12 BB.a13 BB.a14 BB.a15 BB.a16 BB.a17 BB.a18 BB.a19 BB.a20 BB.a21 BB.a22 BB.a23 H.size MM.th MM.no MM.ca MM.ba MM.nl MM.xa MM.sa MM.da MM.la MM.ra MM.fa MM.ta MM.ua MM.uh MM.uo MM.ma MM.mh MM.ml MM.nf MM.fo MM.fh MM.fs MM.rs MM.ic MM.mn MM.bh MM.bo MM.ya MM.np MM.pa MM.nc MM.cp x1 x2 x3 Pm3 vm4) (nv_cwV (n := 3) hts wd_848 wd_849 wd_850 wd_10 wd_851 (by decide +kernel) ⟨Nat.le_of_ble_eq_true rfl, Nat.le_of_ble_eq_true rfl⟩) ⟨blW, va_recv hK hPc (ci := 8) (q0 := 0) rfl rfl, fun U hU hW => ⟨rfl, by rw [hU], by rw [hU]; exact hPc, va_K.moved hW.alike hK, hDc.weaken (fun _ _ _ _ => trivial)⟩⟩ rfl rfl hl.1 rfl (lv_room (Nat.le_of_ble_eq_true rfl)) d_law_500 ⟨by show _ ≤ 601024; omega, by show _ ≤ 7293034; omega⟩) hS (fun q _ h => hFc q h) hFc (fun r u t H1 locs ht hvm hw hB hz1 hk1 hS => ?_)
  obtain ⟨u0, u1, u2, u3, u4⟩ := u
  obtain ⟨hP1, hK1, hD1⟩ := hB
  rw [ht] at hP1
  obtain ⟨z, rfl, hw⟩ := hw
  obtain ⟨hP, hD⟩ := nv_join (w1 := wMdS cI cJ cZ BB ((u0, MM.no, MM.ca, MM.ba, MM.nl, MM.xa, MM.sa, MM.da, MM.la, u3, u1, u2, MM.ua, MM.uh, MM.uo, MM.ma, MM.mh, MM.ml, MM.nf, MM.fo, MM.fh, MM.fs, MM.rs, u4, MM.mn, MM.bh, MM.bo, MM.ya, MM.np, MM.pa, MM.nc, MM.cp) : MdC)) hP hD hk1 hFc hP1 hD1
  generalize H1 = H at hP hS ⊢
  refine nv_forget hS (fun hS => ?_)
  replace v := v z u0 u1 u2 u3 u4 hw
  obtain ⟨hth, hz9, hRl⟩ := v
  refine lv_istore (lv' := [(6, .int (iI z)), (5, .int (iI k)), (4, .int (iI (i : Int))), (3, .ref o), (2, .ref BB.a0), (1, .ref AA.h0), (0, .ref b)]) hx hb d_law_503 hl (by decide) rfl (fun ls hl => ?_)
  refine lv_aload_n hx hb d_law_505 rfl (lv_at hl 4 rfl) ?_
  refine vp_callSi (nv_runV (wc := wMdS cI cJ cZ BB ((u0, MM.no, MM.ca, MM.ba, MM.nl, MM.xa, MM.sa, MM.da, MM.la, u3, u1, u2, MM.ua, MM.uh, MM.uo, MM.ma, MM.mh, MM.ml, MM.nf, MM.fo, MM.fh, MM.fs, MM.rs, u4, MM.mn, MM.bh, MM.bo, MM.ya, MM.np, MM.pa, MM.nc, MM.cp) : MdC)) (As := []) (rest := []) ⟨hx, hb, hml, hown, hts⟩ (m_Md_thrown l D cI cJ cO cZ BB.a0 BB.a1 BB.a2 BB.a3 BB.a4 BB.a5 BB.a6 BB.a7 BB.a8 BB.a9 BB.a10 BB.a11 BB.a12 BB.a13 BB.a14 BB.a15 BB.a16 BB.a17 BB.a18 BB.a19 BB.a20 BB.a21 BB.a22 BB.a23 u0 MM.no MM.ca MM.ba MM.nl MM.xa MM.sa MM.da MM.la u3 u1 u2 MM.ua MM.uh MM.uo MM.ma MM.mh MM.ml MM.nf MM.fo MM.fh MM.fs MM.rs u4 MM.mn MM.bh MM.bo MM.ya MM.np MM.pa MM.nc MM.cp (fun z => z = u0) (by unfold vc_Md_thrown; rfl)) (nv_cwV (n := 0) hts wd_801 wd_802 wd_803 wd_10 wd_804 (by decide +kernel) ⟨Nat.le_of_ble_eq_true rfl, Nat.le_of_ble_eq_true rfl⟩) hK (nv_Papp.mp hP).1 (va_recv hK hP (ci := 8) (q0 := 0) rfl rfl) rfl hl.1 rfl (Nat.le_of_ble_eq_true rfl) d_law_506 (by show _ ≤ 601024; omega) (by show _ ≤ 7293034; omega)) (fun r9 hr9 => ?_)
  obtain ⟨z9, rfl, hz8⟩ := hr9
  have hz8 : z9 = k := hz8.trans hth
  rw [hz8]
  refine lv_iload hx hb d_law_509 (lv_at hl 1 rfl) ?_
  refine nv_icmp_eq (tgt := 516) hx hb d_law_511 (by decide) rk rk (fun _ => ?_) (fun h9 => absurd rfl h9)
  refine lv_iload hx hb d_law_516 (lv_at hl 1 rfl) ?_
  refine nv_if_ne (tgt := 533) hx hb d_law_518 (by decide) rk (fun _ => ?_) (fun hk0 => ?_)
  · refine lv_goto (tgt := 1338) hx hb d_law_533 (by decide) ?_
    exact kk f1 A1 C1 ((u0, MM.no, MM.ca, MM.ba, MM.nl, MM.xa, MM.sa, MM.da, MM.la, u3, u1, u2, MM.ua, MM.uh, MM.uo, MM.ma, MM.mh, MM.ml, MM.nf, MM.fo, MM.fh, MM.fs, MM.rs, u4, MM.mn, MM.bh, MM.bo, MM.ya, MM.np, MM.pa, MM.nc, MM.cp) : MdC) H ls hA1 hh0 hRl hP hD hS (lv_sub hl [6, 5, 4, 3, 2] rfl)
  · obtain ⟨hz7, rz⟩ := hz9 hk0
    refine lv_aload_n hx hb d_law_521 rfl (lv_at hl 3 rfl) ?_
    refine nv_iconst (n := 0) hx hb d_law_522 ?_
    refine nv_lald (f := f1) hx hb hK 1 (hP 24 _ rfl) rfl 0 rfl (by decide) (by decide) d_law_523 ?_
    rw [hz7]
    refine lv_iload hx hb d_law_524 (lv_at hl 0 rfl) ?_
    refine nv_i2l hx hb d_law_526 rz ?_
    refine nv_lcmp_eq (tgt := 533) hx hb d_law_527 d_law_528 (by decide) ⟨by have := rz.1; omega, by have := rz.2; omega⟩ ⟨by have := rz.1; omega, by have := rz.2; omega⟩ (fun _ => ?_) (fun h9 => absurd rfl h9)
    refine lv_goto (tgt := 1338) hx hb d_law_533 (by decide) ?_
    exact kk f1 A1 C1 ((u0, MM.no, MM.ca, MM.ba, MM.nl, MM.xa, MM.sa, MM.da, MM.la, u3, u1, u2, MM.ua, MM.uh, MM.uo, MM.ma, MM.mh, MM.ml, MM.nf, MM.fo, MM.fh, MM.fs, MM.rs, u4, MM.mn, MM.bh, MM.bo, MM.ya, MM.np, MM.pa, MM.nc, MM.cp) : MdC) H ls hA1 hh0 hRl hP hD hS (lv_sub hl [6, 5, 4, 3, 2] rfl)
def vl_presence (AA : LdA) (CC : LdC) (MM : MdC) (f : Nat → Int) (x1 x2 x3 : Int) (Rl : LdC → MdC → Prop) : Prop := (x3 = 0 → ∃ Pw2, vw_presence AA CC f x1 x2 0 Pw2 ∧ ∀ (k : Int) (f1 : Nat → Int) (C1 : LdC), Pw2 k f1 C1 → r32 k ∧ ((x3 = 0 → ∃ Pm5, vc_Md_presence MM.th MM.no MM.ca MM.ba MM.nl MM.xa MM.sa MM.da MM.la MM.ra MM.fa MM.ta MM.ua MM.uh MM.uo MM.ma MM.mh MM.ml MM.nf MM.fo MM.fh MM.fs MM.rs MM.ic MM.mn MM.bh MM.bo MM.ya MM.np MM.pa MM.nc MM.cp x1 x2 0 Pm5 ∧ ∀ (z : Int) (u0 : Int) (u1 : Nat → Int) (u2 : Nat → Int) (u3 : Nat → Int) (u4 : Nat → Int) (u5 : Int), Pm5 z u0 u1 u2 u3 u4 u5 → u0 = k ∧ (k = 0 → f1 0 = z ∧ r32 z) ∧ Rl C1 ((u0, MM.no, MM.ca, MM.ba, MM.nl, MM.xa, MM.sa, MM.da, u4, MM.ra, MM.fa, MM.ta, u3, u1, u2, MM.ma, MM.mh, MM.ml, MM.nf, MM.fo, MM.fh, MM.fs, MM.rs, u5, MM.mn, MM.bh, MM.bo, MM.ya, MM.np, MM.pa, MM.nc, MM.cp) : MdC)) ∧ (¬ x3 = 0 → ∃ Pm7, vc_Md_presence MM.th MM.no MM.ca MM.ba MM.nl MM.xa MM.sa MM.da MM.la MM.ra MM.fa MM.ta MM.ua MM.uh MM.uo MM.ma MM.mh MM.ml MM.nf MM.fo MM.fh MM.fs MM.rs MM.ic MM.mn MM.bh MM.bo MM.ya MM.np MM.pa MM.nc MM.cp x1 x2 1 Pm7 ∧ ∀ (z : Int) (u0 : Int) (u1 : Nat → Int) (u2 : Nat → Int) (u3 : Nat → Int) (u4 : Nat → Int) (u5 : Int), Pm7 z u0 u1 u2 u3 u4 u5 → u0 = k ∧ (k = 0 → f1 0 = z ∧ r32 z) ∧ Rl C1 ((u0, MM.no, MM.ca, MM.ba, MM.nl, MM.xa, MM.sa, MM.da, u4, MM.ra, MM.fa, MM.ta, u3, u1, u2, MM.ma, MM.mh, MM.ml, MM.nf, MM.fo, MM.fh, MM.fs, MM.rs, u5, MM.mn, MM.bh, MM.bo, MM.ya, MM.np, MM.pa, MM.nc, MM.cp) : MdC)))) ∧ (¬ x3 = 0 → ∃ Pw9, vw_presence AA CC f x1 x2 1 Pw9 ∧ ∀ (k : Int) (f1 : Nat → Int) (C1 : LdC), Pw9 k f1 C1 → r32 k ∧ ((x3 = 0 → ∃ Pm12, vc_Md_presence MM.th MM.no MM.ca MM.ba MM.nl MM.xa MM.sa MM.da MM.la MM.ra MM.fa MM.ta MM.ua MM.uh MM.uo MM.ma MM.mh MM.ml MM.nf MM.fo MM.fh MM.fs MM.rs MM.ic MM.mn MM.bh MM.bo MM.ya MM.np MM.pa MM.nc MM.cp x1 x2 0 Pm12 ∧ ∀ (z : Int) (u0 : Int) (u1 : Nat → Int) (u2 : Nat → Int) (u3 : Nat → Int) (u4 : Nat → Int) (u5 : Int), Pm12 z u0 u1 u2 u3 u4 u5 → u0 = k ∧ (k = 0 → f1 0 = z ∧ r32 z) ∧ Rl C1 ((u0, MM.no, MM.ca, MM.ba, MM.nl, MM.xa, MM.sa, MM.da, u4, MM.ra, MM.fa, MM.ta, u3, u1, u2, MM.ma, MM.mh, MM.ml, MM.nf, MM.fo, MM.fh, MM.fs, MM.rs, u5, MM.mn, MM.bh, MM.bo, MM.ya, MM.np, MM.pa, MM.nc, MM.cp) : MdC)) ∧ (¬ x3 = 0 → ∃ Pm14, vc_Md_presence MM.th MM.no MM.ca MM.ba MM.nl MM.xa MM.sa MM.da MM.la MM.ra MM.fa MM.ta MM.ua MM.uh MM.uo MM.ma MM.mh MM.ml MM.nf MM.fo MM.fh MM.fs MM.rs MM.ic MM.mn MM.bh MM.bo MM.ya MM.np MM.pa MM.nc MM.cp x1 x2 1 Pm14 ∧ ∀ (z : Int) (u0 : Int) (u1 : Nat → Int) (u2 : Nat → Int) (u3 : Nat → Int) (u4 : Nat → Int) (u5 : Int), Pm14 z u0 u1 u2 u3 u4 u5 → u0 = k ∧ (k = 0 → f1 0 = z ∧ r32 z) ∧ Rl C1 ((u0, MM.no, MM.ca, MM.ba, MM.nl, MM.xa, MM.sa, MM.da, u4, MM.ra, MM.fa, MM.ta, u3, u1, u2, MM.ma, MM.mh, MM.ml, MM.nf, MM.fo, MM.fh, MM.fs, MM.rs, u5, MM.mn, MM.bh, MM.bo, MM.ya, MM.np, MM.pa, MM.nc, MM.cp) : MdC))))
set_option maxHeartbeats 4000000 in
set_option maxRecDepth 100000 in
theorem c_presence {p : Program} {l : Launch} {e : Env} {s : State} {m : MethodId} {below : List Frame} {meth : Method} {c : Code} {Q : State → Prop} {b L : Nat} {xs : Nat → Int32} {D : va_G} {cI cJ cO cZ : ClassId} {qd mi : Nat} (F9 : LwF p l s m meth c b L xs D cI cJ cO cZ qd mi) {o : Nat} {BB : MdA} {f : Nat → Int} {AA : LdA} {CC : LdC} {MM : MdC} {H : Heap} {ls : Array Slot} {i cells slots : Nat} {x1 x2 x3 : Int} (hAA : ldA qd AA CC) (hP : va_P D vwCl (wMdS cI cJ cZ BB MM ++ (cOut cJ o f :: LDW cI cJ cO AA CC)) H) (hD : va_D (fun q => s.heap.size ≤ q) (wMdS cI cJ cZ BB MM ++ (cOut cJ o f :: LDW cI cJ cO AA CC))) (hS : va_S (fun q => s.heap.size ≤ q) s.heap H []) (hl : lv_has ls 7 [(4, .int (iI (i : Int))), (3, .ref o), (2, .ref BB.a0), (1, .ref AA.h0), (0, .ref b)]) (hi : i + 3 < L) (hL : L ≤ 2048) (q1 : xs (i + 1) = iI x1) (q2 : xs (i + 2) = iI x2) (q3 : xs (i + 3) = iI x3) (r1 : r32 x1) (r2 : r32 x2) (r3 : r32 x3) (hc : cells + 12 ≤ 601024) (hsl : slots + 240 ≤ 7293034) (Rl : LdC → MdC → Prop) (v : vl_presence AA CC MM f x1 x2 x3 Rl)
    (kk : ∀ (f1 : Nat → Int) (A1 : LdA) (C1 : LdC) (M1 : MdC) (H : Heap) (ls : Array Slot), ldA qd A1 C1 → A1.h0 = AA.h0 → Rl C1 M1 → va_P D vwCl (wMdS cI cJ cZ BB M1 ++ (cOut cJ o f1 :: LDW cI cJ cO A1 C1)) H → va_D (fun q => s.heap.size ≤ q) (wMdS cI cJ cZ BB M1 ++ (cOut cJ o f1 :: LDW cI cJ cO A1 C1)) → va_S (fun q => s.heap.size ≤ q) s.heap H [] → lv_has ls 7 [(0, .ref b), (1, .ref AA.h0), (2, .ref BB.a0), (3, .ref o), (4, .int (iI (i : Int)))] → W p l e room_1 s m #[Value.ref b] below meth c H [] (cells + 12) (slots + 240) Q (F0 m 1338 ls [])) :
    W p l e room_1 s m #[Value.ref b] below meth c H [] cells slots Q (F0 m 536 ls []) := by
  obtain ⟨hx, hb, hml, hown, hts, hX, hbl, hK, hZ, hN, hfl⟩ := F9
  unfold vl_presence at v
  refine lv_aload_n hx hb d_law_536 rfl (lv_at hl 3 rfl) ?_
  refine lv_aload_n hx hb d_law_537 rfl (lv_at hl 4 rfl) ?_
  refine lv_iload hx hb d_law_538 (lv_at hl 0 rfl) ?_
  refine nv_iconst (n := 1) hx hb d_law_540 ?_
  refine nv_iadd (z := (i : Int) + 1) hx hb d_law_541 (by first | rfl | omega) ?_
  refine nv_sld hx hb hX hbl (Nat.not_le.mpr hbl) hS (x := x1) (i + 1) (by omega) (by omega) (by omega) q1 d_law_542 ?_
  refine lv_aload_n hx hb d_law_543 rfl (lv_at hl 4 rfl) ?_
  refine lv_iload hx hb d_law_544 (lv_at hl 0 rfl) ?_
  refine nv_iconst (n := 2) hx hb d_law_546 ?_
  refine nv_iadd (z := (i : Int) + 2) hx hb d_law_547 (by first | rfl | omega) ?_
  refine nv_sld hx hb hX hbl (Nat.not_le.mpr hbl) hS (x := x2) (i + 2) (by omega) (by omega) (by omega) q2 d_law_548 ?_
  refine lv_aload_n hx hb d_law_549 rfl (lv_at hl 4 rfl) ?_
  refine lv_iload hx hb d_law_550 (lv_at hl 0 rfl) ?_
  refine nv_iconst (n := 3) hx hb d_law_552 ?_
  refine nv_iadd (z := (i : Int) + 3) hx hb d_law_553 (by first | rfl | omega) ?_
  refine nv_sld hx hb hX hbl (Nat.not_le.mpr hbl) hS (x := x3) (i + 3) (by omega) (by omega) (by omega) q3 d_law_554 ?_
  refine nv_if_eq (tgt := 562) hx hb d_law_555 (by decide) r3 (fun c1 => ?_) (fun c1 => ?_)
  · replace v := v.1 c1
    refine nv_iconst (n := 0) hx hb d_law_562 ?_
    refine lv_aload_n hx hb d_law_563 rfl (lv_at hl 1 rfl) ?_
    obtain ⟨Pw2, vw3, v⟩ := v
    have hPs := nv_Pperm hP List.perm_append_comm
    have hDs := nv_Dperm hD List.perm_append_comm
    have hPc := (nv_Papp.mp hPs).1
    have hDc := nv_Dleft hDs
    have hFc := nv_free hDs hS (fun q h => h)
    refine va_calli (nv_runSW (n := 5) (As := [.ref AA.h0, .int (iI x1), .int (iI x2), .int (iI 0), .ref o]) (rest := []) ⟨hx, hb, hml, hown, hts⟩ (w_presence l D cI cJ cO cZ qd mi s hZ hfl hN o f AA CC hAA H.size x1 x2 0 Pw2 vw3) hts wd_564 wd_565 wd_0 wd_566 rfl rfl (by decide +kernel) ⟨Nat.le_of_ble_eq_true rfl, Nat.le_of_ble_eq_true rfl⟩ ⟨blWE, fun U hU hW => ⟨rfl, by rw [hU], by rw [hU]; exact hPc, va_K.moved hW.alike hK, hDc, (Ev.rf s).step (fun _ h => h) hS hU hW⟩⟩ rfl rfl hl.1 rfl (lv_room (Nat.le_of_ble_eq_true rfl)) d_law_564 ⟨by show _ ≤ 601024; omega, by show _ ≤ 7293034; omega⟩) hS (fun q _ h => hFc q h) hFc (fun r u t H1 locs ht hvm hw hB hz1 hk1 hS => ?_)
    obtain ⟨f1, C1⟩ := u
    obtain ⟨A1, hA1, hh0, hP1, hK1, hD1⟩ := hB
    rw [ht] at hP1
    obtain ⟨k, rfl, hw⟩ := hw
    obtain ⟨hP, hD⟩ := nv_join (w1 := (cOut cJ o f1 :: LDW cI cJ cO A1 C1)) hPs hDs hk1 hFc hP1 hD1
    generalize H1 = H at hP hS ⊢
    refine nv_forget hS (fun hS => ?_)
    replace hP := nv_Pperm hP List.perm_append_comm
    replace hD := nv_Dperm hD List.perm_append_comm
    obtain ⟨rk, v⟩ := v k f1 C1 hw
    refine lv_istore (lv' := [(5, .int (iI k)), (4, .int (iI (i : Int))), (3, .ref o), (2, .ref BB.a0), (1, .ref AA.h0), (0, .ref b)]) hx hb d_law_567 hl (by decide) rfl (fun ls hl => ?_)
    refine lv_aload_n hx hb d_law_569 rfl (lv_at hl 3 rfl) ?_
    refine lv_aload_n hx hb d_law_570 rfl (lv_at hl 5 rfl) ?_
    refine lv_iload hx hb d_law_571 (lv_at hl 1 rfl) ?_
    refine nv_iconst (n := 1) hx hb d_law_573 ?_
    refine nv_iadd (z := (i : Int) + 1) hx hb d_law_574 (by first | rfl | omega) ?_
    refine nv_sld hx hb hX hbl (Nat.not_le.mpr hbl) hS (x := x1) (i + 1) (by omega) (by omega) (by omega) q1 d_law_575 ?_
    refine lv_aload_n hx hb d_law_576 rfl (lv_at hl 5 rfl) ?_
    refine lv_iload hx hb d_law_577 (lv_at hl 1 rfl) ?_
    refine nv_iconst (n := 2) hx hb d_law_579 ?_
    refine nv_iadd (z := (i : Int) + 2) hx hb d_law_580 (by first | rfl | omega) ?_
    refine nv_sld hx hb hX hbl (Nat.not_le.mpr hbl) hS (x := x2) (i + 2) (by omega) (by omega) (by omega) q2 d_law_581 ?_
    refine lv_aload_n hx hb d_law_582 rfl (lv_at hl 5 rfl) ?_
    refine lv_iload hx hb d_law_583 (lv_at hl 1 rfl) ?_
    refine nv_iconst (n := 3) hx hb d_law_585 ?_
    refine nv_iadd (z := (i : Int) + 3) hx hb d_law_586 (by first | rfl | omega) ?_
    refine nv_sld hx hb hX hbl (Nat.not_le.mpr hbl) hS (x := x3) (i + 3) (by omega) (by omega) (by omega) q3 d_law_587 ?_
    refine nv_if_eq (tgt := 595) hx hb d_law_588 (by decide) r3 (fun c4 => ?_) (fun c4 => ?_)
    · replace v := v.1 c4
      refine nv_iconst (n := 0) hx hb d_law_595 ?_
      obtain ⟨Pm5, vm6, v⟩ := v
      have hPc := (nv_Papp.mp hP).1
      have hDc := nv_Dleft hD
      have hFc := nv_free hD hS (fun q h => h)
      refine va_calli (va_runV (As := [.int (iI x1), .int (iI x2), .int (iI 0)]) (rest := []) ⟨hx, hb, hml, hown, hts⟩ (m_Md_presence l D cI cJ cO cZ BB.a0 BB.a1 BB.a2 BB.a3 BB.a4 BB.a5 BB.a6 BB.a7 BB.a8 BB.a9 BB.a10 BB.a11 BB.a12 BB.a13 BB.a14 BB.a15 BB.a16 BB.a17 BB.a18 BB.a19 BB.a20 BB.a21 BB.a22 BB.a23 H.size MM.th MM.no MM.ca MM.ba MM.nl MM.xa MM.sa MM.da MM.la MM.ra MM.fa MM.ta MM.ua MM.uh MM.uo MM.ma MM.mh MM.ml MM.nf MM.fo MM.fh MM.fs MM.rs MM.ic MM.mn MM.bh MM.bo MM.ya MM.np MM.pa MM.nc MM.cp x1 x2 0 Pm5 vm6) (nv_cwV (n := 3) hts wd_855 wd_856 wd_857 wd_10 wd_858 (by decide +kernel) ⟨Nat.le_of_ble_eq_true rfl, Nat.le_of_ble_eq_true rfl⟩) ⟨blW, va_recv hK hPc (ci := 8) (q0 := 0) rfl rfl, fun U hU hW => ⟨rfl, by rw [hU], by rw [hU]; exact hPc, va_K.moved hW.alike hK, hDc.weaken (fun _ _ _ _ => trivial)⟩⟩ rfl rfl hl.1 rfl (lv_room (Nat.le_of_ble_eq_true rfl)) d_law_596 ⟨by show _ ≤ 601024; omega, by show _ ≤ 7293034; omega⟩) hS (fun q _ h => hFc q h) hFc (fun r u t H1 locs ht hvm hw hB hz1 hk1 hS => ?_)
      obtain ⟨u0, u1, u2, u3, u4, u5⟩ := u
      obtain ⟨hP1, hK1, hD1⟩ := hB
      rw [ht] at hP1
      obtain ⟨z, rfl, hw⟩ := hw
      obtain ⟨hP, hD⟩ := nv_join (w1 := wMdS cI cJ cZ BB ((u0, MM.no, MM.ca, MM.ba, MM.nl, MM.xa, MM.sa, MM.da, u4, MM.ra, MM.fa, MM.ta, u3, u1, u2, MM.ma, MM.mh, MM.ml, MM.nf, MM.fo, MM.fh, MM.fs, MM.rs, u5, MM.mn, MM.bh, MM.bo, MM.ya, MM.np, MM.pa, MM.nc, MM.cp) : MdC)) hP hD hk1 hFc hP1 hD1
      generalize H1 = H at hP hS ⊢
      refine nv_forget hS (fun hS => ?_)
      replace v := v z u0 u1 u2 u3 u4 u5 hw
      obtain ⟨hth, hz9, hRl⟩ := v
      refine lv_istore (lv' := [(6, .int (iI z)), (5, .int (iI k)), (4, .int (iI (i : Int))), (3, .ref o), (2, .ref BB.a0), (1, .ref AA.h0), (0, .ref b)]) hx hb d_law_599 hl (by decide) rfl (fun ls hl => ?_)
      refine lv_aload_n hx hb d_law_601 rfl (lv_at hl 4 rfl) ?_
      refine vp_callSi (nv_runV (wc := wMdS cI cJ cZ BB ((u0, MM.no, MM.ca, MM.ba, MM.nl, MM.xa, MM.sa, MM.da, u4, MM.ra, MM.fa, MM.ta, u3, u1, u2, MM.ma, MM.mh, MM.ml, MM.nf, MM.fo, MM.fh, MM.fs, MM.rs, u5, MM.mn, MM.bh, MM.bo, MM.ya, MM.np, MM.pa, MM.nc, MM.cp) : MdC)) (As := []) (rest := []) ⟨hx, hb, hml, hown, hts⟩ (m_Md_thrown l D cI cJ cO cZ BB.a0 BB.a1 BB.a2 BB.a3 BB.a4 BB.a5 BB.a6 BB.a7 BB.a8 BB.a9 BB.a10 BB.a11 BB.a12 BB.a13 BB.a14 BB.a15 BB.a16 BB.a17 BB.a18 BB.a19 BB.a20 BB.a21 BB.a22 BB.a23 u0 MM.no MM.ca MM.ba MM.nl MM.xa MM.sa MM.da u4 MM.ra MM.fa MM.ta u3 u1 u2 MM.ma MM.mh MM.ml MM.nf MM.fo MM.fh MM.fs MM.rs u5 MM.mn MM.bh MM.bo MM.ya MM.np MM.pa MM.nc MM.cp (fun z => z = u0) (by unfold vc_Md_thrown; rfl)) (nv_cwV (n := 0) hts wd_801 wd_802 wd_803 wd_10 wd_804 (by decide +kernel) ⟨Nat.le_of_ble_eq_true rfl, Nat.le_of_ble_eq_true rfl⟩) hK (nv_Papp.mp hP).1 (va_recv hK hP (ci := 8) (q0 := 0) rfl rfl) rfl hl.1 rfl (Nat.le_of_ble_eq_true rfl) d_law_602 (by show _ ≤ 601024; omega) (by show _ ≤ 7293034; omega)) (fun r9 hr9 => ?_)
      obtain ⟨z9, rfl, hz8⟩ := hr9
      have hz8 : z9 = k := hz8.trans hth
      rw [hz8]
      refine lv_iload hx hb d_law_605 (lv_at hl 1 rfl) ?_
      refine nv_icmp_eq (tgt := 612) hx hb d_law_607 (by decide) rk rk (fun _ => ?_) (fun h9 => absurd rfl h9)
      refine lv_iload hx hb d_law_612 (lv_at hl 1 rfl) ?_
      refine nv_if_ne (tgt := 629) hx hb d_law_614 (by decide) rk (fun _ => ?_) (fun hk0 => ?_)
      · refine lv_goto (tgt := 1338) hx hb d_law_629 (by decide) ?_
        exact kk f1 A1 C1 ((u0, MM.no, MM.ca, MM.ba, MM.nl, MM.xa, MM.sa, MM.da, u4, MM.ra, MM.fa, MM.ta, u3, u1, u2, MM.ma, MM.mh, MM.ml, MM.nf, MM.fo, MM.fh, MM.fs, MM.rs, u5, MM.mn, MM.bh, MM.bo, MM.ya, MM.np, MM.pa, MM.nc, MM.cp) : MdC) H ls hA1 hh0 hRl hP hD hS (lv_sub hl [6, 5, 4, 3, 2] rfl)
      · obtain ⟨hz7, rz⟩ := hz9 hk0
        refine lv_aload_n hx hb d_law_617 rfl (lv_at hl 3 rfl) ?_
        refine nv_iconst (n := 0) hx hb d_law_618 ?_
        refine nv_lald (f := f1) hx hb hK 1 (hP 24 _ rfl) rfl 0 rfl (by decide) (by decide) d_law_619 ?_
        rw [hz7]
        refine lv_iload hx hb d_law_620 (lv_at hl 0 rfl) ?_
        refine nv_i2l hx hb d_law_622 rz ?_
        refine nv_lcmp_eq (tgt := 629) hx hb d_law_623 d_law_624 (by decide) ⟨by have := rz.1; omega, by have := rz.2; omega⟩ ⟨by have := rz.1; omega, by have := rz.2; omega⟩ (fun _ => ?_) (fun h9 => absurd rfl h9)
        refine lv_goto (tgt := 1338) hx hb d_law_629 (by decide) ?_
        exact kk f1 A1 C1 ((u0, MM.no, MM.ca, MM.ba, MM.nl, MM.xa, MM.sa, MM.da, u4, MM.ra, MM.fa, MM.ta, u3, u1, u2, MM.ma, MM.mh, MM.ml, MM.nf, MM.fo, MM.fh, MM.fs, MM.rs, u5, MM.mn, MM.bh, MM.bo, MM.ya, MM.np, MM.pa, MM.nc, MM.cp) : MdC) H ls hA1 hh0 hRl hP hD hS (lv_sub hl [6, 5, 4, 3, 2] rfl)
    · replace v := v.2 c4
      refine nv_iconst (n := 1) hx hb d_law_591 ?_
      refine lv_goto (tgt := 596) hx hb d_law_592 (by decide) ?_
      obtain ⟨Pm7, vm8, v⟩ := v
      have hPc := (nv_Papp.mp hP).1
      have hDc := nv_Dleft hD
      have hFc := nv_free hD hS (fun q h => h)
      refine va_calli (va_runV (As := [.int (iI x1), .int (iI x2), .int (iI 1)]) (rest := []) ⟨hx, hb, hml, hown, hts⟩ (m_Md_presence l D cI cJ cO cZ BB.a0 BB.a1 BB.a2 BB.a3 BB.a4 BB.a5 BB.a6 BB.a7 BB.a8 BB.a9 BB.a10 BB.a11 BB.a12 BB.a13 BB.a14 BB.a15 BB.a16 BB.a17 BB.a18 BB.a19 BB.a20 BB.a21 BB.a22 BB.a23 H.size MM.th MM.no MM.ca MM.ba MM.nl MM.xa MM.sa MM.da MM.la MM.ra MM.fa MM.ta MM.ua MM.uh MM.uo MM.ma MM.mh MM.ml MM.nf MM.fo MM.fh MM.fs MM.rs MM.ic MM.mn MM.bh MM.bo MM.ya MM.np MM.pa MM.nc MM.cp x1 x2 1 Pm7 vm8) (nv_cwV (n := 3) hts wd_855 wd_856 wd_857 wd_10 wd_858 (by decide +kernel) ⟨Nat.le_of_ble_eq_true rfl, Nat.le_of_ble_eq_true rfl⟩) ⟨blW, va_recv hK hPc (ci := 8) (q0 := 0) rfl rfl, fun U hU hW => ⟨rfl, by rw [hU], by rw [hU]; exact hPc, va_K.moved hW.alike hK, hDc.weaken (fun _ _ _ _ => trivial)⟩⟩ rfl rfl hl.1 rfl (lv_room (Nat.le_of_ble_eq_true rfl)) d_law_596 ⟨by show _ ≤ 601024; omega, by show _ ≤ 7293034; omega⟩) hS (fun q _ h => hFc q h) hFc (fun r u t H1 locs ht hvm hw hB hz1 hk1 hS => ?_)
      obtain ⟨u0, u1, u2, u3, u4, u5⟩ := u
      obtain ⟨hP1, hK1, hD1⟩ := hB
      rw [ht] at hP1
      obtain ⟨z, rfl, hw⟩ := hw
      obtain ⟨hP, hD⟩ := nv_join (w1 := wMdS cI cJ cZ BB ((u0, MM.no, MM.ca, MM.ba, MM.nl, MM.xa, MM.sa, MM.da, u4, MM.ra, MM.fa, MM.ta, u3, u1, u2, MM.ma, MM.mh, MM.ml, MM.nf, MM.fo, MM.fh, MM.fs, MM.rs, u5, MM.mn, MM.bh, MM.bo, MM.ya, MM.np, MM.pa, MM.nc, MM.cp) : MdC)) hP hD hk1 hFc hP1 hD1
      generalize H1 = H at hP hS ⊢
      refine nv_forget hS (fun hS => ?_)
      replace v := v z u0 u1 u2 u3 u4 u5 hw
      obtain ⟨hth, hz9, hRl⟩ := v
      refine lv_istore (lv' := [(6, .int (iI z)), (5, .int (iI k)), (4, .int (iI (i : Int))), (3, .ref o), (2, .ref BB.a0), (1, .ref AA.h0), (0, .ref b)]) hx hb d_law_599 hl (by decide) rfl (fun ls hl => ?_)
      refine lv_aload_n hx hb d_law_601 rfl (lv_at hl 4 rfl) ?_
      refine vp_callSi (nv_runV (wc := wMdS cI cJ cZ BB ((u0, MM.no, MM.ca, MM.ba, MM.nl, MM.xa, MM.sa, MM.da, u4, MM.ra, MM.fa, MM.ta, u3, u1, u2, MM.ma, MM.mh, MM.ml, MM.nf, MM.fo, MM.fh, MM.fs, MM.rs, u5, MM.mn, MM.bh, MM.bo, MM.ya, MM.np, MM.pa, MM.nc, MM.cp) : MdC)) (As := []) (rest := []) ⟨hx, hb, hml, hown, hts⟩ (m_Md_thrown l D cI cJ cO cZ BB.a0 BB.a1 BB.a2 BB.a3 BB.a4 BB.a5 BB.a6 BB.a7 BB.a8 BB.a9 BB.a10 BB.a11 BB.a12 BB.a13 BB.a14 BB.a15 BB.a16 BB.a17 BB.a18 BB.a19 BB.a20 BB.a21 BB.a22 BB.a23 u0 MM.no MM.ca MM.ba MM.nl MM.xa MM.sa MM.da u4 MM.ra MM.fa MM.ta u3 u1 u2 MM.ma MM.mh MM.ml MM.nf MM.fo MM.fh MM.fs MM.rs u5 MM.mn MM.bh MM.bo MM.ya MM.np MM.pa MM.nc MM.cp (fun z => z = u0) (by unfold vc_Md_thrown; rfl)) (nv_cwV (n := 0) hts wd_801 wd_802 wd_803 wd_10 wd_804 (by decide +kernel) ⟨Nat.le_of_ble_eq_true rfl, Nat.le_of_ble_eq_true rfl⟩) hK (nv_Papp.mp hP).1 (va_recv hK hP (ci := 8) (q0 := 0) rfl rfl) rfl hl.1 rfl (Nat.le_of_ble_eq_true rfl) d_law_602 (by show _ ≤ 601024; omega) (by show _ ≤ 7293034; omega)) (fun r9 hr9 => ?_)
      obtain ⟨z9, rfl, hz8⟩ := hr9
      have hz8 : z9 = k := hz8.trans hth
      rw [hz8]
      refine lv_iload hx hb d_law_605 (lv_at hl 1 rfl) ?_
      refine nv_icmp_eq (tgt := 612) hx hb d_law_607 (by decide) rk rk (fun _ => ?_) (fun h9 => absurd rfl h9)
      refine lv_iload hx hb d_law_612 (lv_at hl 1 rfl) ?_
      refine nv_if_ne (tgt := 629) hx hb d_law_614 (by decide) rk (fun _ => ?_) (fun hk0 => ?_)
      · refine lv_goto (tgt := 1338) hx hb d_law_629 (by decide) ?_
        exact kk f1 A1 C1 ((u0, MM.no, MM.ca, MM.ba, MM.nl, MM.xa, MM.sa, MM.da, u4, MM.ra, MM.fa, MM.ta, u3, u1, u2, MM.ma, MM.mh, MM.ml, MM.nf, MM.fo, MM.fh, MM.fs, MM.rs, u5, MM.mn, MM.bh, MM.bo, MM.ya, MM.np, MM.pa, MM.nc, MM.cp) : MdC) H ls hA1 hh0 hRl hP hD hS (lv_sub hl [6, 5, 4, 3, 2] rfl)
      · obtain ⟨hz7, rz⟩ := hz9 hk0
        refine lv_aload_n hx hb d_law_617 rfl (lv_at hl 3 rfl) ?_
        refine nv_iconst (n := 0) hx hb d_law_618 ?_
        refine nv_lald (f := f1) hx hb hK 1 (hP 24 _ rfl) rfl 0 rfl (by decide) (by decide) d_law_619 ?_
        rw [hz7]
        refine lv_iload hx hb d_law_620 (lv_at hl 0 rfl) ?_
        refine nv_i2l hx hb d_law_622 rz ?_
        refine nv_lcmp_eq (tgt := 629) hx hb d_law_623 d_law_624 (by decide) ⟨by have := rz.1; omega, by have := rz.2; omega⟩ ⟨by have := rz.1; omega, by have := rz.2; omega⟩ (fun _ => ?_) (fun h9 => absurd rfl h9)
        refine lv_goto (tgt := 1338) hx hb d_law_629 (by decide) ?_
        exact kk f1 A1 C1 ((u0, MM.no, MM.ca, MM.ba, MM.nl, MM.xa, MM.sa, MM.da, u4, MM.ra, MM.fa, MM.ta, u3, u1, u2, MM.ma, MM.mh, MM.ml, MM.nf, MM.fo, MM.fh, MM.fs, MM.rs, u5, MM.mn, MM.bh, MM.bo, MM.ya, MM.np, MM.pa, MM.nc, MM.cp) : MdC) H ls hA1 hh0 hRl hP hD hS (lv_sub hl [6, 5, 4, 3, 2] rfl)
  · replace v := v.2 c1
    refine nv_iconst (n := 1) hx hb d_law_558 ?_
    refine lv_goto (tgt := 563) hx hb d_law_559 (by decide) ?_
    refine lv_aload_n hx hb d_law_563 rfl (lv_at hl 1 rfl) ?_
    obtain ⟨Pw9, vw10, v⟩ := v
    have hPs := nv_Pperm hP List.perm_append_comm
    have hDs := nv_Dperm hD List.perm_append_comm
    have hPc := (nv_Papp.mp hPs).1
    have hDc := nv_Dleft hDs
    have hFc := nv_free hDs hS (fun q h => h)
    refine va_calli (nv_runSW (n := 5) (As := [.ref AA.h0, .int (iI x1), .int (iI x2), .int (iI 1), .ref o]) (rest := []) ⟨hx, hb, hml, hown, hts⟩ (w_presence l D cI cJ cO cZ qd mi s hZ hfl hN o f AA CC hAA H.size x1 x2 1 Pw9 vw10) hts wd_564 wd_565 wd_0 wd_566 rfl rfl (by decide +kernel) ⟨Nat.le_of_ble_eq_true rfl, Nat.le_of_ble_eq_true rfl⟩ ⟨blWE, fun U hU hW => ⟨rfl, by rw [hU], by rw [hU]; exact hPc, va_K.moved hW.alike hK, hDc, (Ev.rf s).step (fun _ h => h) hS hU hW⟩⟩ rfl rfl hl.1 rfl (lv_room (Nat.le_of_ble_eq_true rfl)) d_law_564 ⟨by show _ ≤ 601024; omega, by show _ ≤ 7293034; omega⟩) hS (fun q _ h => hFc q h) hFc (fun r u t H1 locs ht hvm hw hB hz1 hk1 hS => ?_)
    obtain ⟨f1, C1⟩ := u
    obtain ⟨A1, hA1, hh0, hP1, hK1, hD1⟩ := hB
    rw [ht] at hP1
    obtain ⟨k, rfl, hw⟩ := hw
    obtain ⟨hP, hD⟩ := nv_join (w1 := (cOut cJ o f1 :: LDW cI cJ cO A1 C1)) hPs hDs hk1 hFc hP1 hD1
    generalize H1 = H at hP hS ⊢
    refine nv_forget hS (fun hS => ?_)
    replace hP := nv_Pperm hP List.perm_append_comm
    replace hD := nv_Dperm hD List.perm_append_comm
    obtain ⟨rk, v⟩ := v k f1 C1 hw
    refine lv_istore (lv' := [(5, .int (iI k)), (4, .int (iI (i : Int))), (3, .ref o), (2, .ref BB.a0), (1, .ref AA.h0), (0, .ref b)]) hx hb d_law_567 hl (by decide) rfl (fun ls hl => ?_)
    refine lv_aload_n hx hb d_law_569 rfl (lv_at hl 3 rfl) ?_
    refine lv_aload_n hx hb d_law_570 rfl (lv_at hl 5 rfl) ?_
    refine lv_iload hx hb d_law_571 (lv_at hl 1 rfl) ?_
    refine nv_iconst (n := 1) hx hb d_law_573 ?_
    refine nv_iadd (z := (i : Int) + 1) hx hb d_law_574 (by first | rfl | omega) ?_
    refine nv_sld hx hb hX hbl (Nat.not_le.mpr hbl) hS (x := x1) (i + 1) (by omega) (by omega) (by omega) q1 d_law_575 ?_
    refine lv_aload_n hx hb d_law_576 rfl (lv_at hl 5 rfl) ?_
    refine lv_iload hx hb d_law_577 (lv_at hl 1 rfl) ?_
    refine nv_iconst (n := 2) hx hb d_law_579 ?_
    refine nv_iadd (z := (i : Int) + 2) hx hb d_law_580 (by first | rfl | omega) ?_
    refine nv_sld hx hb hX hbl (Nat.not_le.mpr hbl) hS (x := x2) (i + 2) (by omega) (by omega) (by omega) q2 d_law_581 ?_
    refine lv_aload_n hx hb d_law_582 rfl (lv_at hl 5 rfl) ?_
    refine lv_iload hx hb d_law_583 (lv_at hl 1 rfl) ?_
    refine nv_iconst (n := 3) hx hb d_law_585 ?_
    refine nv_iadd (z := (i : Int) + 3) hx hb d_law_586 (by first | rfl | omega) ?_
    refine nv_sld hx hb hX hbl (Nat.not_le.mpr hbl) hS (x := x3) (i + 3) (by omega) (by omega) (by omega) q3 d_law_587 ?_
    refine nv_if_eq (tgt := 595) hx hb d_law_588 (by decide) r3 (fun c11 => ?_) (fun c11 => ?_)
    · replace v := v.1 c11
      refine nv_iconst (n := 0) hx hb d_law_595 ?_
      obtain ⟨Pm12, vm13, v⟩ := v
      have hPc := (nv_Papp.mp hP).1
      have hDc := nv_Dleft hD
      have hFc := nv_free hD hS (fun q h => h)
      refine va_calli (va_runV (As := [.int (iI x1), .int (iI x2), .int (iI 0)]) (rest := []) ⟨hx, hb, hml, hown, hts⟩ (m_Md_presence l D cI cJ cO cZ BB.a0 BB.a1 BB.a2 BB.a3 BB.a4 BB.a5 BB.a6 BB.a7 BB.a8 BB.a9 BB.a10 BB.a11 BB.a12 BB.a13 BB.a14 BB.a15 BB.a16 BB.a17 BB.a18 BB.a19 BB.a20 BB.a21 BB.a22 BB.a23 H.size MM.th MM.no MM.ca MM.ba MM.nl MM.xa MM.sa MM.da MM.la MM.ra MM.fa MM.ta MM.ua MM.uh MM.uo MM.ma MM.mh MM.ml MM.nf MM.fo MM.fh MM.fs MM.rs MM.ic MM.mn MM.bh MM.bo MM.ya MM.np MM.pa MM.nc MM.cp x1 x2 0 Pm12 vm13) (nv_cwV (n := 3) hts wd_855 wd_856 wd_857 wd_10 wd_858 (by decide +kernel) ⟨Nat.le_of_ble_eq_true rfl, Nat.le_of_ble_eq_true rfl⟩) ⟨blW, va_recv hK hPc (ci := 8) (q0 := 0) rfl rfl, fun U hU hW => ⟨rfl, by rw [hU], by rw [hU]; exact hPc, va_K.moved hW.alike hK, hDc.weaken (fun _ _ _ _ => trivial)⟩⟩ rfl rfl hl.1 rfl (lv_room (Nat.le_of_ble_eq_true rfl)) d_law_596 ⟨by show _ ≤ 601024; omega, by show _ ≤ 7293034; omega⟩) hS (fun q _ h => hFc q h) hFc (fun r u t H1 locs ht hvm hw hB hz1 hk1 hS => ?_)
      obtain ⟨u0, u1, u2, u3, u4, u5⟩ := u
      obtain ⟨hP1, hK1, hD1⟩ := hB
      rw [ht] at hP1
      obtain ⟨z, rfl, hw⟩ := hw
      obtain ⟨hP, hD⟩ := nv_join (w1 := wMdS cI cJ cZ BB ((u0, MM.no, MM.ca, MM.ba, MM.nl, MM.xa, MM.sa, MM.da, u4, MM.ra, MM.fa, MM.ta, u3, u1, u2, MM.ma, MM.mh, MM.ml, MM.nf, MM.fo, MM.fh, MM.fs, MM.rs, u5, MM.mn, MM.bh, MM.bo, MM.ya, MM.np, MM.pa, MM.nc, MM.cp) : MdC)) hP hD hk1 hFc hP1 hD1
      generalize H1 = H at hP hS ⊢
      refine nv_forget hS (fun hS => ?_)
      replace v := v z u0 u1 u2 u3 u4 u5 hw
      obtain ⟨hth, hz9, hRl⟩ := v
      refine lv_istore (lv' := [(6, .int (iI z)), (5, .int (iI k)), (4, .int (iI (i : Int))), (3, .ref o), (2, .ref BB.a0), (1, .ref AA.h0), (0, .ref b)]) hx hb d_law_599 hl (by decide) rfl (fun ls hl => ?_)
      refine lv_aload_n hx hb d_law_601 rfl (lv_at hl 4 rfl) ?_
      refine vp_callSi (nv_runV (wc := wMdS cI cJ cZ BB ((u0, MM.no, MM.ca, MM.ba, MM.nl, MM.xa, MM.sa, MM.da, u4, MM.ra, MM.fa, MM.ta, u3, u1, u2, MM.ma, MM.mh, MM.ml, MM.nf, MM.fo, MM.fh, MM.fs, MM.rs, u5, MM.mn, MM.bh, MM.bo, MM.ya, MM.np, MM.pa, MM.nc, MM.cp) : MdC)) (As := []) (rest := []) ⟨hx, hb, hml, hown, hts⟩ (m_Md_thrown l D cI cJ cO cZ BB.a0 BB.a1 BB.a2 BB.a3 BB.a4 BB.a5 BB.a6 BB.a7 BB.a8 BB.a9 BB.a10 BB.a11 BB.a12 BB.a13 BB.a14 BB.a15 BB.a16 BB.a17 BB.a18 BB.a19 BB.a20 BB.a21 BB.a22 BB.a23 u0 MM.no MM.ca MM.ba MM.nl MM.xa MM.sa MM.da u4 MM.ra MM.fa MM.ta u3 u1 u2 MM.ma MM.mh MM.ml MM.nf MM.fo MM.fh MM.fs MM.rs u5 MM.mn MM.bh MM.bo MM.ya MM.np MM.pa MM.nc MM.cp (fun z => z = u0) (by unfold vc_Md_thrown; rfl)) (nv_cwV (n := 0) hts wd_801 wd_802 wd_803 wd_10 wd_804 (by decide +kernel) ⟨Nat.le_of_ble_eq_true rfl, Nat.le_of_ble_eq_true rfl⟩) hK (nv_Papp.mp hP).1 (va_recv hK hP (ci := 8) (q0 := 0) rfl rfl) rfl hl.1 rfl (Nat.le_of_ble_eq_true rfl) d_law_602 (by show _ ≤ 601024; omega) (by show _ ≤ 7293034; omega)) (fun r9 hr9 => ?_)
      obtain ⟨z9, rfl, hz8⟩ := hr9
      have hz8 : z9 = k := hz8.trans hth
      rw [hz8]
      refine lv_iload hx hb d_law_605 (lv_at hl 1 rfl) ?_
      refine nv_icmp_eq (tgt := 612) hx hb d_law_607 (by decide) rk rk (fun _ => ?_) (fun h9 => absurd rfl h9)
      refine lv_iload hx hb d_law_612 (lv_at hl 1 rfl) ?_
      refine nv_if_ne (tgt := 629) hx hb d_law_614 (by decide) rk (fun _ => ?_) (fun hk0 => ?_)
      · refine lv_goto (tgt := 1338) hx hb d_law_629 (by decide) ?_
        exact kk f1 A1 C1 ((u0, MM.no, MM.ca, MM.ba, MM.nl, MM.xa, MM.sa, MM.da, u4, MM.ra, MM.fa, MM.ta, u3, u1, u2, MM.ma, MM.mh, MM.ml, MM.nf, MM.fo, MM.fh, MM.fs, MM.rs, u5, MM.mn, MM.bh, MM.bo, MM.ya, MM.np, MM.pa, MM.nc, MM.cp) : MdC) H ls hA1 hh0 hRl hP hD hS (lv_sub hl [6, 5, 4, 3, 2] rfl)
      · obtain ⟨hz7, rz⟩ := hz9 hk0
        refine lv_aload_n hx hb d_law_617 rfl (lv_at hl 3 rfl) ?_
        refine nv_iconst (n := 0) hx hb d_law_618 ?_
        refine nv_lald (f := f1) hx hb hK 1 (hP 24 _ rfl) rfl 0 rfl (by decide) (by decide) d_law_619 ?_
        rw [hz7]
        refine lv_iload hx hb d_law_620 (lv_at hl 0 rfl) ?_
        refine nv_i2l hx hb d_law_622 rz ?_
        refine nv_lcmp_eq (tgt := 629) hx hb d_law_623 d_law_624 (by decide) ⟨by have := rz.1; omega, by have := rz.2; omega⟩ ⟨by have := rz.1; omega, by have := rz.2; omega⟩ (fun _ => ?_) (fun h9 => absurd rfl h9)
        refine lv_goto (tgt := 1338) hx hb d_law_629 (by decide) ?_
        exact kk f1 A1 C1 ((u0, MM.no, MM.ca, MM.ba, MM.nl, MM.xa, MM.sa, MM.da, u4, MM.ra, MM.fa, MM.ta, u3, u1, u2, MM.ma, MM.mh, MM.ml, MM.nf, MM.fo, MM.fh, MM.fs, MM.rs, u5, MM.mn, MM.bh, MM.bo, MM.ya, MM.np, MM.pa, MM.nc, MM.cp) : MdC) H ls hA1 hh0 hRl hP hD hS (lv_sub hl [6, 5, 4, 3, 2] rfl)
    · replace v := v.2 c11
      refine nv_iconst (n := 1) hx hb d_law_591 ?_
      refine lv_goto (tgt := 596) hx hb d_law_592 (by decide) ?_
      obtain ⟨Pm14, vm15, v⟩ := v
      have hPc := (nv_Papp.mp hP).1
      have hDc := nv_Dleft hD
      have hFc := nv_free hD hS (fun q h => h)
      refine va_calli (va_runV (As := [.int (iI x1), .int (iI x2), .int (iI 1)]) (rest := []) ⟨hx, hb, hml, hown, hts⟩ (m_Md_presence l D cI cJ cO cZ BB.a0 BB.a1 BB.a2 BB.a3 BB.a4 BB.a5 BB.a6 BB.a7 BB.a8 BB.a9 BB.a10 BB.a11 BB.a12 BB.a13 BB.a14 BB.a15 BB.a16 BB.a17 BB.a18 BB.a19 BB.a20 BB.a21 BB.a22 BB.a23 H.size MM.th MM.no MM.ca MM.ba MM.nl MM.xa MM.sa MM.da MM.la MM.ra MM.fa MM.ta MM.ua MM.uh MM.uo MM.ma MM.mh MM.ml MM.nf MM.fo MM.fh MM.fs MM.rs MM.ic MM.mn MM.bh MM.bo MM.ya MM.np MM.pa MM.nc MM.cp x1 x2 1 Pm14 vm15) (nv_cwV (n := 3) hts wd_855 wd_856 wd_857 wd_10 wd_858 (by decide +kernel) ⟨Nat.le_of_ble_eq_true rfl, Nat.le_of_ble_eq_true rfl⟩) ⟨blW, va_recv hK hPc (ci := 8) (q0 := 0) rfl rfl, fun U hU hW => ⟨rfl, by rw [hU], by rw [hU]; exact hPc, va_K.moved hW.alike hK, hDc.weaken (fun _ _ _ _ => trivial)⟩⟩ rfl rfl hl.1 rfl (lv_room (Nat.le_of_ble_eq_true rfl)) d_law_596 ⟨by show _ ≤ 601024; omega, by show _ ≤ 7293034; omega⟩) hS (fun q _ h => hFc q h) hFc (fun r u t H1 locs ht hvm hw hB hz1 hk1 hS => ?_)
      obtain ⟨u0, u1, u2, u3, u4, u5⟩ := u
      obtain ⟨hP1, hK1, hD1⟩ := hB
      rw [ht] at hP1
      obtain ⟨z, rfl, hw⟩ := hw
      obtain ⟨hP, hD⟩ := nv_join (w1 := wMdS cI cJ cZ BB ((u0, MM.no, MM.ca, MM.ba, MM.nl, MM.xa, MM.sa, MM.da, u4, MM.ra, MM.fa, MM.ta, u3, u1, u2, MM.ma, MM.mh, MM.ml, MM.nf, MM.fo, MM.fh, MM.fs, MM.rs, u5, MM.mn, MM.bh, MM.bo, MM.ya, MM.np, MM.pa, MM.nc, MM.cp) : MdC)) hP hD hk1 hFc hP1 hD1
      generalize H1 = H at hP hS ⊢
      refine nv_forget hS (fun hS => ?_)
      replace v := v z u0 u1 u2 u3 u4 u5 hw
      obtain ⟨hth, hz9, hRl⟩ := v
      refine lv_istore (lv' := [(6, .int (iI z)), (5, .int (iI k)), (4, .int (iI (i : Int))), (3, .ref o), (2, .ref BB.a0), (1, .ref AA.h0), (0, .ref b)]) hx hb d_law_599 hl (by decide) rfl (fun ls hl => ?_)
      refine lv_aload_n hx hb d_law_601 rfl (lv_at hl 4 rfl) ?_
      refine vp_callSi (nv_runV (wc := wMdS cI cJ cZ BB ((u0, MM.no, MM.ca, MM.ba, MM.nl, MM.xa, MM.sa, MM.da, u4, MM.ra, MM.fa, MM.ta, u3, u1, u2, MM.ma, MM.mh, MM.ml, MM.nf, MM.fo, MM.fh, MM.fs, MM.rs, u5, MM.mn, MM.bh, MM.bo, MM.ya, MM.np, MM.pa, MM.nc, MM.cp) : MdC)) (As := []) (rest := []) ⟨hx, hb, hml, hown, hts⟩ (m_Md_thrown l D cI cJ cO cZ BB.a0 BB.a1 BB.a2 BB.a3 BB.a4 BB.a5 BB.a6 BB.a7 BB.a8 BB.a9 BB.a10 BB.a11 BB.a12 BB.a13 BB.a14 BB.a15 BB.a16 BB.a17 BB.a18 BB.a19 BB.a20 BB.a21 BB.a22 BB.a23 u0 MM.no MM.ca MM.ba MM.nl MM.xa MM.sa MM.da u4 MM.ra MM.fa MM.ta u3 u1 u2 MM.ma MM.mh MM.ml MM.nf MM.fo MM.fh MM.fs MM.rs u5 MM.mn MM.bh MM.bo MM.ya MM.np MM.pa MM.nc MM.cp (fun z => z = u0) (by unfold vc_Md_thrown; rfl)) (nv_cwV (n := 0) hts wd_801 wd_802 wd_803 wd_10 wd_804 (by decide +kernel) ⟨Nat.le_of_ble_eq_true rfl, Nat.le_of_ble_eq_true rfl⟩) hK (nv_Papp.mp hP).1 (va_recv hK hP (ci := 8) (q0 := 0) rfl rfl) rfl hl.1 rfl (Nat.le_of_ble_eq_true rfl) d_law_602 (by show _ ≤ 601024; omega) (by show _ ≤ 7293034; omega)) (fun r9 hr9 => ?_)
      obtain ⟨z9, rfl, hz8⟩ := hr9
      have hz8 : z9 = k := hz8.trans hth
      rw [hz8]
      refine lv_iload hx hb d_law_605 (lv_at hl 1 rfl) ?_
      refine nv_icmp_eq (tgt := 612) hx hb d_law_607 (by decide) rk rk (fun _ => ?_) (fun h9 => absurd rfl h9)
      refine lv_iload hx hb d_law_612 (lv_at hl 1 rfl) ?_
      refine nv_if_ne (tgt := 629) hx hb d_law_614 (by decide) rk (fun _ => ?_) (fun hk0 => ?_)
      · refine lv_goto (tgt := 1338) hx hb d_law_629 (by decide) ?_
        exact kk f1 A1 C1 ((u0, MM.no, MM.ca, MM.ba, MM.nl, MM.xa, MM.sa, MM.da, u4, MM.ra, MM.fa, MM.ta, u3, u1, u2, MM.ma, MM.mh, MM.ml, MM.nf, MM.fo, MM.fh, MM.fs, MM.rs, u5, MM.mn, MM.bh, MM.bo, MM.ya, MM.np, MM.pa, MM.nc, MM.cp) : MdC) H ls hA1 hh0 hRl hP hD hS (lv_sub hl [6, 5, 4, 3, 2] rfl)
      · obtain ⟨hz7, rz⟩ := hz9 hk0
        refine lv_aload_n hx hb d_law_617 rfl (lv_at hl 3 rfl) ?_
        refine nv_iconst (n := 0) hx hb d_law_618 ?_
        refine nv_lald (f := f1) hx hb hK 1 (hP 24 _ rfl) rfl 0 rfl (by decide) (by decide) d_law_619 ?_
        rw [hz7]
        refine lv_iload hx hb d_law_620 (lv_at hl 0 rfl) ?_
        refine nv_i2l hx hb d_law_622 rz ?_
        refine nv_lcmp_eq (tgt := 629) hx hb d_law_623 d_law_624 (by decide) ⟨by have := rz.1; omega, by have := rz.2; omega⟩ ⟨by have := rz.1; omega, by have := rz.2; omega⟩ (fun _ => ?_) (fun h9 => absurd rfl h9)
        refine lv_goto (tgt := 1338) hx hb d_law_629 (by decide) ?_
        exact kk f1 A1 C1 ((u0, MM.no, MM.ca, MM.ba, MM.nl, MM.xa, MM.sa, MM.da, u4, MM.ra, MM.fa, MM.ta, u3, u1, u2, MM.ma, MM.mh, MM.ml, MM.nf, MM.fo, MM.fh, MM.fs, MM.rs, u5, MM.mn, MM.bh, MM.bo, MM.ya, MM.np, MM.pa, MM.nc, MM.cp) : MdC) H ls hA1 hh0 hRl hP hD hS (lv_sub hl [6, 5, 4, 3, 2] rfl)
def vl_meter (AA : LdA) (CC : LdC) (MM : MdC) (f : Nat → Int) (x1 x2 x3 : Int) (Rl : LdC → MdC → Prop) : Prop := ∃ Pw1, vw_meter AA CC f x1 x2 x3 Pw1 ∧ ∀ (k : Int) (f1 : Nat → Int) (C1 : LdC), Pw1 k f1 C1 → r32 k ∧ (∃ Pm3, vc_Md_meter MM.th MM.no MM.ca MM.ba MM.nl MM.xa MM.sa MM.da MM.la MM.ra MM.fa MM.ta MM.ua MM.uh MM.uo MM.ma MM.mh MM.ml MM.nf MM.fo MM.fh MM.fs MM.rs MM.ic MM.mn MM.bh MM.bo MM.ya MM.np MM.pa MM.nc MM.cp x1 x2 x3 Pm3 ∧ ∀ (z : Int) (u0 : Int) (u1 : Nat → Int) (u2 : Nat → Int) (u3 : Nat → Int) (u4 : Nat → Int) (u5 : Int), Pm3 z u0 u1 u2 u3 u4 u5 → u0 = k ∧ (k = 0 → f1 0 = z ∧ r32 z) ∧ Rl C1 ((u0, MM.no, MM.ca, MM.ba, MM.nl, MM.xa, MM.sa, MM.da, u4, MM.ra, MM.fa, MM.ta, MM.ua, MM.uh, MM.uo, u3, u1, u2, MM.nf, MM.fo, MM.fh, MM.fs, MM.rs, u5, MM.mn, MM.bh, MM.bo, MM.ya, MM.np, MM.pa, MM.nc, MM.cp) : MdC))
set_option maxHeartbeats 4000000 in
set_option maxRecDepth 100000 in
theorem c_meter {p : Program} {l : Launch} {e : Env} {s : State} {m : MethodId} {below : List Frame} {meth : Method} {c : Code} {Q : State → Prop} {b L : Nat} {xs : Nat → Int32} {D : va_G} {cI cJ cO cZ : ClassId} {qd mi : Nat} (F9 : LwF p l s m meth c b L xs D cI cJ cO cZ qd mi) {o : Nat} {BB : MdA} {f : Nat → Int} {AA : LdA} {CC : LdC} {MM : MdC} {H : Heap} {ls : Array Slot} {i cells slots : Nat} {x1 x2 x3 : Int} (hAA : ldA qd AA CC) (hP : va_P D vwCl (wMdS cI cJ cZ BB MM ++ (cOut cJ o f :: LDW cI cJ cO AA CC)) H) (hD : va_D (fun q => s.heap.size ≤ q) (wMdS cI cJ cZ BB MM ++ (cOut cJ o f :: LDW cI cJ cO AA CC))) (hS : va_S (fun q => s.heap.size ≤ q) s.heap H []) (hl : lv_has ls 7 [(4, .int (iI (i : Int))), (3, .ref o), (2, .ref BB.a0), (1, .ref AA.h0), (0, .ref b)]) (hi : i + 3 < L) (hL : L ≤ 2048) (q1 : xs (i + 1) = iI x1) (q2 : xs (i + 2) = iI x2) (q3 : xs (i + 3) = iI x3) (r1 : r32 x1) (r2 : r32 x2) (r3 : r32 x3) (hc : cells + 12 ≤ 601024) (hsl : slots + 240 ≤ 7293034) (Rl : LdC → MdC → Prop) (v : vl_meter AA CC MM f x1 x2 x3 Rl)
    (kk : ∀ (f1 : Nat → Int) (A1 : LdA) (C1 : LdC) (M1 : MdC) (H : Heap) (ls : Array Slot), ldA qd A1 C1 → A1.h0 = AA.h0 → Rl C1 M1 → va_P D vwCl (wMdS cI cJ cZ BB M1 ++ (cOut cJ o f1 :: LDW cI cJ cO A1 C1)) H → va_D (fun q => s.heap.size ≤ q) (wMdS cI cJ cZ BB M1 ++ (cOut cJ o f1 :: LDW cI cJ cO A1 C1)) → va_S (fun q => s.heap.size ≤ q) s.heap H [] → lv_has ls 7 [(0, .ref b), (1, .ref AA.h0), (2, .ref BB.a0), (3, .ref o), (4, .int (iI (i : Int)))] → W p l e room_1 s m #[Value.ref b] below meth c H [] (cells + 12) (slots + 240) Q (F0 m 1338 ls [])) :
    W p l e room_1 s m #[Value.ref b] below meth c H [] cells slots Q (F0 m 632 ls []) := by
  obtain ⟨hx, hb, hml, hown, hts, hX, hbl, hK, hZ, hN, hfl⟩ := F9
  unfold vl_meter at v
  refine lv_aload_n hx hb d_law_632 rfl (lv_at hl 3 rfl) ?_
  refine lv_aload_n hx hb d_law_633 rfl (lv_at hl 4 rfl) ?_
  refine lv_iload hx hb d_law_634 (lv_at hl 0 rfl) ?_
  refine nv_iconst (n := 1) hx hb d_law_636 ?_
  refine nv_iadd (z := (i : Int) + 1) hx hb d_law_637 (by first | rfl | omega) ?_
  refine nv_sld hx hb hX hbl (Nat.not_le.mpr hbl) hS (x := x1) (i + 1) (by omega) (by omega) (by omega) q1 d_law_638 ?_
  refine lv_aload_n hx hb d_law_639 rfl (lv_at hl 4 rfl) ?_
  refine lv_iload hx hb d_law_640 (lv_at hl 0 rfl) ?_
  refine nv_iconst (n := 2) hx hb d_law_642 ?_
  refine nv_iadd (z := (i : Int) + 2) hx hb d_law_643 (by first | rfl | omega) ?_
  refine nv_sld hx hb hX hbl (Nat.not_le.mpr hbl) hS (x := x2) (i + 2) (by omega) (by omega) (by omega) q2 d_law_644 ?_
  refine lv_aload_n hx hb d_law_645 rfl (lv_at hl 4 rfl) ?_
  refine lv_iload hx hb d_law_646 (lv_at hl 0 rfl) ?_
  refine nv_iconst (n := 3) hx hb d_law_648 ?_
  refine nv_iadd (z := (i : Int) + 3) hx hb d_law_649 (by first | rfl | omega) ?_
  refine nv_sld hx hb hX hbl (Nat.not_le.mpr hbl) hS (x := x3) (i + 3) (by omega) (by omega) (by omega) q3 d_law_650 ?_
  refine lv_aload_n hx hb d_law_651 rfl (lv_at hl 1 rfl) ?_
  obtain ⟨Pw1, vw2, v⟩ := v
  have hPs := nv_Pperm hP List.perm_append_comm
  have hDs := nv_Dperm hD List.perm_append_comm
  have hPc := (nv_Papp.mp hPs).1
  have hDc := nv_Dleft hDs
  have hFc := nv_free hDs hS (fun q h => h)
  refine va_calli (nv_runSW (n := 5) (As := [.ref AA.h0, .int (iI x1), .int (iI x2), .int (iI x3), .ref o]) (rest := []) ⟨hx, hb, hml, hown, hts⟩ (w_meter l D cI cJ cO cZ qd mi s hZ hfl hN o f AA CC hAA H.size x1 x2 x3 Pw1 vw2) hts wd_591 wd_592 wd_0 wd_593 rfl rfl (by decide +kernel) ⟨Nat.le_of_ble_eq_true rfl, Nat.le_of_ble_eq_true rfl⟩ ⟨blWE, fun U hU hW => ⟨rfl, by rw [hU], by rw [hU]; exact hPc, va_K.moved hW.alike hK, hDc, (Ev.rf s).step (fun _ h => h) hS hU hW⟩⟩ rfl rfl hl.1 rfl (lv_room (Nat.le_of_ble_eq_true rfl)) d_law_652 ⟨by show _ ≤ 601024; omega, by show _ ≤ 7293034; omega⟩) hS (fun q _ h => hFc q h) hFc (fun r u t H1 locs ht hvm hw hB hz1 hk1 hS => ?_)
  obtain ⟨f1, C1⟩ := u
  obtain ⟨A1, hA1, hh0, hP1, hK1, hD1⟩ := hB
  rw [ht] at hP1
  obtain ⟨k, rfl, hw⟩ := hw
  obtain ⟨hP, hD⟩ := nv_join (w1 := (cOut cJ o f1 :: LDW cI cJ cO A1 C1)) hPs hDs hk1 hFc hP1 hD1
  generalize H1 = H at hP hS ⊢
  refine nv_forget hS (fun hS => ?_)
  replace hP := nv_Pperm hP List.perm_append_comm
  replace hD := nv_Dperm hD List.perm_append_comm
  obtain ⟨rk, v⟩ := v k f1 C1 hw
  refine lv_istore (lv' := [(5, .int (iI k)), (4, .int (iI (i : Int))), (3, .ref o), (2, .ref BB.a0), (1, .ref AA.h0), (0, .ref b)]) hx hb d_law_655 hl (by decide) rfl (fun ls hl => ?_)
  refine lv_aload_n hx hb d_law_657 rfl (lv_at hl 3 rfl) ?_
  refine lv_aload_n hx hb d_law_658 rfl (lv_at hl 5 rfl) ?_
  refine lv_iload hx hb d_law_659 (lv_at hl 1 rfl) ?_
  refine nv_iconst (n := 1) hx hb d_law_661 ?_
  refine nv_iadd (z := (i : Int) + 1) hx hb d_law_662 (by first | rfl | omega) ?_
  refine nv_sld hx hb hX hbl (Nat.not_le.mpr hbl) hS (x := x1) (i + 1) (by omega) (by omega) (by omega) q1 d_law_663 ?_
  refine lv_aload_n hx hb d_law_664 rfl (lv_at hl 5 rfl) ?_
  refine lv_iload hx hb d_law_665 (lv_at hl 1 rfl) ?_
  refine nv_iconst (n := 2) hx hb d_law_667 ?_
  refine nv_iadd (z := (i : Int) + 2) hx hb d_law_668 (by first | rfl | omega) ?_
  refine nv_sld hx hb hX hbl (Nat.not_le.mpr hbl) hS (x := x2) (i + 2) (by omega) (by omega) (by omega) q2 d_law_669 ?_
  refine lv_aload_n hx hb d_law_670 rfl (lv_at hl 5 rfl) ?_
  refine lv_iload hx hb d_law_671 (lv_at hl 1 rfl) ?_
  refine nv_iconst (n := 3) hx hb d_law_673 ?_
  refine nv_iadd (z := (i : Int) + 3) hx hb d_law_674 (by first | rfl | omega) ?_
  refine nv_sld hx hb hX hbl (Nat.not_le.mpr hbl) hS (x := x3) (i + 3) (by omega) (by omega) (by omega) q3 d_law_675 ?_
  obtain ⟨Pm3, vm4, v⟩ := v
  have hPc := (nv_Papp.mp hP).1
  have hDc := nv_Dleft hD
  have hFc := nv_free hD hS (fun q h => h)
  refine va_calli (va_runV (As := [.int (iI x1), .int (iI x2), .int (iI x3)]) (rest := []) ⟨hx, hb, hml, hown, hts⟩ (m_Md_meter l D cI cJ cO cZ BB.a0 BB.a1 BB.a2 BB.a3 BB.a4 BB.a5 BB.a6 BB.a7 BB.a8 BB.a9 BB.a10 BB.a11 BB.a12 BB.a13 BB.a14 BB.a15 BB.a16 BB.a17 BB.a18 BB.a19 BB.a20 BB.a21 BB.a22 BB.a23 H.size MM.th MM.no MM.ca MM.ba MM.nl MM.xa MM.sa MM.da MM.la MM.ra MM.fa MM.ta MM.ua MM.uh MM.uo MM.ma MM.mh MM.ml MM.nf MM.fo MM.fh MM.fs MM.rs MM.ic MM.mn MM.bh MM.bo MM.ya MM.np MM.pa MM.nc MM.cp x1 x2 x3 Pm3 vm4) (nv_cwV (n := 3) hts wd_859 wd_860 wd_861 wd_10 wd_862 (by decide +kernel) ⟨Nat.le_of_ble_eq_true rfl, Nat.le_of_ble_eq_true rfl⟩) ⟨blW, va_recv hK hPc (ci := 8) (q0 := 0) rfl rfl, fun U hU hW => ⟨rfl, by rw [hU], by rw [hU]; exact hPc, va_K.moved hW.alike hK, hDc.weaken (fun _ _ _ _ => trivial)⟩⟩ rfl rfl hl.1 rfl (lv_room (Nat.le_of_ble_eq_true rfl)) d_law_676 ⟨by show _ ≤ 601024; omega, by show _ ≤ 7293034; omega⟩) hS (fun q _ h => hFc q h) hFc (fun r u t H1 locs ht hvm hw hB hz1 hk1 hS => ?_)
  obtain ⟨u0, u1, u2, u3, u4, u5⟩ := u
  obtain ⟨hP1, hK1, hD1⟩ := hB
  rw [ht] at hP1
  obtain ⟨z, rfl, hw⟩ := hw
  obtain ⟨hP, hD⟩ := nv_join (w1 := wMdS cI cJ cZ BB ((u0, MM.no, MM.ca, MM.ba, MM.nl, MM.xa, MM.sa, MM.da, u4, MM.ra, MM.fa, MM.ta, MM.ua, MM.uh, MM.uo, u3, u1, u2, MM.nf, MM.fo, MM.fh, MM.fs, MM.rs, u5, MM.mn, MM.bh, MM.bo, MM.ya, MM.np, MM.pa, MM.nc, MM.cp) : MdC)) hP hD hk1 hFc hP1 hD1
  generalize H1 = H at hP hS ⊢
  refine nv_forget hS (fun hS => ?_)
  replace v := v z u0 u1 u2 u3 u4 u5 hw
  obtain ⟨hth, hz9, hRl⟩ := v
  refine lv_istore (lv' := [(6, .int (iI z)), (5, .int (iI k)), (4, .int (iI (i : Int))), (3, .ref o), (2, .ref BB.a0), (1, .ref AA.h0), (0, .ref b)]) hx hb d_law_679 hl (by decide) rfl (fun ls hl => ?_)
  refine lv_aload_n hx hb d_law_681 rfl (lv_at hl 4 rfl) ?_
  refine vp_callSi (nv_runV (wc := wMdS cI cJ cZ BB ((u0, MM.no, MM.ca, MM.ba, MM.nl, MM.xa, MM.sa, MM.da, u4, MM.ra, MM.fa, MM.ta, MM.ua, MM.uh, MM.uo, u3, u1, u2, MM.nf, MM.fo, MM.fh, MM.fs, MM.rs, u5, MM.mn, MM.bh, MM.bo, MM.ya, MM.np, MM.pa, MM.nc, MM.cp) : MdC)) (As := []) (rest := []) ⟨hx, hb, hml, hown, hts⟩ (m_Md_thrown l D cI cJ cO cZ BB.a0 BB.a1 BB.a2 BB.a3 BB.a4 BB.a5 BB.a6 BB.a7 BB.a8 BB.a9 BB.a10 BB.a11 BB.a12 BB.a13 BB.a14 BB.a15 BB.a16 BB.a17 BB.a18 BB.a19 BB.a20 BB.a21 BB.a22 BB.a23 u0 MM.no MM.ca MM.ba MM.nl MM.xa MM.sa MM.da u4 MM.ra MM.fa MM.ta MM.ua MM.uh MM.uo u3 u1 u2 MM.nf MM.fo MM.fh MM.fs MM.rs u5 MM.mn MM.bh MM.bo MM.ya MM.np MM.pa MM.nc MM.cp (fun z => z = u0) (by unfold vc_Md_thrown; rfl)) (nv_cwV (n := 0) hts wd_801 wd_802 wd_803 wd_10 wd_804 (by decide +kernel) ⟨Nat.le_of_ble_eq_true rfl, Nat.le_of_ble_eq_true rfl⟩) hK (nv_Papp.mp hP).1 (va_recv hK hP (ci := 8) (q0 := 0) rfl rfl) rfl hl.1 rfl (Nat.le_of_ble_eq_true rfl) d_law_682 (by show _ ≤ 601024; omega) (by show _ ≤ 7293034; omega)) (fun r9 hr9 => ?_)
  obtain ⟨z9, rfl, hz8⟩ := hr9
  have hz8 : z9 = k := hz8.trans hth
  rw [hz8]
  refine lv_iload hx hb d_law_685 (lv_at hl 1 rfl) ?_
  refine nv_icmp_eq (tgt := 692) hx hb d_law_687 (by decide) rk rk (fun _ => ?_) (fun h9 => absurd rfl h9)
  refine lv_iload hx hb d_law_692 (lv_at hl 1 rfl) ?_
  refine nv_if_ne (tgt := 709) hx hb d_law_694 (by decide) rk (fun _ => ?_) (fun hk0 => ?_)
  · refine lv_goto (tgt := 1338) hx hb d_law_709 (by decide) ?_
    exact kk f1 A1 C1 ((u0, MM.no, MM.ca, MM.ba, MM.nl, MM.xa, MM.sa, MM.da, u4, MM.ra, MM.fa, MM.ta, MM.ua, MM.uh, MM.uo, u3, u1, u2, MM.nf, MM.fo, MM.fh, MM.fs, MM.rs, u5, MM.mn, MM.bh, MM.bo, MM.ya, MM.np, MM.pa, MM.nc, MM.cp) : MdC) H ls hA1 hh0 hRl hP hD hS (lv_sub hl [6, 5, 4, 3, 2] rfl)
  · obtain ⟨hz7, rz⟩ := hz9 hk0
    refine lv_aload_n hx hb d_law_697 rfl (lv_at hl 3 rfl) ?_
    refine nv_iconst (n := 0) hx hb d_law_698 ?_
    refine nv_lald (f := f1) hx hb hK 1 (hP 24 _ rfl) rfl 0 rfl (by decide) (by decide) d_law_699 ?_
    rw [hz7]
    refine lv_iload hx hb d_law_700 (lv_at hl 0 rfl) ?_
    refine nv_i2l hx hb d_law_702 rz ?_
    refine nv_lcmp_eq (tgt := 709) hx hb d_law_703 d_law_704 (by decide) ⟨by have := rz.1; omega, by have := rz.2; omega⟩ ⟨by have := rz.1; omega, by have := rz.2; omega⟩ (fun _ => ?_) (fun h9 => absurd rfl h9)
    refine lv_goto (tgt := 1338) hx hb d_law_709 (by decide) ?_
    exact kk f1 A1 C1 ((u0, MM.no, MM.ca, MM.ba, MM.nl, MM.xa, MM.sa, MM.da, u4, MM.ra, MM.fa, MM.ta, MM.ua, MM.uh, MM.uo, u3, u1, u2, MM.nf, MM.fo, MM.fh, MM.fs, MM.rs, u5, MM.mn, MM.bh, MM.bo, MM.ya, MM.np, MM.pa, MM.nc, MM.cp) : MdC) H ls hA1 hh0 hRl hP hD hS (lv_sub hl [6, 5, 4, 3, 2] rfl)
def vl_flash (AA : LdA) (CC : LdC) (MM : MdC) (f : Nat → Int) (x1 x2 x3 : Int) (Rl : LdC → MdC → Prop) : Prop := ∃ Pw1, vw_flash AA CC f x1 x2 x3 Pw1 ∧ ∀ (k : Int) (f1 : Nat → Int) (C1 : LdC), Pw1 k f1 C1 → r32 k ∧ (∃ Pm3, vc_Md_flash MM.th MM.no MM.ca MM.ba MM.nl MM.xa MM.sa MM.da MM.la MM.ra MM.fa MM.ta MM.ua MM.uh MM.uo MM.ma MM.mh MM.ml MM.nf MM.fo MM.fh MM.fs MM.rs MM.ic MM.mn MM.bh MM.bo MM.ya MM.np MM.pa MM.nc MM.cp x1 x2 x3 Pm3 ∧ ∀ (z : Int) (u0 : Int) (u1 : Nat → Int) (u2 : Nat → Int) (u3 : Nat → Int) (u4 : Int) (u5 : Int), Pm3 z u0 u1 u2 u3 u4 u5 → u0 = k ∧ (k = 0 → f1 0 = z ∧ r32 z) ∧ Rl C1 ((u0, MM.no, MM.ca, MM.ba, MM.nl, MM.xa, MM.sa, MM.da, MM.la, MM.ra, MM.fa, MM.ta, MM.ua, MM.uh, MM.uo, MM.ma, MM.mh, MM.ml, u4, u1, u2, u3, MM.rs, u5, MM.mn, MM.bh, MM.bo, MM.ya, MM.np, MM.pa, MM.nc, MM.cp) : MdC))
set_option maxHeartbeats 4000000 in
set_option maxRecDepth 100000 in
theorem c_flash {p : Program} {l : Launch} {e : Env} {s : State} {m : MethodId} {below : List Frame} {meth : Method} {c : Code} {Q : State → Prop} {b L : Nat} {xs : Nat → Int32} {D : va_G} {cI cJ cO cZ : ClassId} {qd mi : Nat} (F9 : LwF p l s m meth c b L xs D cI cJ cO cZ qd mi) {o : Nat} {BB : MdA} {f : Nat → Int} {AA : LdA} {CC : LdC} {MM : MdC} {H : Heap} {ls : Array Slot} {i cells slots : Nat} {x1 x2 x3 : Int} (hAA : ldA qd AA CC) (hP : va_P D vwCl (wMdS cI cJ cZ BB MM ++ (cOut cJ o f :: LDW cI cJ cO AA CC)) H) (hD : va_D (fun q => s.heap.size ≤ q) (wMdS cI cJ cZ BB MM ++ (cOut cJ o f :: LDW cI cJ cO AA CC))) (hS : va_S (fun q => s.heap.size ≤ q) s.heap H []) (hl : lv_has ls 7 [(4, .int (iI (i : Int))), (3, .ref o), (2, .ref BB.a0), (1, .ref AA.h0), (0, .ref b)]) (hi : i + 3 < L) (hL : L ≤ 2048) (q1 : xs (i + 1) = iI x1) (q2 : xs (i + 2) = iI x2) (q3 : xs (i + 3) = iI x3) (r1 : r32 x1) (r2 : r32 x2) (r3 : r32 x3) (hc : cells + 12 ≤ 601024) (hsl : slots + 240 ≤ 7293034) (Rl : LdC → MdC → Prop) (v : vl_flash AA CC MM f x1 x2 x3 Rl)
    (kk : ∀ (f1 : Nat → Int) (A1 : LdA) (C1 : LdC) (M1 : MdC) (H : Heap) (ls : Array Slot), ldA qd A1 C1 → A1.h0 = AA.h0 → Rl C1 M1 → va_P D vwCl (wMdS cI cJ cZ BB M1 ++ (cOut cJ o f1 :: LDW cI cJ cO A1 C1)) H → va_D (fun q => s.heap.size ≤ q) (wMdS cI cJ cZ BB M1 ++ (cOut cJ o f1 :: LDW cI cJ cO A1 C1)) → va_S (fun q => s.heap.size ≤ q) s.heap H [] → lv_has ls 7 [(0, .ref b), (1, .ref AA.h0), (2, .ref BB.a0), (3, .ref o), (4, .int (iI (i : Int)))] → W p l e room_1 s m #[Value.ref b] below meth c H [] (cells + 12) (slots + 240) Q (F0 m 1338 ls [])) :
    W p l e room_1 s m #[Value.ref b] below meth c H [] cells slots Q (F0 m 712 ls []) := by
  obtain ⟨hx, hb, hml, hown, hts, hX, hbl, hK, hZ, hN, hfl⟩ := F9
  unfold vl_flash at v
  refine lv_aload_n hx hb d_law_712 rfl (lv_at hl 3 rfl) ?_
  refine lv_aload_n hx hb d_law_713 rfl (lv_at hl 4 rfl) ?_
  refine lv_iload hx hb d_law_714 (lv_at hl 0 rfl) ?_
  refine nv_iconst (n := 1) hx hb d_law_716 ?_
  refine nv_iadd (z := (i : Int) + 1) hx hb d_law_717 (by first | rfl | omega) ?_
  refine nv_sld hx hb hX hbl (Nat.not_le.mpr hbl) hS (x := x1) (i + 1) (by omega) (by omega) (by omega) q1 d_law_718 ?_
  refine lv_aload_n hx hb d_law_719 rfl (lv_at hl 4 rfl) ?_
  refine lv_iload hx hb d_law_720 (lv_at hl 0 rfl) ?_
  refine nv_iconst (n := 2) hx hb d_law_722 ?_
  refine nv_iadd (z := (i : Int) + 2) hx hb d_law_723 (by first | rfl | omega) ?_
  refine nv_sld hx hb hX hbl (Nat.not_le.mpr hbl) hS (x := x2) (i + 2) (by omega) (by omega) (by omega) q2 d_law_724 ?_
  refine lv_aload_n hx hb d_law_725 rfl (lv_at hl 4 rfl) ?_
  refine lv_iload hx hb d_law_726 (lv_at hl 0 rfl) ?_
  refine nv_iconst (n := 3) hx hb d_law_728 ?_
  refine nv_iadd (z := (i : Int) + 3) hx hb d_law_729 (by first | rfl | omega) ?_
  refine nv_sld hx hb hX hbl (Nat.not_le.mpr hbl) hS (x := x3) (i + 3) (by omega) (by omega) (by omega) q3 d_law_730 ?_
  refine lv_aload_n hx hb d_law_731 rfl (lv_at hl 1 rfl) ?_
  obtain ⟨Pw1, vw2, v⟩ := v
  have hPs := nv_Pperm hP List.perm_append_comm
  have hDs := nv_Dperm hD List.perm_append_comm
  have hPc := (nv_Papp.mp hPs).1
  have hDc := nv_Dleft hDs
  have hFc := nv_free hDs hS (fun q h => h)
  refine va_calli (nv_runSW (n := 5) (As := [.ref AA.h0, .int (iI x1), .int (iI x2), .int (iI x3), .ref o]) (rest := []) ⟨hx, hb, hml, hown, hts⟩ (w_flash l D cI cJ cO cZ qd mi s hZ hfl hN o f AA CC hAA H.size x1 x2 x3 Pw1 vw2) hts wd_602 wd_603 wd_0 wd_604 rfl rfl (by decide +kernel) ⟨Nat.le_of_ble_eq_true rfl, Nat.le_of_ble_eq_true rfl⟩ ⟨blWE, fun U hU hW => ⟨rfl, by rw [hU], by rw [hU]; exact hPc, va_K.moved hW.alike hK, hDc, (Ev.rf s).step (fun _ h => h) hS hU hW⟩⟩ rfl rfl hl.1 rfl (lv_room (Nat.le_of_ble_eq_true rfl)) d_law_732 ⟨by show _ ≤ 601024; omega, by show _ ≤ 7293034; omega⟩) hS (fun q _ h => hFc q h) hFc (fun r u t H1 locs ht hvm hw hB hz1 hk1 hS => ?_)
  obtain ⟨f1, C1⟩ := u
  obtain ⟨A1, hA1, hh0, hP1, hK1, hD1⟩ := hB
  rw [ht] at hP1
  obtain ⟨k, rfl, hw⟩ := hw
  obtain ⟨hP, hD⟩ := nv_join (w1 := (cOut cJ o f1 :: LDW cI cJ cO A1 C1)) hPs hDs hk1 hFc hP1 hD1
  generalize H1 = H at hP hS ⊢
  refine nv_forget hS (fun hS => ?_)
  replace hP := nv_Pperm hP List.perm_append_comm
  replace hD := nv_Dperm hD List.perm_append_comm
  obtain ⟨rk, v⟩ := v k f1 C1 hw
  refine lv_istore (lv' := [(5, .int (iI k)), (4, .int (iI (i : Int))), (3, .ref o), (2, .ref BB.a0), (1, .ref AA.h0), (0, .ref b)]) hx hb d_law_735 hl (by decide) rfl (fun ls hl => ?_)
  refine lv_aload_n hx hb d_law_737 rfl (lv_at hl 3 rfl) ?_
  refine lv_aload_n hx hb d_law_738 rfl (lv_at hl 5 rfl) ?_
  refine lv_iload hx hb d_law_739 (lv_at hl 1 rfl) ?_
  refine nv_iconst (n := 1) hx hb d_law_741 ?_
  refine nv_iadd (z := (i : Int) + 1) hx hb d_law_742 (by first | rfl | omega) ?_
  refine nv_sld hx hb hX hbl (Nat.not_le.mpr hbl) hS (x := x1) (i + 1) (by omega) (by omega) (by omega) q1 d_law_743 ?_
  refine lv_aload_n hx hb d_law_744 rfl (lv_at hl 5 rfl) ?_
  refine lv_iload hx hb d_law_745 (lv_at hl 1 rfl) ?_
  refine nv_iconst (n := 2) hx hb d_law_747 ?_
  refine nv_iadd (z := (i : Int) + 2) hx hb d_law_748 (by first | rfl | omega) ?_
  refine nv_sld hx hb hX hbl (Nat.not_le.mpr hbl) hS (x := x2) (i + 2) (by omega) (by omega) (by omega) q2 d_law_749 ?_
  refine lv_aload_n hx hb d_law_750 rfl (lv_at hl 5 rfl) ?_
  refine lv_iload hx hb d_law_751 (lv_at hl 1 rfl) ?_
  refine nv_iconst (n := 3) hx hb d_law_753 ?_
  refine nv_iadd (z := (i : Int) + 3) hx hb d_law_754 (by first | rfl | omega) ?_
  refine nv_sld hx hb hX hbl (Nat.not_le.mpr hbl) hS (x := x3) (i + 3) (by omega) (by omega) (by omega) q3 d_law_755 ?_
  obtain ⟨Pm3, vm4, v⟩ := v
  have hPc := (nv_Papp.mp hP).1
  have hDc := nv_Dleft hD
  have hFc := nv_free hD hS (fun q h => h)
  refine va_calli (va_runV (As := [.int (iI x1), .int (iI x2), .int (iI x3)]) (rest := []) ⟨hx, hb, hml, hown, hts⟩ (m_Md_flash l D cI cJ cO cZ BB.a0 BB.a1 BB.a2 BB.a3 BB.a4 BB.a5 BB.a6 BB.a7 BB.a8 BB.a9 BB.a10 BB.a11 BB.a12 BB.a13 BB.a14 BB.a15 BB.a16 BB.a17 BB.a18 BB.a19 BB.a20 BB.a21 BB.a22 BB.a23 H.size MM.th MM.no MM.ca MM.ba MM.nl MM.xa MM.sa MM.da MM.la MM.ra MM.fa MM.ta MM.ua MM.uh MM.uo MM.ma MM.mh MM.ml MM.nf MM.fo MM.fh MM.fs MM.rs MM.ic MM.mn MM.bh MM.bo MM.ya MM.np MM.pa MM.nc MM.cp x1 x2 x3 Pm3 vm4) (nv_cwV (n := 3) hts wd_863 wd_864 wd_865 wd_10 wd_866 (by decide +kernel) ⟨Nat.le_of_ble_eq_true rfl, Nat.le_of_ble_eq_true rfl⟩) ⟨blW, va_recv hK hPc (ci := 8) (q0 := 0) rfl rfl, fun U hU hW => ⟨rfl, by rw [hU], by rw [hU]; exact hPc, va_K.moved hW.alike hK, hDc.weaken (fun _ _ _ _ => trivial)⟩⟩ rfl rfl hl.1 rfl (lv_room (Nat.le_of_ble_eq_true rfl)) d_law_756 ⟨by show _ ≤ 601024; omega, by show _ ≤ 7293034; omega⟩) hS (fun q _ h => hFc q h) hFc (fun r u t H1 locs ht hvm hw hB hz1 hk1 hS => ?_)
  obtain ⟨u0, u1, u2, u3, u4, u5⟩ := u
  obtain ⟨hP1, hK1, hD1⟩ := hB
  rw [ht] at hP1
  obtain ⟨z, rfl, hw⟩ := hw
  obtain ⟨hP, hD⟩ := nv_join (w1 := wMdS cI cJ cZ BB ((u0, MM.no, MM.ca, MM.ba, MM.nl, MM.xa, MM.sa, MM.da, MM.la, MM.ra, MM.fa, MM.ta, MM.ua, MM.uh, MM.uo, MM.ma, MM.mh, MM.ml, u4, u1, u2, u3, MM.rs, u5, MM.mn, MM.bh, MM.bo, MM.ya, MM.np, MM.pa, MM.nc, MM.cp) : MdC)) hP hD hk1 hFc hP1 hD1
  generalize H1 = H at hP hS ⊢
  refine nv_forget hS (fun hS => ?_)
  replace v := v z u0 u1 u2 u3 u4 u5 hw
  obtain ⟨hth, hz9, hRl⟩ := v
  refine lv_istore (lv' := [(6, .int (iI z)), (5, .int (iI k)), (4, .int (iI (i : Int))), (3, .ref o), (2, .ref BB.a0), (1, .ref AA.h0), (0, .ref b)]) hx hb d_law_759 hl (by decide) rfl (fun ls hl => ?_)
  refine lv_aload_n hx hb d_law_761 rfl (lv_at hl 4 rfl) ?_
  refine vp_callSi (nv_runV (wc := wMdS cI cJ cZ BB ((u0, MM.no, MM.ca, MM.ba, MM.nl, MM.xa, MM.sa, MM.da, MM.la, MM.ra, MM.fa, MM.ta, MM.ua, MM.uh, MM.uo, MM.ma, MM.mh, MM.ml, u4, u1, u2, u3, MM.rs, u5, MM.mn, MM.bh, MM.bo, MM.ya, MM.np, MM.pa, MM.nc, MM.cp) : MdC)) (As := []) (rest := []) ⟨hx, hb, hml, hown, hts⟩ (m_Md_thrown l D cI cJ cO cZ BB.a0 BB.a1 BB.a2 BB.a3 BB.a4 BB.a5 BB.a6 BB.a7 BB.a8 BB.a9 BB.a10 BB.a11 BB.a12 BB.a13 BB.a14 BB.a15 BB.a16 BB.a17 BB.a18 BB.a19 BB.a20 BB.a21 BB.a22 BB.a23 u0 MM.no MM.ca MM.ba MM.nl MM.xa MM.sa MM.da MM.la MM.ra MM.fa MM.ta MM.ua MM.uh MM.uo MM.ma MM.mh MM.ml u4 u1 u2 u3 MM.rs u5 MM.mn MM.bh MM.bo MM.ya MM.np MM.pa MM.nc MM.cp (fun z => z = u0) (by unfold vc_Md_thrown; rfl)) (nv_cwV (n := 0) hts wd_801 wd_802 wd_803 wd_10 wd_804 (by decide +kernel) ⟨Nat.le_of_ble_eq_true rfl, Nat.le_of_ble_eq_true rfl⟩) hK (nv_Papp.mp hP).1 (va_recv hK hP (ci := 8) (q0 := 0) rfl rfl) rfl hl.1 rfl (Nat.le_of_ble_eq_true rfl) d_law_762 (by show _ ≤ 601024; omega) (by show _ ≤ 7293034; omega)) (fun r9 hr9 => ?_)
  obtain ⟨z9, rfl, hz8⟩ := hr9
  have hz8 : z9 = k := hz8.trans hth
  rw [hz8]
  refine lv_iload hx hb d_law_765 (lv_at hl 1 rfl) ?_
  refine nv_icmp_eq (tgt := 772) hx hb d_law_767 (by decide) rk rk (fun _ => ?_) (fun h9 => absurd rfl h9)
  refine lv_iload hx hb d_law_772 (lv_at hl 1 rfl) ?_
  refine nv_if_ne (tgt := 789) hx hb d_law_774 (by decide) rk (fun _ => ?_) (fun hk0 => ?_)
  · refine lv_goto (tgt := 1338) hx hb d_law_789 (by decide) ?_
    exact kk f1 A1 C1 ((u0, MM.no, MM.ca, MM.ba, MM.nl, MM.xa, MM.sa, MM.da, MM.la, MM.ra, MM.fa, MM.ta, MM.ua, MM.uh, MM.uo, MM.ma, MM.mh, MM.ml, u4, u1, u2, u3, MM.rs, u5, MM.mn, MM.bh, MM.bo, MM.ya, MM.np, MM.pa, MM.nc, MM.cp) : MdC) H ls hA1 hh0 hRl hP hD hS (lv_sub hl [6, 5, 4, 3, 2] rfl)
  · obtain ⟨hz7, rz⟩ := hz9 hk0
    refine lv_aload_n hx hb d_law_777 rfl (lv_at hl 3 rfl) ?_
    refine nv_iconst (n := 0) hx hb d_law_778 ?_
    refine nv_lald (f := f1) hx hb hK 1 (hP 24 _ rfl) rfl 0 rfl (by decide) (by decide) d_law_779 ?_
    rw [hz7]
    refine lv_iload hx hb d_law_780 (lv_at hl 0 rfl) ?_
    refine nv_i2l hx hb d_law_782 rz ?_
    refine nv_lcmp_eq (tgt := 789) hx hb d_law_783 d_law_784 (by decide) ⟨by have := rz.1; omega, by have := rz.2; omega⟩ ⟨by have := rz.1; omega, by have := rz.2; omega⟩ (fun _ => ?_) (fun h9 => absurd rfl h9)
    refine lv_goto (tgt := 1338) hx hb d_law_789 (by decide) ?_
    exact kk f1 A1 C1 ((u0, MM.no, MM.ca, MM.ba, MM.nl, MM.xa, MM.sa, MM.da, MM.la, MM.ra, MM.fa, MM.ta, MM.ua, MM.uh, MM.uo, MM.ma, MM.mh, MM.ml, u4, u1, u2, u3, MM.rs, u5, MM.mn, MM.bh, MM.bo, MM.ya, MM.np, MM.pa, MM.nc, MM.cp) : MdC) H ls hA1 hh0 hRl hP hD hS (lv_sub hl [6, 5, 4, 3, 2] rfl)
def vl_sum (AA : LdA) (CC : LdC) (MM : MdC) (f : Nat → Int) (x1 x2 x3 : Int) (Rl : LdC → MdC → Prop) : Prop := ∃ Pw1, vw_sum AA CC f x1 x2 x3 Pw1 ∧ ∀ (k : Int) (f1 : Nat → Int) (C1 : LdC), Pw1 k f1 C1 → r32 k ∧ (∃ Pm3, vc_Md_sum MM.th MM.no MM.ca MM.ba MM.nl MM.xa MM.sa MM.da MM.la MM.ra MM.fa MM.ta MM.ua MM.uh MM.uo MM.ma MM.mh MM.ml MM.nf MM.fo MM.fh MM.fs MM.rs MM.ic MM.mn MM.bh MM.bo MM.ya MM.np MM.pa MM.nc MM.cp x1 x2 x3 Pm3 ∧ ∀ (z : Int) (u0 : Int) (u1 : Int), Pm3 z u0 u1 → u0 = k ∧ (k = 0 → f1 0 = z ∧ r32 z) ∧ Rl C1 ((u0, MM.no, MM.ca, MM.ba, MM.nl, MM.xa, MM.sa, MM.da, MM.la, MM.ra, MM.fa, MM.ta, MM.ua, MM.uh, MM.uo, MM.ma, MM.mh, MM.ml, MM.nf, MM.fo, MM.fh, MM.fs, u1, MM.ic, MM.mn, MM.bh, MM.bo, MM.ya, MM.np, MM.pa, MM.nc, MM.cp) : MdC))
set_option maxHeartbeats 4000000 in
set_option maxRecDepth 100000 in
theorem c_sum {p : Program} {l : Launch} {e : Env} {s : State} {m : MethodId} {below : List Frame} {meth : Method} {c : Code} {Q : State → Prop} {b L : Nat} {xs : Nat → Int32} {D : va_G} {cI cJ cO cZ : ClassId} {qd mi : Nat} (F9 : LwF p l s m meth c b L xs D cI cJ cO cZ qd mi) {o : Nat} {BB : MdA} {f : Nat → Int} {AA : LdA} {CC : LdC} {MM : MdC} {H : Heap} {ls : Array Slot} {i cells slots : Nat} {x1 x2 x3 : Int} (hAA : ldA qd AA CC) (hP : va_P D vwCl (wMdS cI cJ cZ BB MM ++ (cOut cJ o f :: LDW cI cJ cO AA CC)) H) (hD : va_D (fun q => s.heap.size ≤ q) (wMdS cI cJ cZ BB MM ++ (cOut cJ o f :: LDW cI cJ cO AA CC))) (hS : va_S (fun q => s.heap.size ≤ q) s.heap H []) (hl : lv_has ls 7 [(4, .int (iI (i : Int))), (3, .ref o), (2, .ref BB.a0), (1, .ref AA.h0), (0, .ref b)]) (hi : i + 3 < L) (hL : L ≤ 2048) (q1 : xs (i + 1) = iI x1) (q2 : xs (i + 2) = iI x2) (q3 : xs (i + 3) = iI x3) (r1 : r32 x1) (r2 : r32 x2) (r3 : r32 x3) (hc : cells + 12 ≤ 601024) (hsl : slots + 240 ≤ 7293034) (Rl : LdC → MdC → Prop) (v : vl_sum AA CC MM f x1 x2 x3 Rl)
    (kk : ∀ (f1 : Nat → Int) (A1 : LdA) (C1 : LdC) (M1 : MdC) (H : Heap) (ls : Array Slot), ldA qd A1 C1 → A1.h0 = AA.h0 → Rl C1 M1 → va_P D vwCl (wMdS cI cJ cZ BB M1 ++ (cOut cJ o f1 :: LDW cI cJ cO A1 C1)) H → va_D (fun q => s.heap.size ≤ q) (wMdS cI cJ cZ BB M1 ++ (cOut cJ o f1 :: LDW cI cJ cO A1 C1)) → va_S (fun q => s.heap.size ≤ q) s.heap H [] → lv_has ls 7 [(0, .ref b), (1, .ref AA.h0), (2, .ref BB.a0), (3, .ref o), (4, .int (iI (i : Int)))] → W p l e room_1 s m #[Value.ref b] below meth c H [] (cells + 12) (slots + 240) Q (F0 m 1338 ls [])) :
    W p l e room_1 s m #[Value.ref b] below meth c H [] cells slots Q (F0 m 792 ls []) := by
  obtain ⟨hx, hb, hml, hown, hts, hX, hbl, hK, hZ, hN, hfl⟩ := F9
  unfold vl_sum at v
  refine lv_aload_n hx hb d_law_792 rfl (lv_at hl 3 rfl) ?_
  refine lv_aload_n hx hb d_law_793 rfl (lv_at hl 4 rfl) ?_
  refine lv_iload hx hb d_law_794 (lv_at hl 0 rfl) ?_
  refine nv_iconst (n := 1) hx hb d_law_796 ?_
  refine nv_iadd (z := (i : Int) + 1) hx hb d_law_797 (by first | rfl | omega) ?_
  refine nv_sld hx hb hX hbl (Nat.not_le.mpr hbl) hS (x := x1) (i + 1) (by omega) (by omega) (by omega) q1 d_law_798 ?_
  refine lv_aload_n hx hb d_law_799 rfl (lv_at hl 4 rfl) ?_
  refine lv_iload hx hb d_law_800 (lv_at hl 0 rfl) ?_
  refine nv_iconst (n := 2) hx hb d_law_802 ?_
  refine nv_iadd (z := (i : Int) + 2) hx hb d_law_803 (by first | rfl | omega) ?_
  refine nv_sld hx hb hX hbl (Nat.not_le.mpr hbl) hS (x := x2) (i + 2) (by omega) (by omega) (by omega) q2 d_law_804 ?_
  refine lv_aload_n hx hb d_law_805 rfl (lv_at hl 4 rfl) ?_
  refine lv_iload hx hb d_law_806 (lv_at hl 0 rfl) ?_
  refine nv_iconst (n := 3) hx hb d_law_808 ?_
  refine nv_iadd (z := (i : Int) + 3) hx hb d_law_809 (by first | rfl | omega) ?_
  refine nv_sld hx hb hX hbl (Nat.not_le.mpr hbl) hS (x := x3) (i + 3) (by omega) (by omega) (by omega) q3 d_law_810 ?_
  refine lv_aload_n hx hb d_law_811 rfl (lv_at hl 1 rfl) ?_
  obtain ⟨Pw1, vw2, v⟩ := v
  have hPs := nv_Pperm hP List.perm_append_comm
  have hDs := nv_Dperm hD List.perm_append_comm
  have hPc := (nv_Papp.mp hPs).1
  have hDc := nv_Dleft hDs
  have hFc := nv_free hDs hS (fun q h => h)
  refine va_calli (nv_runSW (n := 5) (As := [.ref AA.h0, .int (iI x1), .int (iI x2), .int (iI x3), .ref o]) (rest := []) ⟨hx, hb, hml, hown, hts⟩ (w_sum l D cI cJ cO cZ qd mi s hZ hfl hN o f AA CC hAA H.size x1 x2 x3 Pw1 vw2) hts wd_614 wd_615 wd_0 wd_616 rfl rfl (by decide +kernel) ⟨Nat.le_of_ble_eq_true rfl, Nat.le_of_ble_eq_true rfl⟩ ⟨blWE, fun U hU hW => ⟨rfl, by rw [hU], by rw [hU]; exact hPc, va_K.moved hW.alike hK, hDc, (Ev.rf s).step (fun _ h => h) hS hU hW⟩⟩ rfl rfl hl.1 rfl (lv_room (Nat.le_of_ble_eq_true rfl)) d_law_812 ⟨by show _ ≤ 601024; omega, by show _ ≤ 7293034; omega⟩) hS (fun q _ h => hFc q h) hFc (fun r u t H1 locs ht hvm hw hB hz1 hk1 hS => ?_)
  obtain ⟨f1, C1⟩ := u
  obtain ⟨A1, hA1, hh0, hP1, hK1, hD1⟩ := hB
  rw [ht] at hP1
  obtain ⟨k, rfl, hw⟩ := hw
  obtain ⟨hP, hD⟩ := nv_join (w1 := (cOut cJ o f1 :: LDW cI cJ cO A1 C1)) hPs hDs hk1 hFc hP1 hD1
  generalize H1 = H at hP hS ⊢
  refine nv_forget hS (fun hS => ?_)
  replace hP := nv_Pperm hP List.perm_append_comm
  replace hD := nv_Dperm hD List.perm_append_comm
  obtain ⟨rk, v⟩ := v k f1 C1 hw
  refine lv_istore (lv' := [(5, .int (iI k)), (4, .int (iI (i : Int))), (3, .ref o), (2, .ref BB.a0), (1, .ref AA.h0), (0, .ref b)]) hx hb d_law_815 hl (by decide) rfl (fun ls hl => ?_)
  refine lv_aload_n hx hb d_law_817 rfl (lv_at hl 3 rfl) ?_
  refine lv_aload_n hx hb d_law_818 rfl (lv_at hl 5 rfl) ?_
  refine lv_iload hx hb d_law_819 (lv_at hl 1 rfl) ?_
  refine nv_iconst (n := 1) hx hb d_law_821 ?_
  refine nv_iadd (z := (i : Int) + 1) hx hb d_law_822 (by first | rfl | omega) ?_
  refine nv_sld hx hb hX hbl (Nat.not_le.mpr hbl) hS (x := x1) (i + 1) (by omega) (by omega) (by omega) q1 d_law_823 ?_
  refine lv_aload_n hx hb d_law_824 rfl (lv_at hl 5 rfl) ?_
  refine lv_iload hx hb d_law_825 (lv_at hl 1 rfl) ?_
  refine nv_iconst (n := 2) hx hb d_law_827 ?_
  refine nv_iadd (z := (i : Int) + 2) hx hb d_law_828 (by first | rfl | omega) ?_
  refine nv_sld hx hb hX hbl (Nat.not_le.mpr hbl) hS (x := x2) (i + 2) (by omega) (by omega) (by omega) q2 d_law_829 ?_
  refine lv_aload_n hx hb d_law_830 rfl (lv_at hl 5 rfl) ?_
  refine lv_iload hx hb d_law_831 (lv_at hl 1 rfl) ?_
  refine nv_iconst (n := 3) hx hb d_law_833 ?_
  refine nv_iadd (z := (i : Int) + 3) hx hb d_law_834 (by first | rfl | omega) ?_
  refine nv_sld hx hb hX hbl (Nat.not_le.mpr hbl) hS (x := x3) (i + 3) (by omega) (by omega) (by omega) q3 d_law_835 ?_
  obtain ⟨Pm3, vm4, v⟩ := v
  have hPc := (nv_Papp.mp hP).1
  have hDc := nv_Dleft hD
  have hFc := nv_free hD hS (fun q h => h)
  refine va_calli (va_runV (As := [.int (iI x1), .int (iI x2), .int (iI x3)]) (rest := []) ⟨hx, hb, hml, hown, hts⟩ (m_Md_sum l D cI cJ cO cZ BB.a0 BB.a1 BB.a2 BB.a3 BB.a4 BB.a5 BB.a6 BB.a7 BB.a8 BB.a9 BB.a10 BB.a11 BB.a12 BB.a13 BB.a14 BB.a15 BB.a16 BB.a17 BB.a18 BB.a19 BB.a20 BB.a21 BB.a22 BB.a23 H.size MM.th MM.no MM.ca MM.ba MM.nl MM.xa MM.sa MM.da MM.la MM.ra MM.fa MM.ta MM.ua MM.uh MM.uo MM.ma MM.mh MM.ml MM.nf MM.fo MM.fh MM.fs MM.rs MM.ic MM.mn MM.bh MM.bo MM.ya MM.np MM.pa MM.nc MM.cp x1 x2 x3 Pm3 vm4) (nv_cwV (n := 3) hts wd_867 wd_868 wd_869 wd_10 wd_870 (by decide +kernel) ⟨Nat.le_of_ble_eq_true rfl, Nat.le_of_ble_eq_true rfl⟩) ⟨blW, va_recv hK hPc (ci := 8) (q0 := 0) rfl rfl, fun U hU hW => ⟨rfl, by rw [hU], by rw [hU]; exact hPc, va_K.moved hW.alike hK, hDc.weaken (fun _ _ _ _ => trivial)⟩⟩ rfl rfl hl.1 rfl (lv_room (Nat.le_of_ble_eq_true rfl)) d_law_836 ⟨by show _ ≤ 601024; omega, by show _ ≤ 7293034; omega⟩) hS (fun q _ h => hFc q h) hFc (fun r u t H1 locs ht hvm hw hB hz1 hk1 hS => ?_)
  obtain ⟨u0, u1⟩ := u
  obtain ⟨hP1, hK1, hD1⟩ := hB
  rw [ht] at hP1
  obtain ⟨z, rfl, hw⟩ := hw
  obtain ⟨hP, hD⟩ := nv_join (w1 := wMdS cI cJ cZ BB ((u0, MM.no, MM.ca, MM.ba, MM.nl, MM.xa, MM.sa, MM.da, MM.la, MM.ra, MM.fa, MM.ta, MM.ua, MM.uh, MM.uo, MM.ma, MM.mh, MM.ml, MM.nf, MM.fo, MM.fh, MM.fs, u1, MM.ic, MM.mn, MM.bh, MM.bo, MM.ya, MM.np, MM.pa, MM.nc, MM.cp) : MdC)) hP hD hk1 hFc hP1 hD1
  generalize H1 = H at hP hS ⊢
  refine nv_forget hS (fun hS => ?_)
  replace v := v z u0 u1 hw
  obtain ⟨hth, hz9, hRl⟩ := v
  refine lv_istore (lv' := [(6, .int (iI z)), (5, .int (iI k)), (4, .int (iI (i : Int))), (3, .ref o), (2, .ref BB.a0), (1, .ref AA.h0), (0, .ref b)]) hx hb d_law_839 hl (by decide) rfl (fun ls hl => ?_)
  refine lv_aload_n hx hb d_law_841 rfl (lv_at hl 4 rfl) ?_
  refine vp_callSi (nv_runV (wc := wMdS cI cJ cZ BB ((u0, MM.no, MM.ca, MM.ba, MM.nl, MM.xa, MM.sa, MM.da, MM.la, MM.ra, MM.fa, MM.ta, MM.ua, MM.uh, MM.uo, MM.ma, MM.mh, MM.ml, MM.nf, MM.fo, MM.fh, MM.fs, u1, MM.ic, MM.mn, MM.bh, MM.bo, MM.ya, MM.np, MM.pa, MM.nc, MM.cp) : MdC)) (As := []) (rest := []) ⟨hx, hb, hml, hown, hts⟩ (m_Md_thrown l D cI cJ cO cZ BB.a0 BB.a1 BB.a2 BB.a3 BB.a4 BB.a5 BB.a6 BB.a7 BB.a8 BB.a9 BB.a10 BB.a11 BB.a12 BB.a13 BB.a14 BB.a15 BB.a16 BB.a17 BB.a18 BB.a19 BB.a20 BB.a21 BB.a22 BB.a23 u0 MM.no MM.ca MM.ba MM.nl MM.xa MM.sa MM.da MM.la MM.ra MM.fa MM.ta MM.ua MM.uh MM.uo MM.ma MM.mh MM.ml MM.nf MM.fo MM.fh MM.fs u1 MM.ic MM.mn MM.bh MM.bo MM.ya MM.np MM.pa MM.nc MM.cp (fun z => z = u0) (by unfold vc_Md_thrown; rfl)) (nv_cwV (n := 0) hts wd_801 wd_802 wd_803 wd_10 wd_804 (by decide +kernel) ⟨Nat.le_of_ble_eq_true rfl, Nat.le_of_ble_eq_true rfl⟩) hK (nv_Papp.mp hP).1 (va_recv hK hP (ci := 8) (q0 := 0) rfl rfl) rfl hl.1 rfl (Nat.le_of_ble_eq_true rfl) d_law_842 (by show _ ≤ 601024; omega) (by show _ ≤ 7293034; omega)) (fun r9 hr9 => ?_)
  obtain ⟨z9, rfl, hz8⟩ := hr9
  have hz8 : z9 = k := hz8.trans hth
  rw [hz8]
  refine lv_iload hx hb d_law_845 (lv_at hl 1 rfl) ?_
  refine nv_icmp_eq (tgt := 852) hx hb d_law_847 (by decide) rk rk (fun _ => ?_) (fun h9 => absurd rfl h9)
  refine lv_iload hx hb d_law_852 (lv_at hl 1 rfl) ?_
  refine nv_if_ne (tgt := 869) hx hb d_law_854 (by decide) rk (fun _ => ?_) (fun hk0 => ?_)
  · refine lv_goto (tgt := 1338) hx hb d_law_869 (by decide) ?_
    exact kk f1 A1 C1 ((u0, MM.no, MM.ca, MM.ba, MM.nl, MM.xa, MM.sa, MM.da, MM.la, MM.ra, MM.fa, MM.ta, MM.ua, MM.uh, MM.uo, MM.ma, MM.mh, MM.ml, MM.nf, MM.fo, MM.fh, MM.fs, u1, MM.ic, MM.mn, MM.bh, MM.bo, MM.ya, MM.np, MM.pa, MM.nc, MM.cp) : MdC) H ls hA1 hh0 hRl hP hD hS (lv_sub hl [6, 5, 4, 3, 2] rfl)
  · obtain ⟨hz7, rz⟩ := hz9 hk0
    refine lv_aload_n hx hb d_law_857 rfl (lv_at hl 3 rfl) ?_
    refine nv_iconst (n := 0) hx hb d_law_858 ?_
    refine nv_lald (f := f1) hx hb hK 1 (hP 24 _ rfl) rfl 0 rfl (by decide) (by decide) d_law_859 ?_
    rw [hz7]
    refine lv_iload hx hb d_law_860 (lv_at hl 0 rfl) ?_
    refine nv_i2l hx hb d_law_862 rz ?_
    refine nv_lcmp_eq (tgt := 869) hx hb d_law_863 d_law_864 (by decide) ⟨by have := rz.1; omega, by have := rz.2; omega⟩ ⟨by have := rz.1; omega, by have := rz.2; omega⟩ (fun _ => ?_) (fun h9 => absurd rfl h9)
    refine lv_goto (tgt := 1338) hx hb d_law_869 (by decide) ?_
    exact kk f1 A1 C1 ((u0, MM.no, MM.ca, MM.ba, MM.nl, MM.xa, MM.sa, MM.da, MM.la, MM.ra, MM.fa, MM.ta, MM.ua, MM.uh, MM.uo, MM.ma, MM.mh, MM.ml, MM.nf, MM.fo, MM.fh, MM.fs, u1, MM.ic, MM.mn, MM.bh, MM.bo, MM.ya, MM.np, MM.pa, MM.nc, MM.cp) : MdC) H ls hA1 hh0 hRl hP hD hS (lv_sub hl [6, 5, 4, 3, 2] rfl)
def vl_rest (AA : LdA) (CC : LdC) (MM : MdC) (f : Nat → Int) (x1 x2 x3 : Int) (Rl : LdC → MdC → Prop) : Prop := ∃ Pm1, vc_Md_rest MM.th MM.no MM.ca MM.ba MM.nl MM.xa MM.sa MM.da MM.la MM.ra MM.fa MM.ta MM.ua MM.uh MM.uo MM.ma MM.mh MM.ml MM.nf MM.fo MM.fh MM.fs MM.rs MM.ic MM.mn MM.bh MM.bo MM.ya MM.np MM.pa MM.nc MM.cp  Pm1 ∧ ∀ (z : Int) (u0 : Int), Pm1 z u0 → CC.po = z ∧ r32 CC.po ∧ Rl CC ((u0, MM.no, MM.ca, MM.ba, MM.nl, MM.xa, MM.sa, MM.da, MM.la, MM.ra, MM.fa, MM.ta, MM.ua, MM.uh, MM.uo, MM.ma, MM.mh, MM.ml, MM.nf, MM.fo, MM.fh, MM.fs, MM.rs, MM.ic, MM.mn, MM.bh, MM.bo, MM.ya, MM.np, MM.pa, MM.nc, MM.cp) : MdC)
set_option maxHeartbeats 4000000 in
set_option maxRecDepth 100000 in
theorem c_rest {p : Program} {l : Launch} {e : Env} {s : State} {m : MethodId} {below : List Frame} {meth : Method} {c : Code} {Q : State → Prop} {b L : Nat} {xs : Nat → Int32} {D : va_G} {cI cJ cO cZ : ClassId} {qd mi : Nat} (F9 : LwF p l s m meth c b L xs D cI cJ cO cZ qd mi) {o : Nat} {BB : MdA} {f : Nat → Int} {AA : LdA} {CC : LdC} {MM : MdC} {H : Heap} {ls : Array Slot} {i cells slots : Nat} {x1 x2 x3 : Int} (hAA : ldA qd AA CC) (hP : va_P D vwCl (wMdS cI cJ cZ BB MM ++ (cOut cJ o f :: LDW cI cJ cO AA CC)) H) (hD : va_D (fun q => s.heap.size ≤ q) (wMdS cI cJ cZ BB MM ++ (cOut cJ o f :: LDW cI cJ cO AA CC))) (hS : va_S (fun q => s.heap.size ≤ q) s.heap H []) (hl : lv_has ls 7 [(4, .int (iI (i : Int))), (3, .ref o), (2, .ref BB.a0), (1, .ref AA.h0), (0, .ref b)]) (hi : i + 3 < L) (hL : L ≤ 2048) (q1 : xs (i + 1) = iI x1) (q2 : xs (i + 2) = iI x2) (q3 : xs (i + 3) = iI x3) (r1 : r32 x1) (r2 : r32 x2) (r3 : r32 x3) (hc : cells + 12 ≤ 601024) (hsl : slots + 240 ≤ 7293034) (Rl : LdC → MdC → Prop) (v : vl_rest AA CC MM f x1 x2 x3 Rl)
    (kk : ∀ (f1 : Nat → Int) (A1 : LdA) (C1 : LdC) (M1 : MdC) (H : Heap) (ls : Array Slot), ldA qd A1 C1 → A1.h0 = AA.h0 → Rl C1 M1 → va_P D vwCl (wMdS cI cJ cZ BB M1 ++ (cOut cJ o f1 :: LDW cI cJ cO A1 C1)) H → va_D (fun q => s.heap.size ≤ q) (wMdS cI cJ cZ BB M1 ++ (cOut cJ o f1 :: LDW cI cJ cO A1 C1)) → va_S (fun q => s.heap.size ≤ q) s.heap H [] → lv_has ls 7 [(0, .ref b), (1, .ref AA.h0), (2, .ref BB.a0), (3, .ref o), (4, .int (iI (i : Int)))] → W p l e room_1 s m #[Value.ref b] below meth c H [] (cells + 12) (slots + 240) Q (F0 m 1338 ls [])) :
    W p l e room_1 s m #[Value.ref b] below meth c H [] cells slots Q (F0 m 872 ls []) := by
  obtain ⟨hx, hb, hml, hown, hts, hX, hbl, hK, hZ, hN, hfl⟩ := F9
  unfold vl_rest at v
  refine lv_aload_n hx hb d_law_872 rfl (lv_at hl 3 rfl) ?_
  have hPl : va_P D vwCl [(AA.h0, .inr (7, [.ref AA.x1, .ref AA.y1, .ref AA.al, .ref AA.dy, .ref AA.fl, .ref AA.br, .ref AA.bk, .int (iI CC.fr), .int (iI CC.po)]))] H := nv_one (hP 25 _ rfl)
  refine vp_callSi (nv_runV (wc := [(AA.h0, .inr (7, [.ref AA.x1, .ref AA.y1, .ref AA.al, .ref AA.dy, .ref AA.fl, .ref AA.br, .ref AA.bk, .int (iI CC.fr), .int (iI CC.po)]))]) (As := []) (rest := []) ⟨hx, hb, hml, hown, hts⟩ (m_LD_rest l D cI cJ cO cZ AA.h0 AA.x1 AA.y1 AA.al AA.dy AA.fl AA.br AA.bk CC.fr CC.po (fun z => z = CC.po) (by unfold vc_LD_rest; rfl)) (nv_cwV (n := 0) hts wd_167 wd_168 wd_169 wd_1 wd_170 (by decide +kernel) ⟨Nat.le_of_ble_eq_true rfl, Nat.le_of_ble_eq_true rfl⟩) hK hPl (va_recv hK hPl (ci := 7) (q0 := 0) rfl rfl) rfl hl.1 rfl (Nat.le_of_ble_eq_true rfl) d_law_873 (by show _ ≤ 601024; omega) (by show _ ≤ 7293034; omega)) (fun r9 hr9 => ?_)
  obtain ⟨k, rfl, rfl⟩ := hr9
  refine lv_aload_n hx hb d_law_876 rfl (lv_at hl 2 rfl) ?_
  obtain ⟨Pm1, vm2, v⟩ := v
  have hPc := (nv_Papp.mp hP).1
  have hDc := nv_Dleft hD
  have hFc := nv_free hD hS (fun q h => h)
  refine va_calli (va_runV (As := []) (rest := [.int (iI CC.po)]) ⟨hx, hb, hml, hown, hts⟩ (m_Md_rest l D cI cJ cO cZ BB.a0 BB.a1 BB.a2 BB.a3 BB.a4 BB.a5 BB.a6 BB.a7 BB.a8 BB.a9 BB.a10 BB.a11 BB.a12 BB.a13 BB.a14 BB.a15 BB.a16 BB.a17 BB.a18 BB.a19 BB.a20 BB.a21 BB.a22 BB.a23 H.size MM.th MM.no MM.ca MM.ba MM.nl MM.xa MM.sa MM.da MM.la MM.ra MM.fa MM.ta MM.ua MM.uh MM.uo MM.ma MM.mh MM.ml MM.nf MM.fo MM.fh MM.fs MM.rs MM.ic MM.mn MM.bh MM.bo MM.ya MM.np MM.pa MM.nc MM.cp  Pm1 vm2) (nv_cwV (n := 0) hts wd_890 wd_891 wd_892 wd_10 wd_893 (by decide +kernel) ⟨Nat.le_of_ble_eq_true rfl, Nat.le_of_ble_eq_true rfl⟩) ⟨blW, va_recv hK hPc (ci := 8) (q0 := 0) rfl rfl, fun U hU hW => ⟨rfl, by rw [hU], by rw [hU]; exact hPc, va_K.moved hW.alike hK, hDc.weaken (fun _ _ _ _ => trivial)⟩⟩ rfl rfl hl.1 rfl (lv_room (Nat.le_of_ble_eq_true rfl)) d_law_877 ⟨by show _ ≤ 601024; omega, by show _ ≤ 7293034; omega⟩) hS (fun q _ h => hFc q h) hFc (fun r u t H1 locs ht hvm hw hB hz1 hk1 hS => ?_)
  obtain ⟨u0, rfl⟩ : ∃ z, z = u := ⟨_, rfl⟩
  obtain ⟨hP1, hK1, hD1⟩ := hB
  rw [ht] at hP1
  obtain ⟨z, rfl, hw⟩ := hw
  obtain ⟨hP, hD⟩ := nv_join (w1 := wMdS cI cJ cZ BB ((u0, MM.no, MM.ca, MM.ba, MM.nl, MM.xa, MM.sa, MM.da, MM.la, MM.ra, MM.fa, MM.ta, MM.ua, MM.uh, MM.uo, MM.ma, MM.mh, MM.ml, MM.nf, MM.fo, MM.fh, MM.fs, MM.rs, MM.ic, MM.mn, MM.bh, MM.bo, MM.ya, MM.np, MM.pa, MM.nc, MM.cp) : MdC)) hP hD hk1 hFc hP1 hD1
  generalize H1 = H at hP hS ⊢
  refine nv_forget hS (fun hS => ?_)
  replace v := v z u0 hw
  obtain ⟨hz, rz, hRl⟩ := v
  rw [← hz]
  refine W.widen (k := cells + 12) (n := slots + 240) (by omega) (by omega) ?_
  refine nv_icmp_eq (tgt := 1338) hx hb d_law_880 (by decide) rz rz (fun _ => ?_) (fun h9 => absurd rfl h9)
  exact kk f AA CC ((u0, MM.no, MM.ca, MM.ba, MM.nl, MM.xa, MM.sa, MM.da, MM.la, MM.ra, MM.fa, MM.ta, MM.ua, MM.uh, MM.uo, MM.ma, MM.mh, MM.ml, MM.nf, MM.fo, MM.fh, MM.fs, MM.rs, MM.ic, MM.mn, MM.bh, MM.bo, MM.ya, MM.np, MM.pa, MM.nc, MM.cp) : MdC) H ls hAA rfl hRl hP hD hS (lv_sub hl [4, 3, 2, 1, 0] rfl)
def vl_left (AA : LdA) (CC : LdC) (MM : MdC) (f : Nat → Int) (x1 x2 x3 : Int) (Rl : LdC → MdC → Prop) : Prop := ∃ Pw1, vw_left AA CC f x1 x2 Pw1 ∧ ∀ (k : Int) (f1 : Nat → Int) (C1 : LdC), Pw1 k f1 C1 → r32 k ∧ (∃ Pm3, vc_Md_left MM.th MM.no MM.ca MM.ba MM.nl MM.xa MM.sa MM.da MM.la MM.ra MM.fa MM.ta MM.ua MM.uh MM.uo MM.ma MM.mh MM.ml MM.nf MM.fo MM.fh MM.fs MM.rs MM.ic MM.mn MM.bh MM.bo MM.ya MM.np MM.pa MM.nc MM.cp x1 x2 Pm3 ∧ ∀ (z : Int) (u0 : Int), Pm3 z u0 → u0 = k ∧ (k = 0 → f1 0 = z ∧ r32 z) ∧ Rl C1 ((u0, MM.no, MM.ca, MM.ba, MM.nl, MM.xa, MM.sa, MM.da, MM.la, MM.ra, MM.fa, MM.ta, MM.ua, MM.uh, MM.uo, MM.ma, MM.mh, MM.ml, MM.nf, MM.fo, MM.fh, MM.fs, MM.rs, MM.ic, MM.mn, MM.bh, MM.bo, MM.ya, MM.np, MM.pa, MM.nc, MM.cp) : MdC))
set_option maxHeartbeats 4000000 in
set_option maxRecDepth 100000 in
theorem c_left {p : Program} {l : Launch} {e : Env} {s : State} {m : MethodId} {below : List Frame} {meth : Method} {c : Code} {Q : State → Prop} {b L : Nat} {xs : Nat → Int32} {D : va_G} {cI cJ cO cZ : ClassId} {qd mi : Nat} (F9 : LwF p l s m meth c b L xs D cI cJ cO cZ qd mi) {o : Nat} {BB : MdA} {f : Nat → Int} {AA : LdA} {CC : LdC} {MM : MdC} {H : Heap} {ls : Array Slot} {i cells slots : Nat} {x1 x2 x3 : Int} (hAA : ldA qd AA CC) (hP : va_P D vwCl (wMdS cI cJ cZ BB MM ++ (cOut cJ o f :: LDW cI cJ cO AA CC)) H) (hD : va_D (fun q => s.heap.size ≤ q) (wMdS cI cJ cZ BB MM ++ (cOut cJ o f :: LDW cI cJ cO AA CC))) (hS : va_S (fun q => s.heap.size ≤ q) s.heap H []) (hl : lv_has ls 7 [(4, .int (iI (i : Int))), (3, .ref o), (2, .ref BB.a0), (1, .ref AA.h0), (0, .ref b)]) (hi : i + 3 < L) (hL : L ≤ 2048) (q1 : xs (i + 1) = iI x1) (q2 : xs (i + 2) = iI x2) (q3 : xs (i + 3) = iI x3) (r1 : r32 x1) (r2 : r32 x2) (r3 : r32 x3) (hc : cells + 12 ≤ 601024) (hsl : slots + 240 ≤ 7293034) (Rl : LdC → MdC → Prop) (v : vl_left AA CC MM f x1 x2 x3 Rl)
    (kk : ∀ (f1 : Nat → Int) (A1 : LdA) (C1 : LdC) (M1 : MdC) (H : Heap) (ls : Array Slot), ldA qd A1 C1 → A1.h0 = AA.h0 → Rl C1 M1 → va_P D vwCl (wMdS cI cJ cZ BB M1 ++ (cOut cJ o f1 :: LDW cI cJ cO A1 C1)) H → va_D (fun q => s.heap.size ≤ q) (wMdS cI cJ cZ BB M1 ++ (cOut cJ o f1 :: LDW cI cJ cO A1 C1)) → va_S (fun q => s.heap.size ≤ q) s.heap H [] → lv_has ls 7 [(0, .ref b), (1, .ref AA.h0), (2, .ref BB.a0), (3, .ref o), (4, .int (iI (i : Int)))] → W p l e room_1 s m #[Value.ref b] below meth c H [] (cells + 12) (slots + 240) Q (F0 m 1338 ls [])) :
    W p l e room_1 s m #[Value.ref b] below meth c H [] cells slots Q (F0 m 885 ls []) := by
  obtain ⟨hx, hb, hml, hown, hts, hX, hbl, hK, hZ, hN, hfl⟩ := F9
  unfold vl_left at v
  refine lv_aload_n hx hb d_law_885 rfl (lv_at hl 3 rfl) ?_
  refine lv_aload_n hx hb d_law_886 rfl (lv_at hl 4 rfl) ?_
  refine lv_iload hx hb d_law_887 (lv_at hl 0 rfl) ?_
  refine nv_iconst (n := 1) hx hb d_law_889 ?_
  refine nv_iadd (z := (i : Int) + 1) hx hb d_law_890 (by first | rfl | omega) ?_
  refine nv_sld hx hb hX hbl (Nat.not_le.mpr hbl) hS (x := x1) (i + 1) (by omega) (by omega) (by omega) q1 d_law_891 ?_
  refine lv_aload_n hx hb d_law_892 rfl (lv_at hl 4 rfl) ?_
  refine lv_iload hx hb d_law_893 (lv_at hl 0 rfl) ?_
  refine nv_iconst (n := 2) hx hb d_law_895 ?_
  refine nv_iadd (z := (i : Int) + 2) hx hb d_law_896 (by first | rfl | omega) ?_
  refine nv_sld hx hb hX hbl (Nat.not_le.mpr hbl) hS (x := x2) (i + 2) (by omega) (by omega) (by omega) q2 d_law_897 ?_
  refine lv_aload_n hx hb d_law_898 rfl (lv_at hl 1 rfl) ?_
  obtain ⟨Pw1, vw2, v⟩ := v
  have hPs := nv_Pperm hP List.perm_append_comm
  have hDs := nv_Dperm hD List.perm_append_comm
  have hPc := (nv_Papp.mp hPs).1
  have hDc := nv_Dleft hDs
  have hFc := nv_free hDs hS (fun q h => h)
  refine va_calli (nv_runSW (n := 4) (As := [.ref AA.h0, .int (iI x1), .int (iI x2), .ref o]) (rest := []) ⟨hx, hb, hml, hown, hts⟩ (w_left l D cI cJ cO cZ qd mi s hZ hfl hN o f AA CC hAA H.size x1 x2 Pw1 vw2) hts wd_621 wd_622 wd_0 wd_623 rfl rfl (by decide +kernel) ⟨Nat.le_of_ble_eq_true rfl, Nat.le_of_ble_eq_true rfl⟩ ⟨blWE, fun U hU hW => ⟨rfl, by rw [hU], by rw [hU]; exact hPc, va_K.moved hW.alike hK, hDc, (Ev.rf s).step (fun _ h => h) hS hU hW⟩⟩ rfl rfl hl.1 rfl (lv_room (Nat.le_of_ble_eq_true rfl)) d_law_899 ⟨by show _ ≤ 601024; omega, by show _ ≤ 7293034; omega⟩) hS (fun q _ h => hFc q h) hFc (fun r u t H1 locs ht hvm hw hB hz1 hk1 hS => ?_)
  obtain ⟨f1, C1⟩ := u
  obtain ⟨A1, hA1, hh0, hP1, hK1, hD1⟩ := hB
  rw [ht] at hP1
  obtain ⟨k, rfl, hw⟩ := hw
  obtain ⟨hP, hD⟩ := nv_join (w1 := (cOut cJ o f1 :: LDW cI cJ cO A1 C1)) hPs hDs hk1 hFc hP1 hD1
  generalize H1 = H at hP hS ⊢
  refine nv_forget hS (fun hS => ?_)
  replace hP := nv_Pperm hP List.perm_append_comm
  replace hD := nv_Dperm hD List.perm_append_comm
  obtain ⟨rk, v⟩ := v k f1 C1 hw
  refine lv_istore (lv' := [(5, .int (iI k)), (4, .int (iI (i : Int))), (3, .ref o), (2, .ref BB.a0), (1, .ref AA.h0), (0, .ref b)]) hx hb d_law_902 hl (by decide) rfl (fun ls hl => ?_)
  refine lv_aload_n hx hb d_law_904 rfl (lv_at hl 3 rfl) ?_
  refine lv_aload_n hx hb d_law_905 rfl (lv_at hl 5 rfl) ?_
  refine lv_iload hx hb d_law_906 (lv_at hl 1 rfl) ?_
  refine nv_iconst (n := 1) hx hb d_law_908 ?_
  refine nv_iadd (z := (i : Int) + 1) hx hb d_law_909 (by first | rfl | omega) ?_
  refine nv_sld hx hb hX hbl (Nat.not_le.mpr hbl) hS (x := x1) (i + 1) (by omega) (by omega) (by omega) q1 d_law_910 ?_
  refine lv_aload_n hx hb d_law_911 rfl (lv_at hl 5 rfl) ?_
  refine lv_iload hx hb d_law_912 (lv_at hl 1 rfl) ?_
  refine nv_iconst (n := 2) hx hb d_law_914 ?_
  refine nv_iadd (z := (i : Int) + 2) hx hb d_law_915 (by first | rfl | omega) ?_
  refine nv_sld hx hb hX hbl (Nat.not_le.mpr hbl) hS (x := x2) (i + 2) (by omega) (by omega) (by omega) q2 d_law_916 ?_
  obtain ⟨Pm3, vm4, v⟩ := v
  have hPc := (nv_Papp.mp hP).1
  have hDc := nv_Dleft hD
  have hFc := nv_free hD hS (fun q h => h)
  refine va_calli (va_runV (As := [.int (iI x1), .int (iI x2)]) (rest := []) ⟨hx, hb, hml, hown, hts⟩ (m_Md_left l D cI cJ cO cZ BB.a0 BB.a1 BB.a2 BB.a3 BB.a4 BB.a5 BB.a6 BB.a7 BB.a8 BB.a9 BB.a10 BB.a11 BB.a12 BB.a13 BB.a14 BB.a15 BB.a16 BB.a17 BB.a18 BB.a19 BB.a20 BB.a21 BB.a22 BB.a23 H.size MM.th MM.no MM.ca MM.ba MM.nl MM.xa MM.sa MM.da MM.la MM.ra MM.fa MM.ta MM.ua MM.uh MM.uo MM.ma MM.mh MM.ml MM.nf MM.fo MM.fh MM.fs MM.rs MM.ic MM.mn MM.bh MM.bo MM.ya MM.np MM.pa MM.nc MM.cp x1 x2 Pm3 vm4) (nv_cwV (n := 2) hts wd_894 wd_895 wd_896 wd_10 wd_897 (by decide +kernel) ⟨Nat.le_of_ble_eq_true rfl, Nat.le_of_ble_eq_true rfl⟩) ⟨blW, va_recv hK hPc (ci := 8) (q0 := 0) rfl rfl, fun U hU hW => ⟨rfl, by rw [hU], by rw [hU]; exact hPc, va_K.moved hW.alike hK, hDc.weaken (fun _ _ _ _ => trivial)⟩⟩ rfl rfl hl.1 rfl (lv_room (Nat.le_of_ble_eq_true rfl)) d_law_917 ⟨by show _ ≤ 601024; omega, by show _ ≤ 7293034; omega⟩) hS (fun q _ h => hFc q h) hFc (fun r u t H1 locs ht hvm hw hB hz1 hk1 hS => ?_)
  obtain ⟨u0, rfl⟩ : ∃ z, z = u := ⟨_, rfl⟩
  obtain ⟨hP1, hK1, hD1⟩ := hB
  rw [ht] at hP1
  obtain ⟨z, rfl, hw⟩ := hw
  obtain ⟨hP, hD⟩ := nv_join (w1 := wMdS cI cJ cZ BB ((u0, MM.no, MM.ca, MM.ba, MM.nl, MM.xa, MM.sa, MM.da, MM.la, MM.ra, MM.fa, MM.ta, MM.ua, MM.uh, MM.uo, MM.ma, MM.mh, MM.ml, MM.nf, MM.fo, MM.fh, MM.fs, MM.rs, MM.ic, MM.mn, MM.bh, MM.bo, MM.ya, MM.np, MM.pa, MM.nc, MM.cp) : MdC)) hP hD hk1 hFc hP1 hD1
  generalize H1 = H at hP hS ⊢
  refine nv_forget hS (fun hS => ?_)
  replace v := v z u0 hw
  obtain ⟨hth, hz9, hRl⟩ := v
  refine lv_istore (lv' := [(6, .int (iI z)), (5, .int (iI k)), (4, .int (iI (i : Int))), (3, .ref o), (2, .ref BB.a0), (1, .ref AA.h0), (0, .ref b)]) hx hb d_law_920 hl (by decide) rfl (fun ls hl => ?_)
  refine lv_aload_n hx hb d_law_922 rfl (lv_at hl 4 rfl) ?_
  refine vp_callSi (nv_runV (wc := wMdS cI cJ cZ BB ((u0, MM.no, MM.ca, MM.ba, MM.nl, MM.xa, MM.sa, MM.da, MM.la, MM.ra, MM.fa, MM.ta, MM.ua, MM.uh, MM.uo, MM.ma, MM.mh, MM.ml, MM.nf, MM.fo, MM.fh, MM.fs, MM.rs, MM.ic, MM.mn, MM.bh, MM.bo, MM.ya, MM.np, MM.pa, MM.nc, MM.cp) : MdC)) (As := []) (rest := []) ⟨hx, hb, hml, hown, hts⟩ (m_Md_thrown l D cI cJ cO cZ BB.a0 BB.a1 BB.a2 BB.a3 BB.a4 BB.a5 BB.a6 BB.a7 BB.a8 BB.a9 BB.a10 BB.a11 BB.a12 BB.a13 BB.a14 BB.a15 BB.a16 BB.a17 BB.a18 BB.a19 BB.a20 BB.a21 BB.a22 BB.a23 u0 MM.no MM.ca MM.ba MM.nl MM.xa MM.sa MM.da MM.la MM.ra MM.fa MM.ta MM.ua MM.uh MM.uo MM.ma MM.mh MM.ml MM.nf MM.fo MM.fh MM.fs MM.rs MM.ic MM.mn MM.bh MM.bo MM.ya MM.np MM.pa MM.nc MM.cp (fun z => z = u0) (by unfold vc_Md_thrown; rfl)) (nv_cwV (n := 0) hts wd_801 wd_802 wd_803 wd_10 wd_804 (by decide +kernel) ⟨Nat.le_of_ble_eq_true rfl, Nat.le_of_ble_eq_true rfl⟩) hK (nv_Papp.mp hP).1 (va_recv hK hP (ci := 8) (q0 := 0) rfl rfl) rfl hl.1 rfl (Nat.le_of_ble_eq_true rfl) d_law_923 (by show _ ≤ 601024; omega) (by show _ ≤ 7293034; omega)) (fun r9 hr9 => ?_)
  obtain ⟨z9, rfl, hz8⟩ := hr9
  have hz8 : z9 = k := hz8.trans hth
  rw [hz8]
  refine lv_iload hx hb d_law_926 (lv_at hl 1 rfl) ?_
  refine nv_icmp_eq (tgt := 933) hx hb d_law_928 (by decide) rk rk (fun _ => ?_) (fun h9 => absurd rfl h9)
  refine lv_iload hx hb d_law_933 (lv_at hl 1 rfl) ?_
  refine nv_if_ne (tgt := 950) hx hb d_law_935 (by decide) rk (fun _ => ?_) (fun hk0 => ?_)
  · refine lv_goto (tgt := 1338) hx hb d_law_950 (by decide) ?_
    exact kk f1 A1 C1 ((u0, MM.no, MM.ca, MM.ba, MM.nl, MM.xa, MM.sa, MM.da, MM.la, MM.ra, MM.fa, MM.ta, MM.ua, MM.uh, MM.uo, MM.ma, MM.mh, MM.ml, MM.nf, MM.fo, MM.fh, MM.fs, MM.rs, MM.ic, MM.mn, MM.bh, MM.bo, MM.ya, MM.np, MM.pa, MM.nc, MM.cp) : MdC) H ls hA1 hh0 hRl hP hD hS (lv_sub hl [6, 5, 4, 3, 2] rfl)
  · obtain ⟨hz7, rz⟩ := hz9 hk0
    refine lv_aload_n hx hb d_law_938 rfl (lv_at hl 3 rfl) ?_
    refine nv_iconst (n := 0) hx hb d_law_939 ?_
    refine nv_lald (f := f1) hx hb hK 1 (hP 24 _ rfl) rfl 0 rfl (by decide) (by decide) d_law_940 ?_
    rw [hz7]
    refine lv_iload hx hb d_law_941 (lv_at hl 0 rfl) ?_
    refine nv_i2l hx hb d_law_943 rz ?_
    refine nv_lcmp_eq (tgt := 950) hx hb d_law_944 d_law_945 (by decide) ⟨by have := rz.1; omega, by have := rz.2; omega⟩ ⟨by have := rz.1; omega, by have := rz.2; omega⟩ (fun _ => ?_) (fun h9 => absurd rfl h9)
    refine lv_goto (tgt := 1338) hx hb d_law_950 (by decide) ?_
    exact kk f1 A1 C1 ((u0, MM.no, MM.ca, MM.ba, MM.nl, MM.xa, MM.sa, MM.da, MM.la, MM.ra, MM.fa, MM.ta, MM.ua, MM.uh, MM.uo, MM.ma, MM.mh, MM.ml, MM.nf, MM.fo, MM.fh, MM.fs, MM.rs, MM.ic, MM.mn, MM.bh, MM.bo, MM.ya, MM.np, MM.pa, MM.nc, MM.cp) : MdC) H ls hA1 hh0 hRl hP hD hS (lv_sub hl [6, 5, 4, 3, 2] rfl)
def vl_plan (AA : LdA) (CC : LdC) (MM : MdC) (f : Nat → Int) (x1 x2 x3 : Int) (Rl : LdC → MdC → Prop) : Prop := ∃ Pw1, vw_plan AA CC f x1 x2 x3 Pw1 ∧ ∀ (k : Int) (f1 : Nat → Int) (C1 : LdC), Pw1 k f1 C1 → r32 k ∧ (∃ Pm3, vc_Md_plan MM.th MM.no MM.ca MM.ba MM.nl MM.xa MM.sa MM.da MM.la MM.ra MM.fa MM.ta MM.ua MM.uh MM.uo MM.ma MM.mh MM.ml MM.nf MM.fo MM.fh MM.fs MM.rs MM.ic MM.mn MM.bh MM.bo MM.ya MM.np MM.pa MM.nc MM.cp x1 x2 x3 Pm3 ∧ ∀ (z : Int) (u0 : Int) (u1 : Nat → Int), Pm3 z u0 u1 → u0 = k ∧ (k = 0 → f1 0 = z ∧ r32 z) ∧ Rl C1 ((u0, MM.no, MM.ca, MM.ba, MM.nl, MM.xa, MM.sa, MM.da, MM.la, MM.ra, MM.fa, MM.ta, MM.ua, MM.uh, MM.uo, MM.ma, MM.mh, MM.ml, MM.nf, MM.fo, MM.fh, MM.fs, MM.rs, MM.ic, MM.mn, MM.bh, MM.bo, u1, MM.np, MM.pa, MM.nc, MM.cp) : MdC))
set_option maxHeartbeats 4000000 in
set_option maxRecDepth 100000 in
theorem c_plan {p : Program} {l : Launch} {e : Env} {s : State} {m : MethodId} {below : List Frame} {meth : Method} {c : Code} {Q : State → Prop} {b L : Nat} {xs : Nat → Int32} {D : va_G} {cI cJ cO cZ : ClassId} {qd mi : Nat} (F9 : LwF p l s m meth c b L xs D cI cJ cO cZ qd mi) {o : Nat} {BB : MdA} {f : Nat → Int} {AA : LdA} {CC : LdC} {MM : MdC} {H : Heap} {ls : Array Slot} {i cells slots : Nat} {x1 x2 x3 : Int} (hAA : ldA qd AA CC) (hP : va_P D vwCl (wMdS cI cJ cZ BB MM ++ (cOut cJ o f :: LDW cI cJ cO AA CC)) H) (hD : va_D (fun q => s.heap.size ≤ q) (wMdS cI cJ cZ BB MM ++ (cOut cJ o f :: LDW cI cJ cO AA CC))) (hS : va_S (fun q => s.heap.size ≤ q) s.heap H []) (hl : lv_has ls 7 [(4, .int (iI (i : Int))), (3, .ref o), (2, .ref BB.a0), (1, .ref AA.h0), (0, .ref b)]) (hi : i + 3 < L) (hL : L ≤ 2048) (q1 : xs (i + 1) = iI x1) (q2 : xs (i + 2) = iI x2) (q3 : xs (i + 3) = iI x3) (r1 : r32 x1) (r2 : r32 x2) (r3 : r32 x3) (hc : cells + 12 ≤ 601024) (hsl : slots + 240 ≤ 7293034) (Rl : LdC → MdC → Prop) (v : vl_plan AA CC MM f x1 x2 x3 Rl)
    (kk : ∀ (f1 : Nat → Int) (A1 : LdA) (C1 : LdC) (M1 : MdC) (H : Heap) (ls : Array Slot), ldA qd A1 C1 → A1.h0 = AA.h0 → Rl C1 M1 → va_P D vwCl (wMdS cI cJ cZ BB M1 ++ (cOut cJ o f1 :: LDW cI cJ cO A1 C1)) H → va_D (fun q => s.heap.size ≤ q) (wMdS cI cJ cZ BB M1 ++ (cOut cJ o f1 :: LDW cI cJ cO A1 C1)) → va_S (fun q => s.heap.size ≤ q) s.heap H [] → lv_has ls 7 [(0, .ref b), (1, .ref AA.h0), (2, .ref BB.a0), (3, .ref o), (4, .int (iI (i : Int)))] → W p l e room_1 s m #[Value.ref b] below meth c H [] (cells + 12) (slots + 240) Q (F0 m 1338 ls [])) :
    W p l e room_1 s m #[Value.ref b] below meth c H [] cells slots Q (F0 m 953 ls []) := by
  obtain ⟨hx, hb, hml, hown, hts, hX, hbl, hK, hZ, hN, hfl⟩ := F9
  unfold vl_plan at v
  refine lv_aload_n hx hb d_law_953 rfl (lv_at hl 3 rfl) ?_
  refine lv_aload_n hx hb d_law_954 rfl (lv_at hl 4 rfl) ?_
  refine lv_iload hx hb d_law_955 (lv_at hl 0 rfl) ?_
  refine nv_iconst (n := 1) hx hb d_law_957 ?_
  refine nv_iadd (z := (i : Int) + 1) hx hb d_law_958 (by first | rfl | omega) ?_
  refine nv_sld hx hb hX hbl (Nat.not_le.mpr hbl) hS (x := x1) (i + 1) (by omega) (by omega) (by omega) q1 d_law_959 ?_
  refine lv_aload_n hx hb d_law_960 rfl (lv_at hl 4 rfl) ?_
  refine lv_iload hx hb d_law_961 (lv_at hl 0 rfl) ?_
  refine nv_iconst (n := 2) hx hb d_law_963 ?_
  refine nv_iadd (z := (i : Int) + 2) hx hb d_law_964 (by first | rfl | omega) ?_
  refine nv_sld hx hb hX hbl (Nat.not_le.mpr hbl) hS (x := x2) (i + 2) (by omega) (by omega) (by omega) q2 d_law_965 ?_
  refine lv_aload_n hx hb d_law_966 rfl (lv_at hl 4 rfl) ?_
  refine lv_iload hx hb d_law_967 (lv_at hl 0 rfl) ?_
  refine nv_iconst (n := 3) hx hb d_law_969 ?_
  refine nv_iadd (z := (i : Int) + 3) hx hb d_law_970 (by first | rfl | omega) ?_
  refine nv_sld hx hb hX hbl (Nat.not_le.mpr hbl) hS (x := x3) (i + 3) (by omega) (by omega) (by omega) q3 d_law_971 ?_
  refine lv_aload_n hx hb d_law_972 rfl (lv_at hl 1 rfl) ?_
  obtain ⟨Pw1, vw2, v⟩ := v
  have hPs := nv_Pperm hP List.perm_append_comm
  have hDs := nv_Dperm hD List.perm_append_comm
  have hPc := (nv_Papp.mp hPs).1
  have hDc := nv_Dleft hDs
  have hFc := nv_free hDs hS (fun q h => h)
  refine va_calli (nv_runSW (n := 5) (As := [.ref AA.h0, .int (iI x1), .int (iI x2), .int (iI x3), .ref o]) (rest := []) ⟨hx, hb, hml, hown, hts⟩ (w_plan l D cI cJ cO cZ qd mi s hZ hfl hN o f AA CC hAA H.size x1 x2 x3 Pw1 vw2) hts wd_632 wd_633 wd_0 wd_634 rfl rfl (by decide +kernel) ⟨Nat.le_of_ble_eq_true rfl, Nat.le_of_ble_eq_true rfl⟩ ⟨blWE, fun U hU hW => ⟨rfl, by rw [hU], by rw [hU]; exact hPc, va_K.moved hW.alike hK, hDc, (Ev.rf s).step (fun _ h => h) hS hU hW⟩⟩ rfl rfl hl.1 rfl (lv_room (Nat.le_of_ble_eq_true rfl)) d_law_973 ⟨by show _ ≤ 601024; omega, by show _ ≤ 7293034; omega⟩) hS (fun q _ h => hFc q h) hFc (fun r u t H1 locs ht hvm hw hB hz1 hk1 hS => ?_)
  obtain ⟨f1, C1⟩ := u
  obtain ⟨A1, hA1, hh0, hP1, hK1, hD1⟩ := hB
  rw [ht] at hP1
  obtain ⟨k, rfl, hw⟩ := hw
  obtain ⟨hP, hD⟩ := nv_join (w1 := (cOut cJ o f1 :: LDW cI cJ cO A1 C1)) hPs hDs hk1 hFc hP1 hD1
  generalize H1 = H at hP hS ⊢
  refine nv_forget hS (fun hS => ?_)
  replace hP := nv_Pperm hP List.perm_append_comm
  replace hD := nv_Dperm hD List.perm_append_comm
  obtain ⟨rk, v⟩ := v k f1 C1 hw
  refine lv_istore (lv' := [(5, .int (iI k)), (4, .int (iI (i : Int))), (3, .ref o), (2, .ref BB.a0), (1, .ref AA.h0), (0, .ref b)]) hx hb d_law_976 hl (by decide) rfl (fun ls hl => ?_)
  refine lv_aload_n hx hb d_law_978 rfl (lv_at hl 3 rfl) ?_
  refine lv_aload_n hx hb d_law_979 rfl (lv_at hl 5 rfl) ?_
  refine lv_iload hx hb d_law_980 (lv_at hl 1 rfl) ?_
  refine nv_iconst (n := 1) hx hb d_law_982 ?_
  refine nv_iadd (z := (i : Int) + 1) hx hb d_law_983 (by first | rfl | omega) ?_
  refine nv_sld hx hb hX hbl (Nat.not_le.mpr hbl) hS (x := x1) (i + 1) (by omega) (by omega) (by omega) q1 d_law_984 ?_
  refine lv_aload_n hx hb d_law_985 rfl (lv_at hl 5 rfl) ?_
  refine lv_iload hx hb d_law_986 (lv_at hl 1 rfl) ?_
  refine nv_iconst (n := 2) hx hb d_law_988 ?_
  refine nv_iadd (z := (i : Int) + 2) hx hb d_law_989 (by first | rfl | omega) ?_
  refine nv_sld hx hb hX hbl (Nat.not_le.mpr hbl) hS (x := x2) (i + 2) (by omega) (by omega) (by omega) q2 d_law_990 ?_
  refine lv_aload_n hx hb d_law_991 rfl (lv_at hl 5 rfl) ?_
  refine lv_iload hx hb d_law_992 (lv_at hl 1 rfl) ?_
  refine nv_iconst (n := 3) hx hb d_law_994 ?_
  refine nv_iadd (z := (i : Int) + 3) hx hb d_law_995 (by first | rfl | omega) ?_
  refine nv_sld hx hb hX hbl (Nat.not_le.mpr hbl) hS (x := x3) (i + 3) (by omega) (by omega) (by omega) q3 d_law_996 ?_
  obtain ⟨Pm3, vm4, v⟩ := v
  have hPc := (nv_Papp.mp hP).1
  have hDc := nv_Dleft hD
  have hFc := nv_free hD hS (fun q h => h)
  refine va_calli (va_runV (As := [.int (iI x1), .int (iI x2), .int (iI x3)]) (rest := []) ⟨hx, hb, hml, hown, hts⟩ (m_Md_plan l D cI cJ cO cZ BB.a0 BB.a1 BB.a2 BB.a3 BB.a4 BB.a5 BB.a6 BB.a7 BB.a8 BB.a9 BB.a10 BB.a11 BB.a12 BB.a13 BB.a14 BB.a15 BB.a16 BB.a17 BB.a18 BB.a19 BB.a20 BB.a21 BB.a22 BB.a23 H.size MM.th MM.no MM.ca MM.ba MM.nl MM.xa MM.sa MM.da MM.la MM.ra MM.fa MM.ta MM.ua MM.uh MM.uo MM.ma MM.mh MM.ml MM.nf MM.fo MM.fh MM.fs MM.rs MM.ic MM.mn MM.bh MM.bo MM.ya MM.np MM.pa MM.nc MM.cp x1 x2 x3 Pm3 vm4) (nv_cwV (n := 3) hts wd_903 wd_904 wd_905 wd_10 wd_906 (by decide +kernel) ⟨Nat.le_of_ble_eq_true rfl, Nat.le_of_ble_eq_true rfl⟩) ⟨blW, va_recv hK hPc (ci := 8) (q0 := 0) rfl rfl, fun U hU hW => ⟨rfl, by rw [hU], by rw [hU]; exact hPc, va_K.moved hW.alike hK, hDc.weaken (fun _ _ _ _ => trivial)⟩⟩ rfl rfl hl.1 rfl (lv_room (Nat.le_of_ble_eq_true rfl)) d_law_997 ⟨by show _ ≤ 601024; omega, by show _ ≤ 7293034; omega⟩) hS (fun q _ h => hFc q h) hFc (fun r u t H1 locs ht hvm hw hB hz1 hk1 hS => ?_)
  obtain ⟨u0, u1⟩ := u
  obtain ⟨hP1, hK1, hD1⟩ := hB
  rw [ht] at hP1
  obtain ⟨z, rfl, hw⟩ := hw
  obtain ⟨hP, hD⟩ := nv_join (w1 := wMdS cI cJ cZ BB ((u0, MM.no, MM.ca, MM.ba, MM.nl, MM.xa, MM.sa, MM.da, MM.la, MM.ra, MM.fa, MM.ta, MM.ua, MM.uh, MM.uo, MM.ma, MM.mh, MM.ml, MM.nf, MM.fo, MM.fh, MM.fs, MM.rs, MM.ic, MM.mn, MM.bh, MM.bo, u1, MM.np, MM.pa, MM.nc, MM.cp) : MdC)) hP hD hk1 hFc hP1 hD1
  generalize H1 = H at hP hS ⊢
  refine nv_forget hS (fun hS => ?_)
  replace v := v z u0 u1 hw
  obtain ⟨hth, hz9, hRl⟩ := v
  refine lv_istore (lv' := [(6, .int (iI z)), (5, .int (iI k)), (4, .int (iI (i : Int))), (3, .ref o), (2, .ref BB.a0), (1, .ref AA.h0), (0, .ref b)]) hx hb d_law_1000 hl (by decide) rfl (fun ls hl => ?_)
  refine lv_aload_n hx hb d_law_1002 rfl (lv_at hl 4 rfl) ?_
  refine vp_callSi (nv_runV (wc := wMdS cI cJ cZ BB ((u0, MM.no, MM.ca, MM.ba, MM.nl, MM.xa, MM.sa, MM.da, MM.la, MM.ra, MM.fa, MM.ta, MM.ua, MM.uh, MM.uo, MM.ma, MM.mh, MM.ml, MM.nf, MM.fo, MM.fh, MM.fs, MM.rs, MM.ic, MM.mn, MM.bh, MM.bo, u1, MM.np, MM.pa, MM.nc, MM.cp) : MdC)) (As := []) (rest := []) ⟨hx, hb, hml, hown, hts⟩ (m_Md_thrown l D cI cJ cO cZ BB.a0 BB.a1 BB.a2 BB.a3 BB.a4 BB.a5 BB.a6 BB.a7 BB.a8 BB.a9 BB.a10 BB.a11 BB.a12 BB.a13 BB.a14 BB.a15 BB.a16 BB.a17 BB.a18 BB.a19 BB.a20 BB.a21 BB.a22 BB.a23 u0 MM.no MM.ca MM.ba MM.nl MM.xa MM.sa MM.da MM.la MM.ra MM.fa MM.ta MM.ua MM.uh MM.uo MM.ma MM.mh MM.ml MM.nf MM.fo MM.fh MM.fs MM.rs MM.ic MM.mn MM.bh MM.bo u1 MM.np MM.pa MM.nc MM.cp (fun z => z = u0) (by unfold vc_Md_thrown; rfl)) (nv_cwV (n := 0) hts wd_801 wd_802 wd_803 wd_10 wd_804 (by decide +kernel) ⟨Nat.le_of_ble_eq_true rfl, Nat.le_of_ble_eq_true rfl⟩) hK (nv_Papp.mp hP).1 (va_recv hK hP (ci := 8) (q0 := 0) rfl rfl) rfl hl.1 rfl (Nat.le_of_ble_eq_true rfl) d_law_1003 (by show _ ≤ 601024; omega) (by show _ ≤ 7293034; omega)) (fun r9 hr9 => ?_)
  obtain ⟨z9, rfl, hz8⟩ := hr9
  have hz8 : z9 = k := hz8.trans hth
  rw [hz8]
  refine lv_iload hx hb d_law_1006 (lv_at hl 1 rfl) ?_
  refine nv_icmp_eq (tgt := 1013) hx hb d_law_1008 (by decide) rk rk (fun _ => ?_) (fun h9 => absurd rfl h9)
  refine lv_iload hx hb d_law_1013 (lv_at hl 1 rfl) ?_
  refine nv_if_ne (tgt := 1030) hx hb d_law_1015 (by decide) rk (fun _ => ?_) (fun hk0 => ?_)
  · refine lv_goto (tgt := 1338) hx hb d_law_1030 (by decide) ?_
    exact kk f1 A1 C1 ((u0, MM.no, MM.ca, MM.ba, MM.nl, MM.xa, MM.sa, MM.da, MM.la, MM.ra, MM.fa, MM.ta, MM.ua, MM.uh, MM.uo, MM.ma, MM.mh, MM.ml, MM.nf, MM.fo, MM.fh, MM.fs, MM.rs, MM.ic, MM.mn, MM.bh, MM.bo, u1, MM.np, MM.pa, MM.nc, MM.cp) : MdC) H ls hA1 hh0 hRl hP hD hS (lv_sub hl [6, 5, 4, 3, 2] rfl)
  · obtain ⟨hz7, rz⟩ := hz9 hk0
    refine lv_aload_n hx hb d_law_1018 rfl (lv_at hl 3 rfl) ?_
    refine nv_iconst (n := 0) hx hb d_law_1019 ?_
    refine nv_lald (f := f1) hx hb hK 1 (hP 24 _ rfl) rfl 0 rfl (by decide) (by decide) d_law_1020 ?_
    rw [hz7]
    refine lv_iload hx hb d_law_1021 (lv_at hl 0 rfl) ?_
    refine nv_i2l hx hb d_law_1023 rz ?_
    refine nv_lcmp_eq (tgt := 1030) hx hb d_law_1024 d_law_1025 (by decide) ⟨by have := rz.1; omega, by have := rz.2; omega⟩ ⟨by have := rz.1; omega, by have := rz.2; omega⟩ (fun _ => ?_) (fun h9 => absurd rfl h9)
    refine lv_goto (tgt := 1338) hx hb d_law_1030 (by decide) ?_
    exact kk f1 A1 C1 ((u0, MM.no, MM.ca, MM.ba, MM.nl, MM.xa, MM.sa, MM.da, MM.la, MM.ra, MM.fa, MM.ta, MM.ua, MM.uh, MM.uo, MM.ma, MM.mh, MM.ml, MM.nf, MM.fo, MM.fh, MM.fs, MM.rs, MM.ic, MM.mn, MM.bh, MM.bo, u1, MM.np, MM.pa, MM.nc, MM.cp) : MdC) H ls hA1 hh0 hRl hP hD hS (lv_sub hl [6, 5, 4, 3, 2] rfl)
def vl_breaches (AA : LdA) (CC : LdC) (MM : MdC) (f : Nat → Int) (x1 x2 x3 : Int) (Rl : LdC → MdC → Prop) : Prop := ∃ P, vc_LD_breaches CC.fr CC.po CC.no AA.xm CC.bh CC.bo CC.bn AA.y2 AA.dy1 AA.dy2 AA.fl1 AA.fl2 AA.fl3 CC.nl AA.ym CC.ba CC.dl CC.ds CC.fo CC.fh CC.fs CC.fn AA.xc AA.xf AA.EA CC.EC AA.yc AA.yf AA.LA CC.LC P ∧ ∀ (k : Int) (y0 : Nat → Int) (y1 : Nat → Int) (y2 : Int) (y3 : Int), P k y0 y1 y2 y3 → r32 k ∧ (∃ Pm1, vc_Md_breaches MM.th MM.no MM.ca MM.ba MM.nl MM.xa MM.sa MM.da MM.la MM.ra MM.fa MM.ta MM.ua MM.uh MM.uo MM.ma MM.mh MM.ml MM.nf MM.fo MM.fh MM.fs MM.rs MM.ic MM.mn MM.bh MM.bo MM.ya MM.np MM.pa MM.nc MM.cp  Pm1 ∧ ∀ (z : Int) (u0 : Int) (u1 : Nat → Int) (u2 : Nat → Int) (u3 : Int) (u4 : Int), Pm1 z u0 u1 u2 u3 u4 → k = z ∧ Rl ((CC.no, CC.nl, y3, CC.po, CC.ba, CC.dl, CC.ds, CC.fo, CC.fh, CC.fs, CC.fn, y0, y1, y2, CC.kh, CC.kc, CC.kp, CC.kn, CC.EC, CC.LC) : LdC) ((u0, MM.no, MM.ca, MM.ba, MM.nl, MM.xa, MM.sa, MM.da, MM.la, MM.ra, MM.fa, MM.ta, MM.ua, MM.uh, MM.uo, MM.ma, MM.mh, MM.ml, MM.nf, MM.fo, MM.fh, MM.fs, MM.rs, u4, u3, u1, u2, MM.ya, MM.np, MM.pa, MM.nc, MM.cp) : MdC))
set_option maxHeartbeats 4000000 in
set_option maxRecDepth 100000 in
theorem c_breaches {p : Program} {l : Launch} {e : Env} {s : State} {m : MethodId} {below : List Frame} {meth : Method} {c : Code} {Q : State → Prop} {b L : Nat} {xs : Nat → Int32} {D : va_G} {cI cJ cO cZ : ClassId} {qd mi : Nat} (F9 : LwF p l s m meth c b L xs D cI cJ cO cZ qd mi) {o : Nat} {BB : MdA} {f : Nat → Int} {AA : LdA} {CC : LdC} {MM : MdC} {H : Heap} {ls : Array Slot} {i cells slots : Nat} {x1 x2 x3 : Int} (hAA : ldA qd AA CC) (hP : va_P D vwCl (wMdS cI cJ cZ BB MM ++ (cOut cJ o f :: LDW cI cJ cO AA CC)) H) (hD : va_D (fun q => s.heap.size ≤ q) (wMdS cI cJ cZ BB MM ++ (cOut cJ o f :: LDW cI cJ cO AA CC))) (hS : va_S (fun q => s.heap.size ≤ q) s.heap H []) (hl : lv_has ls 7 [(4, .int (iI (i : Int))), (3, .ref o), (2, .ref BB.a0), (1, .ref AA.h0), (0, .ref b)]) (hi : i + 3 < L) (hL : L ≤ 2048) (q1 : xs (i + 1) = iI x1) (q2 : xs (i + 2) = iI x2) (q3 : xs (i + 3) = iI x3) (r1 : r32 x1) (r2 : r32 x2) (r3 : r32 x3) (hc : cells + 12 ≤ 601024) (hsl : slots + 240 ≤ 7293034) (Rl : LdC → MdC → Prop) (v : vl_breaches AA CC MM f x1 x2 x3 Rl)
    (kk : ∀ (f1 : Nat → Int) (A1 : LdA) (C1 : LdC) (M1 : MdC) (H : Heap) (ls : Array Slot), ldA qd A1 C1 → A1.h0 = AA.h0 → Rl C1 M1 → va_P D vwCl (wMdS cI cJ cZ BB M1 ++ (cOut cJ o f1 :: LDW cI cJ cO A1 C1)) H → va_D (fun q => s.heap.size ≤ q) (wMdS cI cJ cZ BB M1 ++ (cOut cJ o f1 :: LDW cI cJ cO A1 C1)) → va_S (fun q => s.heap.size ≤ q) s.heap H [] → lv_has ls 7 [(0, .ref b), (1, .ref AA.h0), (2, .ref BB.a0), (3, .ref o), (4, .int (iI (i : Int)))] → W p l e room_1 s m #[Value.ref b] below meth c H [] (cells + 12) (slots + 240) Q (F0 m 1338 ls [])) :
    W p l e room_1 s m #[Value.ref b] below meth c H [] cells slots Q (F0 m 1033 ls []) := by
  obtain ⟨hx, hb, hml, hown, hts, hX, hbl, hK, hZ, hN, hfl⟩ := F9
  unfold vl_breaches at v
  refine lv_aload_n hx hb d_law_1033 rfl (lv_at hl 3 rfl) ?_
  obtain ⟨P, vq, v⟩ := v
  have hpm : (cOut cJ o f :: LDW cI cJ cO AA CC).Perm (([(AA.h0, .inr (7, [.ref AA.x1, .ref AA.y1, .ref AA.al, .ref AA.dy, .ref AA.fl, .ref AA.br, .ref AA.bk, .int (iI CC.fr), .int (iI CC.po)])), (AA.x1, .inr (9, [.ref AA.x2, .int (iI (CC.no : Int)), .int (iI AA.xm)])), (AA.br, .inr (1, [.ref AA.br1, .ref AA.br2, .int (iI CC.bn)])), (AA.br1, .inl (cI, 36, .inl (fun k => iI (CC.bh k)))), (AA.br2, .inl (cI, 36, .inl (fun k => iI (CC.bo k))))] : va_W) ++ (cOut cJ o f :: (([(AA.y1, .inr (9, [.ref AA.y2, .int (iI (CC.nl : Int)), .int (iI AA.ym)])), (AA.al, .inl (cI, 6, .inl (fun k => iI (CC.ba k)))), (AA.dy, .inr (3, [.ref AA.dy1, .ref AA.dy2])), (AA.dy1, .inl (cI, 24, .inl (fun k => iI (CC.dl k)))), (AA.dy2, .inl (cJ, 25, .inr (.inl (fun k => lI (CC.ds k))))), (AA.fl, .inr (5, [.ref AA.fl1, .ref AA.fl2, .ref AA.fl3, .int (iI CC.fn)])), (AA.fl1, .inl (cI, 40, .inl (fun k => iI (CC.fo k)))), (AA.fl2, .inl (cI, 40, .inl (fun k => iI (CC.fh k)))), (AA.fl3, .inl (cI, 40, .inl (fun k => iI (CC.fs k)))), (AA.bk, .inr (0, [.ref AA.bk1, .ref AA.bk2, .int (iI CC.kp), .int (iI CC.kn)])), (AA.bk1, .inl (cI, 12, .inl (fun k => iI (CC.kh k)))), (AA.bk2, .inl (cI, 12, .inl (fun k => iI (CC.kc k))))] : va_W) ++ (arrE cO AA CC ++ (arrL cO AA CC ++ (pool (gEx cI AA CC) CC.no ++ pool (gLp cI cJ AA CC) CC.nl)))))) := perm_cnt (fun a => by simp only [LDW, wBase, cnt_cons, cnt_app, cnt_nil]; omega)
  have hpm3 : (wMdS cI cJ cZ BB MM ++ (cOut cJ o f :: LDW cI cJ cO AA CC)).Perm (([(AA.h0, .inr (7, [.ref AA.x1, .ref AA.y1, .ref AA.al, .ref AA.dy, .ref AA.fl, .ref AA.br, .ref AA.bk, .int (iI CC.fr), .int (iI CC.po)])), (AA.x1, .inr (9, [.ref AA.x2, .int (iI (CC.no : Int)), .int (iI AA.xm)])), (AA.br, .inr (1, [.ref AA.br1, .ref AA.br2, .int (iI CC.bn)])), (AA.br1, .inl (cI, 36, .inl (fun k => iI (CC.bh k)))), (AA.br2, .inl (cI, 36, .inl (fun k => iI (CC.bo k))))] : va_W) ++ ((cOut cJ o f :: (([(AA.y1, .inr (9, [.ref AA.y2, .int (iI (CC.nl : Int)), .int (iI AA.ym)])), (AA.al, .inl (cI, 6, .inl (fun k => iI (CC.ba k)))), (AA.dy, .inr (3, [.ref AA.dy1, .ref AA.dy2])), (AA.dy1, .inl (cI, 24, .inl (fun k => iI (CC.dl k)))), (AA.dy2, .inl (cJ, 25, .inr (.inl (fun k => lI (CC.ds k))))), (AA.fl, .inr (5, [.ref AA.fl1, .ref AA.fl2, .ref AA.fl3, .int (iI CC.fn)])), (AA.fl1, .inl (cI, 40, .inl (fun k => iI (CC.fo k)))), (AA.fl2, .inl (cI, 40, .inl (fun k => iI (CC.fh k)))), (AA.fl3, .inl (cI, 40, .inl (fun k => iI (CC.fs k)))), (AA.bk, .inr (0, [.ref AA.bk1, .ref AA.bk2, .int (iI CC.kp), .int (iI CC.kn)])), (AA.bk1, .inl (cI, 12, .inl (fun k => iI (CC.kh k)))), (AA.bk2, .inl (cI, 12, .inl (fun k => iI (CC.kc k))))] : va_W) ++ (arrE cO AA CC ++ (arrL cO AA CC ++ (pool (gEx cI AA CC) CC.no ++ pool (gLp cI cJ AA CC) CC.nl))))) ++ wMdS cI cJ cZ BB MM)) := List.perm_append_comm.trans (by rw [← List.append_assoc]; exact hpm.append_right _)
  have hPp := nv_Pperm hP hpm3
  have hDp := nv_Dperm hD hpm3
  have hPc := (nv_Papp.mp hPp).1
  have hDc := nv_Dleft hDp
  have hFc := nv_free hDp hS (fun q h => h)
  have hne : ∀ q ∈ ((([(AA.y1, .inr (9, [.ref AA.y2, .int (iI (CC.nl : Int)), .int (iI AA.ym)])), (AA.al, .inl (cI, 6, .inl (fun k => iI (CC.ba k)))), (AA.dy, .inr (3, [.ref AA.dy1, .ref AA.dy2])), (AA.dy1, .inl (cI, 24, .inl (fun k => iI (CC.dl k)))), (AA.dy2, .inl (cJ, 25, .inr (.inl (fun k => lI (CC.ds k))))), (AA.fl, .inr (5, [.ref AA.fl1, .ref AA.fl2, .ref AA.fl3, .int (iI CC.fn)])), (AA.fl1, .inl (cI, 40, .inl (fun k => iI (CC.fo k)))), (AA.fl2, .inl (cI, 40, .inl (fun k => iI (CC.fh k)))), (AA.fl3, .inl (cI, 40, .inl (fun k => iI (CC.fs k))))] : va_W) ++ (pool (gEr cI cO AA.x2 AA.xc AA.xf AA.EA CC.EC) CC.no ++ pool (gLr cI cJ cO AA.y2 AA.yc AA.yf AA.LA CC.LC) CC.nl)) : va_W), q.1 ∉ List.map Prod.fst ([(AA.h0, .inr (7, [.ref AA.x1, .ref AA.y1, .ref AA.al, .ref AA.dy, .ref AA.fl, .ref AA.br, .ref AA.bk, .int (iI CC.fr), .int (iI CC.po)])), (AA.x1, .inr (9, [.ref AA.x2, .int (iI (CC.no : Int)), .int (iI AA.xm)])), (AA.br, .inr (1, [.ref AA.br1, .ref AA.br2, .int (iI CC.bn)])), (AA.br1, .inl (cI, 36, .inl (fun k => iI (CC.bh k)))), (AA.br2, .inl (cI, 36, .inl (fun k => iI (CC.bo k))))] : va_W) := fun q hq => nv_apart hDp (List.mem_append_left _ (rokb_in hq))
  have hRk : va_P D vwCl (([(AA.y1, .inr (9, [.ref AA.y2, .int (iI (CC.nl : Int)), .int (iI AA.ym)])), (AA.al, .inl (cI, 6, .inl (fun k => iI (CC.ba k)))), (AA.dy, .inr (3, [.ref AA.dy1, .ref AA.dy2])), (AA.dy1, .inl (cI, 24, .inl (fun k => iI (CC.dl k)))), (AA.dy2, .inl (cJ, 25, .inr (.inl (fun k => lI (CC.ds k))))), (AA.fl, .inr (5, [.ref AA.fl1, .ref AA.fl2, .ref AA.fl3, .int (iI CC.fn)])), (AA.fl1, .inl (cI, 40, .inl (fun k => iI (CC.fo k)))), (AA.fl2, .inl (cI, 40, .inl (fun k => iI (CC.fh k)))), (AA.fl3, .inl (cI, 40, .inl (fun k => iI (CC.fs k))))] : va_W) ++ (pool (gEr cI cO AA.x2 AA.xc AA.xf AA.EA CC.EC) CC.no ++ pool (gLr cI cJ cO AA.y2 AA.yc AA.yf AA.LA CC.LC) CC.nl)) H := nv_Pmem.mpr (fun q hq => nv_Pmem.mp (nv_Papp.mp hPp).2 q (List.mem_append_left _ (rokb_in (o := o) (f := f) hq)))
  refine va_calli (va_runV (As := []) (rest := []) ⟨hx, hb, hml, hown, hts⟩ (m_LD_breaches l D cI cJ cO cZ AA.h0 AA.x1 AA.y1 AA.al AA.dy AA.fl AA.br AA.bk AA.x2 AA.br1 AA.br2 H.size CC.fr CC.po CC.no AA.xm CC.bh CC.bo CC.bn AA.y2 AA.dy1 AA.dy2 AA.fl1 AA.fl2 AA.fl3 CC.nl AA.ym CC.ba CC.dl CC.ds CC.fo CC.fh CC.fs CC.fn AA.xc AA.xf AA.EA CC.EC AA.yc AA.yf AA.LA CC.LC hAA.2.2.2.2.1 (ldA_x hAA) (ldA_xc hAA) hAA.2.2.2.2.2.1 (ldA_y hAA) (ldA_yc hAA) hAA.2.2.2.2.2.2.1 hAA.2.2.2.2.2.2.2.1 hne P vq) (nv_cwV (n := 0) hts wd_171 wd_172 wd_173 wd_1 wd_174 (by decide +kernel) ⟨Nat.le_of_ble_eq_true rfl, Nat.le_of_ble_eq_true rfl⟩) ⟨blWR, va_recv hK hPc (ci := 7) (q0 := 0) rfl rfl, fun U hU hW => ⟨rfl, by rw [hU], by rw [hU]; exact hPc, va_K.moved hW.alike hK, hDc.weaken (fun _ _ _ _ => trivial), by rw [hU]; exact hRk⟩⟩ rfl rfl hl.1 rfl (lv_room (Nat.le_of_ble_eq_true rfl)) d_law_1034 ⟨by show _ ≤ 601024; omega, by show _ ≤ 7293034; omega⟩) hS (fun q _ h => hFc q h) hFc (fun r u t H1 locs ht hvm hw hB hz1 hk1 hS => ?_)
  obtain ⟨y0, y1, y2, y3⟩ := u
  obtain ⟨hP1, hK1, hD1⟩ := hB
  rw [ht] at hP1
  obtain ⟨k, rfl, hw⟩ := hw
  obtain ⟨hP, hD⟩ := nv_join (w1 := ([(AA.h0, .inr (7, [.ref AA.x1, .ref AA.y1, .ref AA.al, .ref AA.dy, .ref AA.fl, .ref AA.br, .ref AA.bk, .int (iI y3), .int (iI CC.po)])), (AA.x1, .inr (9, [.ref AA.x2, .int (iI (CC.no : Int)), .int (iI AA.xm)])), (AA.br, .inr (1, [.ref AA.br1, .ref AA.br2, .int (iI y2)])), (AA.br1, .inl (cI, 36, .inl (fun k => iI (y0 k)))), (AA.br2, .inl (cI, 36, .inl (fun k => iI (y1 k))))] : va_W)) hPp hDp hk1 hFc hP1 hD1
  generalize H1 = H at hP hS ⊢
  refine nv_forget hS (fun hS => ?_)
  obtain ⟨rk, v⟩ := v k y0 y1 y2 y3 hw
  have hpm2 : (([(AA.h0, .inr (7, [.ref AA.x1, .ref AA.y1, .ref AA.al, .ref AA.dy, .ref AA.fl, .ref AA.br, .ref AA.bk, .int (iI y3), .int (iI CC.po)])), (AA.x1, .inr (9, [.ref AA.x2, .int (iI (CC.no : Int)), .int (iI AA.xm)])), (AA.br, .inr (1, [.ref AA.br1, .ref AA.br2, .int (iI y2)])), (AA.br1, .inl (cI, 36, .inl (fun k => iI (y0 k)))), (AA.br2, .inl (cI, 36, .inl (fun k => iI (y1 k))))] : va_W) ++ (cOut cJ o f :: (([(AA.y1, .inr (9, [.ref AA.y2, .int (iI (CC.nl : Int)), .int (iI AA.ym)])), (AA.al, .inl (cI, 6, .inl (fun k => iI (CC.ba k)))), (AA.dy, .inr (3, [.ref AA.dy1, .ref AA.dy2])), (AA.dy1, .inl (cI, 24, .inl (fun k => iI (CC.dl k)))), (AA.dy2, .inl (cJ, 25, .inr (.inl (fun k => lI (CC.ds k))))), (AA.fl, .inr (5, [.ref AA.fl1, .ref AA.fl2, .ref AA.fl3, .int (iI CC.fn)])), (AA.fl1, .inl (cI, 40, .inl (fun k => iI (CC.fo k)))), (AA.fl2, .inl (cI, 40, .inl (fun k => iI (CC.fh k)))), (AA.fl3, .inl (cI, 40, .inl (fun k => iI (CC.fs k)))), (AA.bk, .inr (0, [.ref AA.bk1, .ref AA.bk2, .int (iI CC.kp), .int (iI CC.kn)])), (AA.bk1, .inl (cI, 12, .inl (fun k => iI (CC.kh k)))), (AA.bk2, .inl (cI, 12, .inl (fun k => iI (CC.kc k))))] : va_W) ++ (arrE cO AA CC ++ (arrL cO AA CC ++ (pool (gEx cI AA CC) CC.no ++ pool (gLp cI cJ AA CC) CC.nl)))))).Perm (cOut cJ o f :: (([(AA.h0, .inr (7, [.ref AA.x1, .ref AA.y1, .ref AA.al, .ref AA.dy, .ref AA.fl, .ref AA.br, .ref AA.bk, .int (iI y3), .int (iI CC.po)])), (AA.x1, .inr (9, [.ref AA.x2, .int (iI (CC.no : Int)), .int (iI AA.xm)])), (AA.y1, .inr (9, [.ref AA.y2, .int (iI (CC.nl : Int)), .int (iI AA.ym)])), (AA.al, .inl (cI, 6, .inl (fun k => iI (CC.ba k)))), (AA.dy, .inr (3, [.ref AA.dy1, .ref AA.dy2])), (AA.dy1, .inl (cI, 24, .inl (fun k => iI (CC.dl k)))), (AA.dy2, .inl (cJ, 25, .inr (.inl (fun k => lI (CC.ds k))))), (AA.fl, .inr (5, [.ref AA.fl1, .ref AA.fl2, .ref AA.fl3, .int (iI CC.fn)])), (AA.fl1, .inl (cI, 40, .inl (fun k => iI (CC.fo k)))), (AA.fl2, .inl (cI, 40, .inl (fun k => iI (CC.fh k)))), (AA.fl3, .inl (cI, 40, .inl (fun k => iI (CC.fs k)))), (AA.br, .inr (1, [.ref AA.br1, .ref AA.br2, .int (iI y2)])), (AA.br1, .inl (cI, 36, .inl (fun k => iI (y0 k)))), (AA.br2, .inl (cI, 36, .inl (fun k => iI (y1 k)))), (AA.bk, .inr (0, [.ref AA.bk1, .ref AA.bk2, .int (iI CC.kp), .int (iI CC.kn)])), (AA.bk1, .inl (cI, 12, .inl (fun k => iI (CC.kh k)))), (AA.bk2, .inl (cI, 12, .inl (fun k => iI (CC.kc k))))] : va_W) ++ (arrE cO AA CC ++ (arrL cO AA CC ++ (pool (gEx cI AA CC) CC.no ++ pool (gLp cI cJ AA CC) CC.nl))))) := perm_cnt (fun a => by simp only [LDW, wBase, cnt_cons, cnt_app, cnt_nil]; omega)
  have hpm4 : (([(AA.h0, .inr (7, [.ref AA.x1, .ref AA.y1, .ref AA.al, .ref AA.dy, .ref AA.fl, .ref AA.br, .ref AA.bk, .int (iI y3), .int (iI CC.po)])), (AA.x1, .inr (9, [.ref AA.x2, .int (iI (CC.no : Int)), .int (iI AA.xm)])), (AA.br, .inr (1, [.ref AA.br1, .ref AA.br2, .int (iI y2)])), (AA.br1, .inl (cI, 36, .inl (fun k => iI (y0 k)))), (AA.br2, .inl (cI, 36, .inl (fun k => iI (y1 k))))] : va_W) ++ ((cOut cJ o f :: (([(AA.y1, .inr (9, [.ref AA.y2, .int (iI (CC.nl : Int)), .int (iI AA.ym)])), (AA.al, .inl (cI, 6, .inl (fun k => iI (CC.ba k)))), (AA.dy, .inr (3, [.ref AA.dy1, .ref AA.dy2])), (AA.dy1, .inl (cI, 24, .inl (fun k => iI (CC.dl k)))), (AA.dy2, .inl (cJ, 25, .inr (.inl (fun k => lI (CC.ds k))))), (AA.fl, .inr (5, [.ref AA.fl1, .ref AA.fl2, .ref AA.fl3, .int (iI CC.fn)])), (AA.fl1, .inl (cI, 40, .inl (fun k => iI (CC.fo k)))), (AA.fl2, .inl (cI, 40, .inl (fun k => iI (CC.fh k)))), (AA.fl3, .inl (cI, 40, .inl (fun k => iI (CC.fs k)))), (AA.bk, .inr (0, [.ref AA.bk1, .ref AA.bk2, .int (iI CC.kp), .int (iI CC.kn)])), (AA.bk1, .inl (cI, 12, .inl (fun k => iI (CC.kh k)))), (AA.bk2, .inl (cI, 12, .inl (fun k => iI (CC.kc k))))] : va_W) ++ (arrE cO AA CC ++ (arrL cO AA CC ++ (pool (gEx cI AA CC) CC.no ++ pool (gLp cI cJ AA CC) CC.nl))))) ++ wMdS cI cJ cZ BB MM)).Perm (wMdS cI cJ cZ BB MM ++ (cOut cJ o f :: (([(AA.h0, .inr (7, [.ref AA.x1, .ref AA.y1, .ref AA.al, .ref AA.dy, .ref AA.fl, .ref AA.br, .ref AA.bk, .int (iI y3), .int (iI CC.po)])), (AA.x1, .inr (9, [.ref AA.x2, .int (iI (CC.no : Int)), .int (iI AA.xm)])), (AA.y1, .inr (9, [.ref AA.y2, .int (iI (CC.nl : Int)), .int (iI AA.ym)])), (AA.al, .inl (cI, 6, .inl (fun k => iI (CC.ba k)))), (AA.dy, .inr (3, [.ref AA.dy1, .ref AA.dy2])), (AA.dy1, .inl (cI, 24, .inl (fun k => iI (CC.dl k)))), (AA.dy2, .inl (cJ, 25, .inr (.inl (fun k => lI (CC.ds k))))), (AA.fl, .inr (5, [.ref AA.fl1, .ref AA.fl2, .ref AA.fl3, .int (iI CC.fn)])), (AA.fl1, .inl (cI, 40, .inl (fun k => iI (CC.fo k)))), (AA.fl2, .inl (cI, 40, .inl (fun k => iI (CC.fh k)))), (AA.fl3, .inl (cI, 40, .inl (fun k => iI (CC.fs k)))), (AA.br, .inr (1, [.ref AA.br1, .ref AA.br2, .int (iI y2)])), (AA.br1, .inl (cI, 36, .inl (fun k => iI (y0 k)))), (AA.br2, .inl (cI, 36, .inl (fun k => iI (y1 k)))), (AA.bk, .inr (0, [.ref AA.bk1, .ref AA.bk2, .int (iI CC.kp), .int (iI CC.kn)])), (AA.bk1, .inl (cI, 12, .inl (fun k => iI (CC.kh k)))), (AA.bk2, .inl (cI, 12, .inl (fun k => iI (CC.kc k))))] : va_W) ++ (arrE cO AA CC ++ (arrL cO AA CC ++ (pool (gEx cI AA CC) CC.no ++ pool (gLp cI cJ AA CC) CC.nl)))))) := (by rw [← List.append_assoc]; exact (hpm2.append_right _).trans List.perm_append_comm)
  have hP : va_P D vwCl (wMdS cI cJ cZ BB MM ++ (cOut cJ o f :: LDW cI cJ cO AA ((CC.no, CC.nl, y3, CC.po, CC.ba, CC.dl, CC.ds, CC.fo, CC.fh, CC.fs, CC.fn, y0, y1, y2, CC.kh, CC.kc, CC.kp, CC.kn, CC.EC, CC.LC) : LdC))) H := nv_Pperm hP hpm4
  have hD : va_D (fun q => s.heap.size ≤ q) (wMdS cI cJ cZ BB MM ++ (cOut cJ o f :: LDW cI cJ cO AA ((CC.no, CC.nl, y3, CC.po, CC.ba, CC.dl, CC.ds, CC.fo, CC.fh, CC.fs, CC.fn, y0, y1, y2, CC.kh, CC.kc, CC.kp, CC.kn, CC.EC, CC.LC) : LdC))) := nv_Dperm hD hpm4
  refine lv_aload_n hx hb d_law_1037 rfl (lv_at hl 2 rfl) ?_
  obtain ⟨Pm1, vm2, v⟩ := v
  have hPc := (nv_Papp.mp hP).1
  have hDc := nv_Dleft hD
  have hFc := nv_free hD hS (fun q h => h)
  refine va_calli (va_runV (As := []) (rest := [.int (iI k)]) ⟨hx, hb, hml, hown, hts⟩ (m_Md_breaches l D cI cJ cO cZ BB.a0 BB.a1 BB.a2 BB.a3 BB.a4 BB.a5 BB.a6 BB.a7 BB.a8 BB.a9 BB.a10 BB.a11 BB.a12 BB.a13 BB.a14 BB.a15 BB.a16 BB.a17 BB.a18 BB.a19 BB.a20 BB.a21 BB.a22 BB.a23 H.size MM.th MM.no MM.ca MM.ba MM.nl MM.xa MM.sa MM.da MM.la MM.ra MM.fa MM.ta MM.ua MM.uh MM.uo MM.ma MM.mh MM.ml MM.nf MM.fo MM.fh MM.fs MM.rs MM.ic MM.mn MM.bh MM.bo MM.ya MM.np MM.pa MM.nc MM.cp  Pm1 vm2) (nv_cwV (n := 0) hts wd_907 wd_908 wd_909 wd_10 wd_910 (by decide +kernel) ⟨Nat.le_of_ble_eq_true rfl, Nat.le_of_ble_eq_true rfl⟩) ⟨blW, va_recv hK hPc (ci := 8) (q0 := 0) rfl rfl, fun U hU hW => ⟨rfl, by rw [hU], by rw [hU]; exact hPc, va_K.moved hW.alike hK, hDc.weaken (fun _ _ _ _ => trivial)⟩⟩ rfl rfl hl.1 rfl (lv_room (Nat.le_of_ble_eq_true rfl)) d_law_1038 ⟨by show _ ≤ 601024; omega, by show _ ≤ 7293034; omega⟩) hS (fun q _ h => hFc q h) hFc (fun r u t H1 locs ht hvm hw hB hz1 hk1 hS => ?_)
  obtain ⟨u0, u1, u2, u3, u4⟩ := u
  obtain ⟨hP1, hK1, hD1⟩ := hB
  rw [ht] at hP1
  obtain ⟨z, rfl, hw⟩ := hw
  obtain ⟨hP, hD⟩ := nv_join (w1 := wMdS cI cJ cZ BB ((u0, MM.no, MM.ca, MM.ba, MM.nl, MM.xa, MM.sa, MM.da, MM.la, MM.ra, MM.fa, MM.ta, MM.ua, MM.uh, MM.uo, MM.ma, MM.mh, MM.ml, MM.nf, MM.fo, MM.fh, MM.fs, MM.rs, u4, u3, u1, u2, MM.ya, MM.np, MM.pa, MM.nc, MM.cp) : MdC)) hP hD hk1 hFc hP1 hD1
  generalize H1 = H at hP hS ⊢
  refine nv_forget hS (fun hS => ?_)
  replace v := v z u0 u1 u2 u3 u4 hw
  obtain ⟨hz, hRl⟩ := v
  rw [← hz]
  refine W.widen (k := cells + 12) (n := slots + 240) (by omega) (by omega) ?_
  refine nv_icmp_eq (tgt := 1338) hx hb d_law_1041 (by decide) rk rk (fun _ => ?_) (fun h9 => absurd rfl h9)
  exact kk f AA ((CC.no, CC.nl, y3, CC.po, CC.ba, CC.dl, CC.ds, CC.fo, CC.fh, CC.fs, CC.fn, y0, y1, y2, CC.kh, CC.kc, CC.kp, CC.kn, CC.EC, CC.LC) : LdC) ((u0, MM.no, MM.ca, MM.ba, MM.nl, MM.xa, MM.sa, MM.da, MM.la, MM.ra, MM.fa, MM.ta, MM.ua, MM.uh, MM.uo, MM.ma, MM.mh, MM.ml, MM.nf, MM.fo, MM.fh, MM.fs, MM.rs, u4, u3, u1, u2, MM.ya, MM.np, MM.pa, MM.nc, MM.cp) : MdC) H ls (show ldA qd AA CC from hAA) rfl hRl hP hD hS (lv_sub hl [4, 3, 2, 1, 0] rfl)
def vl_breach (AA : LdA) (CC : LdC) (MM : MdC) (f : Nat → Int) (x1 x2 x3 : Int) (Rl : LdC → MdC → Prop) : Prop := ∃ Pw1, vw_breach AA CC f x1 x2 Pw1 ∧ ∀ (k : Int) (f1 : Nat → Int) (C1 : LdC), Pw1 k f1 C1 → r32 k ∧ (∃ Pm3, vc_Md_breach MM.th MM.no MM.ca MM.ba MM.nl MM.xa MM.sa MM.da MM.la MM.ra MM.fa MM.ta MM.ua MM.uh MM.uo MM.ma MM.mh MM.ml MM.nf MM.fo MM.fh MM.fs MM.rs MM.ic MM.mn MM.bh MM.bo MM.ya MM.np MM.pa MM.nc MM.cp x1 x2 Pm3 ∧ ∀ (z : Int) (u0 : Int) (u1 : Nat → Int) (u2 : Nat → Int) (u3 : Int) (u4 : Int), Pm3 z u0 u1 u2 u3 u4 → u0 = k ∧ (k = 0 → f1 0 = z ∧ r32 z) ∧ Rl C1 ((u0, MM.no, MM.ca, MM.ba, MM.nl, MM.xa, MM.sa, MM.da, MM.la, MM.ra, MM.fa, MM.ta, MM.ua, MM.uh, MM.uo, MM.ma, MM.mh, MM.ml, MM.nf, MM.fo, MM.fh, MM.fs, MM.rs, u4, u3, u1, u2, MM.ya, MM.np, MM.pa, MM.nc, MM.cp) : MdC))
set_option maxHeartbeats 4000000 in
set_option maxRecDepth 100000 in
theorem c_breach {p : Program} {l : Launch} {e : Env} {s : State} {m : MethodId} {below : List Frame} {meth : Method} {c : Code} {Q : State → Prop} {b L : Nat} {xs : Nat → Int32} {D : va_G} {cI cJ cO cZ : ClassId} {qd mi : Nat} (F9 : LwF p l s m meth c b L xs D cI cJ cO cZ qd mi) {o : Nat} {BB : MdA} {f : Nat → Int} {AA : LdA} {CC : LdC} {MM : MdC} {H : Heap} {ls : Array Slot} {i cells slots : Nat} {x1 x2 x3 : Int} (hAA : ldA qd AA CC) (hP : va_P D vwCl (wMdS cI cJ cZ BB MM ++ (cOut cJ o f :: LDW cI cJ cO AA CC)) H) (hD : va_D (fun q => s.heap.size ≤ q) (wMdS cI cJ cZ BB MM ++ (cOut cJ o f :: LDW cI cJ cO AA CC))) (hS : va_S (fun q => s.heap.size ≤ q) s.heap H []) (hl : lv_has ls 7 [(4, .int (iI (i : Int))), (3, .ref o), (2, .ref BB.a0), (1, .ref AA.h0), (0, .ref b)]) (hi : i + 3 < L) (hL : L ≤ 2048) (q1 : xs (i + 1) = iI x1) (q2 : xs (i + 2) = iI x2) (q3 : xs (i + 3) = iI x3) (r1 : r32 x1) (r2 : r32 x2) (r3 : r32 x3) (hc : cells + 12 ≤ 601024) (hsl : slots + 240 ≤ 7293034) (Rl : LdC → MdC → Prop) (v : vl_breach AA CC MM f x1 x2 x3 Rl)
    (kk : ∀ (f1 : Nat → Int) (A1 : LdA) (C1 : LdC) (M1 : MdC) (H : Heap) (ls : Array Slot), ldA qd A1 C1 → A1.h0 = AA.h0 → Rl C1 M1 → va_P D vwCl (wMdS cI cJ cZ BB M1 ++ (cOut cJ o f1 :: LDW cI cJ cO A1 C1)) H → va_D (fun q => s.heap.size ≤ q) (wMdS cI cJ cZ BB M1 ++ (cOut cJ o f1 :: LDW cI cJ cO A1 C1)) → va_S (fun q => s.heap.size ≤ q) s.heap H [] → lv_has ls 7 [(0, .ref b), (1, .ref AA.h0), (2, .ref BB.a0), (3, .ref o), (4, .int (iI (i : Int)))] → W p l e room_1 s m #[Value.ref b] below meth c H [] (cells + 12) (slots + 240) Q (F0 m 1338 ls [])) :
    W p l e room_1 s m #[Value.ref b] below meth c H [] cells slots Q (F0 m 1046 ls []) := by
  obtain ⟨hx, hb, hml, hown, hts, hX, hbl, hK, hZ, hN, hfl⟩ := F9
  unfold vl_breach at v
  refine lv_aload_n hx hb d_law_1046 rfl (lv_at hl 3 rfl) ?_
  refine lv_aload_n hx hb d_law_1047 rfl (lv_at hl 4 rfl) ?_
  refine lv_iload hx hb d_law_1048 (lv_at hl 0 rfl) ?_
  refine nv_iconst (n := 1) hx hb d_law_1050 ?_
  refine nv_iadd (z := (i : Int) + 1) hx hb d_law_1051 (by first | rfl | omega) ?_
  refine nv_sld hx hb hX hbl (Nat.not_le.mpr hbl) hS (x := x1) (i + 1) (by omega) (by omega) (by omega) q1 d_law_1052 ?_
  refine lv_aload_n hx hb d_law_1053 rfl (lv_at hl 4 rfl) ?_
  refine lv_iload hx hb d_law_1054 (lv_at hl 0 rfl) ?_
  refine nv_iconst (n := 2) hx hb d_law_1056 ?_
  refine nv_iadd (z := (i : Int) + 2) hx hb d_law_1057 (by first | rfl | omega) ?_
  refine nv_sld hx hb hX hbl (Nat.not_le.mpr hbl) hS (x := x2) (i + 2) (by omega) (by omega) (by omega) q2 d_law_1058 ?_
  refine lv_aload_n hx hb d_law_1059 rfl (lv_at hl 1 rfl) ?_
  obtain ⟨Pw1, vw2, v⟩ := v
  have hPs := nv_Pperm hP List.perm_append_comm
  have hDs := nv_Dperm hD List.perm_append_comm
  have hPc := (nv_Papp.mp hPs).1
  have hDc := nv_Dleft hDs
  have hFc := nv_free hDs hS (fun q h => h)
  refine va_calli (nv_runSW (n := 4) (As := [.ref AA.h0, .int (iI x1), .int (iI x2), .ref o]) (rest := []) ⟨hx, hb, hml, hown, hts⟩ (w_breach l D cI cJ cO cZ qd mi s hZ hfl hN o f AA CC hAA H.size x1 x2 Pw1 vw2) hts wd_643 wd_644 wd_0 wd_645 rfl rfl (by decide +kernel) ⟨Nat.le_of_ble_eq_true rfl, Nat.le_of_ble_eq_true rfl⟩ ⟨blWE, fun U hU hW => ⟨rfl, by rw [hU], by rw [hU]; exact hPc, va_K.moved hW.alike hK, hDc, (Ev.rf s).step (fun _ h => h) hS hU hW⟩⟩ rfl rfl hl.1 rfl (lv_room (Nat.le_of_ble_eq_true rfl)) d_law_1060 ⟨by show _ ≤ 601024; omega, by show _ ≤ 7293034; omega⟩) hS (fun q _ h => hFc q h) hFc (fun r u t H1 locs ht hvm hw hB hz1 hk1 hS => ?_)
  obtain ⟨f1, C1⟩ := u
  obtain ⟨A1, hA1, hh0, hP1, hK1, hD1⟩ := hB
  rw [ht] at hP1
  obtain ⟨k, rfl, hw⟩ := hw
  obtain ⟨hP, hD⟩ := nv_join (w1 := (cOut cJ o f1 :: LDW cI cJ cO A1 C1)) hPs hDs hk1 hFc hP1 hD1
  generalize H1 = H at hP hS ⊢
  refine nv_forget hS (fun hS => ?_)
  replace hP := nv_Pperm hP List.perm_append_comm
  replace hD := nv_Dperm hD List.perm_append_comm
  obtain ⟨rk, v⟩ := v k f1 C1 hw
  refine lv_istore (lv' := [(5, .int (iI k)), (4, .int (iI (i : Int))), (3, .ref o), (2, .ref BB.a0), (1, .ref AA.h0), (0, .ref b)]) hx hb d_law_1063 hl (by decide) rfl (fun ls hl => ?_)
  refine lv_aload_n hx hb d_law_1065 rfl (lv_at hl 3 rfl) ?_
  refine lv_aload_n hx hb d_law_1066 rfl (lv_at hl 5 rfl) ?_
  refine lv_iload hx hb d_law_1067 (lv_at hl 1 rfl) ?_
  refine nv_iconst (n := 1) hx hb d_law_1069 ?_
  refine nv_iadd (z := (i : Int) + 1) hx hb d_law_1070 (by first | rfl | omega) ?_
  refine nv_sld hx hb hX hbl (Nat.not_le.mpr hbl) hS (x := x1) (i + 1) (by omega) (by omega) (by omega) q1 d_law_1071 ?_
  refine lv_aload_n hx hb d_law_1072 rfl (lv_at hl 5 rfl) ?_
  refine lv_iload hx hb d_law_1073 (lv_at hl 1 rfl) ?_
  refine nv_iconst (n := 2) hx hb d_law_1075 ?_
  refine nv_iadd (z := (i : Int) + 2) hx hb d_law_1076 (by first | rfl | omega) ?_
  refine nv_sld hx hb hX hbl (Nat.not_le.mpr hbl) hS (x := x2) (i + 2) (by omega) (by omega) (by omega) q2 d_law_1077 ?_
  obtain ⟨Pm3, vm4, v⟩ := v
  have hPc := (nv_Papp.mp hP).1
  have hDc := nv_Dleft hD
  have hFc := nv_free hD hS (fun q h => h)
  refine va_calli (va_runV (As := [.int (iI x1), .int (iI x2)]) (rest := []) ⟨hx, hb, hml, hown, hts⟩ (m_Md_breach l D cI cJ cO cZ BB.a0 BB.a1 BB.a2 BB.a3 BB.a4 BB.a5 BB.a6 BB.a7 BB.a8 BB.a9 BB.a10 BB.a11 BB.a12 BB.a13 BB.a14 BB.a15 BB.a16 BB.a17 BB.a18 BB.a19 BB.a20 BB.a21 BB.a22 BB.a23 H.size MM.th MM.no MM.ca MM.ba MM.nl MM.xa MM.sa MM.da MM.la MM.ra MM.fa MM.ta MM.ua MM.uh MM.uo MM.ma MM.mh MM.ml MM.nf MM.fo MM.fh MM.fs MM.rs MM.ic MM.mn MM.bh MM.bo MM.ya MM.np MM.pa MM.nc MM.cp x1 x2 Pm3 vm4) (nv_cwV (n := 2) hts wd_923 wd_924 wd_925 wd_10 wd_926 (by decide +kernel) ⟨Nat.le_of_ble_eq_true rfl, Nat.le_of_ble_eq_true rfl⟩) ⟨blW, va_recv hK hPc (ci := 8) (q0 := 0) rfl rfl, fun U hU hW => ⟨rfl, by rw [hU], by rw [hU]; exact hPc, va_K.moved hW.alike hK, hDc.weaken (fun _ _ _ _ => trivial)⟩⟩ rfl rfl hl.1 rfl (lv_room (Nat.le_of_ble_eq_true rfl)) d_law_1078 ⟨by show _ ≤ 601024; omega, by show _ ≤ 7293034; omega⟩) hS (fun q _ h => hFc q h) hFc (fun r u t H1 locs ht hvm hw hB hz1 hk1 hS => ?_)
  obtain ⟨u0, u1, u2, u3, u4⟩ := u
  obtain ⟨hP1, hK1, hD1⟩ := hB
  rw [ht] at hP1
  obtain ⟨z, rfl, hw⟩ := hw
  obtain ⟨hP, hD⟩ := nv_join (w1 := wMdS cI cJ cZ BB ((u0, MM.no, MM.ca, MM.ba, MM.nl, MM.xa, MM.sa, MM.da, MM.la, MM.ra, MM.fa, MM.ta, MM.ua, MM.uh, MM.uo, MM.ma, MM.mh, MM.ml, MM.nf, MM.fo, MM.fh, MM.fs, MM.rs, u4, u3, u1, u2, MM.ya, MM.np, MM.pa, MM.nc, MM.cp) : MdC)) hP hD hk1 hFc hP1 hD1
  generalize H1 = H at hP hS ⊢
  refine nv_forget hS (fun hS => ?_)
  replace v := v z u0 u1 u2 u3 u4 hw
  obtain ⟨hth, hz9, hRl⟩ := v
  refine lv_istore (lv' := [(6, .int (iI z)), (5, .int (iI k)), (4, .int (iI (i : Int))), (3, .ref o), (2, .ref BB.a0), (1, .ref AA.h0), (0, .ref b)]) hx hb d_law_1081 hl (by decide) rfl (fun ls hl => ?_)
  refine lv_aload_n hx hb d_law_1083 rfl (lv_at hl 4 rfl) ?_
  refine vp_callSi (nv_runV (wc := wMdS cI cJ cZ BB ((u0, MM.no, MM.ca, MM.ba, MM.nl, MM.xa, MM.sa, MM.da, MM.la, MM.ra, MM.fa, MM.ta, MM.ua, MM.uh, MM.uo, MM.ma, MM.mh, MM.ml, MM.nf, MM.fo, MM.fh, MM.fs, MM.rs, u4, u3, u1, u2, MM.ya, MM.np, MM.pa, MM.nc, MM.cp) : MdC)) (As := []) (rest := []) ⟨hx, hb, hml, hown, hts⟩ (m_Md_thrown l D cI cJ cO cZ BB.a0 BB.a1 BB.a2 BB.a3 BB.a4 BB.a5 BB.a6 BB.a7 BB.a8 BB.a9 BB.a10 BB.a11 BB.a12 BB.a13 BB.a14 BB.a15 BB.a16 BB.a17 BB.a18 BB.a19 BB.a20 BB.a21 BB.a22 BB.a23 u0 MM.no MM.ca MM.ba MM.nl MM.xa MM.sa MM.da MM.la MM.ra MM.fa MM.ta MM.ua MM.uh MM.uo MM.ma MM.mh MM.ml MM.nf MM.fo MM.fh MM.fs MM.rs u4 u3 u1 u2 MM.ya MM.np MM.pa MM.nc MM.cp (fun z => z = u0) (by unfold vc_Md_thrown; rfl)) (nv_cwV (n := 0) hts wd_801 wd_802 wd_803 wd_10 wd_804 (by decide +kernel) ⟨Nat.le_of_ble_eq_true rfl, Nat.le_of_ble_eq_true rfl⟩) hK (nv_Papp.mp hP).1 (va_recv hK hP (ci := 8) (q0 := 0) rfl rfl) rfl hl.1 rfl (Nat.le_of_ble_eq_true rfl) d_law_1084 (by show _ ≤ 601024; omega) (by show _ ≤ 7293034; omega)) (fun r9 hr9 => ?_)
  obtain ⟨z9, rfl, hz8⟩ := hr9
  have hz8 : z9 = k := hz8.trans hth
  rw [hz8]
  refine lv_iload hx hb d_law_1087 (lv_at hl 1 rfl) ?_
  refine nv_icmp_eq (tgt := 1094) hx hb d_law_1089 (by decide) rk rk (fun _ => ?_) (fun h9 => absurd rfl h9)
  refine lv_iload hx hb d_law_1094 (lv_at hl 1 rfl) ?_
  refine nv_if_ne (tgt := 1111) hx hb d_law_1096 (by decide) rk (fun _ => ?_) (fun hk0 => ?_)
  · refine lv_goto (tgt := 1338) hx hb d_law_1111 (by decide) ?_
    exact kk f1 A1 C1 ((u0, MM.no, MM.ca, MM.ba, MM.nl, MM.xa, MM.sa, MM.da, MM.la, MM.ra, MM.fa, MM.ta, MM.ua, MM.uh, MM.uo, MM.ma, MM.mh, MM.ml, MM.nf, MM.fo, MM.fh, MM.fs, MM.rs, u4, u3, u1, u2, MM.ya, MM.np, MM.pa, MM.nc, MM.cp) : MdC) H ls hA1 hh0 hRl hP hD hS (lv_sub hl [6, 5, 4, 3, 2] rfl)
  · obtain ⟨hz7, rz⟩ := hz9 hk0
    refine lv_aload_n hx hb d_law_1099 rfl (lv_at hl 3 rfl) ?_
    refine nv_iconst (n := 0) hx hb d_law_1100 ?_
    refine nv_lald (f := f1) hx hb hK 1 (hP 24 _ rfl) rfl 0 rfl (by decide) (by decide) d_law_1101 ?_
    rw [hz7]
    refine lv_iload hx hb d_law_1102 (lv_at hl 0 rfl) ?_
    refine nv_i2l hx hb d_law_1104 rz ?_
    refine nv_lcmp_eq (tgt := 1111) hx hb d_law_1105 d_law_1106 (by decide) ⟨by have := rz.1; omega, by have := rz.2; omega⟩ ⟨by have := rz.1; omega, by have := rz.2; omega⟩ (fun _ => ?_) (fun h9 => absurd rfl h9)
    refine lv_goto (tgt := 1338) hx hb d_law_1111 (by decide) ?_
    exact kk f1 A1 C1 ((u0, MM.no, MM.ca, MM.ba, MM.nl, MM.xa, MM.sa, MM.da, MM.la, MM.ra, MM.fa, MM.ta, MM.ua, MM.uh, MM.uo, MM.ma, MM.mh, MM.ml, MM.nf, MM.fo, MM.fh, MM.fs, MM.rs, u4, u3, u1, u2, MM.ya, MM.np, MM.pa, MM.nc, MM.cp) : MdC) H ls hA1 hh0 hRl hP hD hS (lv_sub hl [6, 5, 4, 3, 2] rfl)
def vl_page (AA : LdA) (CC : LdC) (MM : MdC) (f : Nat → Int) (x1 x2 x3 : Int) (Rl : LdC → MdC → Prop) : Prop := ∃ Pw1, vw_page AA CC f x1 Pw1 ∧ ∀ (k : Int) (f1 : Nat → Int) (C1 : LdC), Pw1 k f1 C1 → r32 k ∧ (∃ Pm3, vc_Md_page MM.th MM.no MM.ca MM.ba MM.nl MM.xa MM.sa MM.da MM.la MM.ra MM.fa MM.ta MM.ua MM.uh MM.uo MM.ma MM.mh MM.ml MM.nf MM.fo MM.fh MM.fs MM.rs MM.ic MM.mn MM.bh MM.bo MM.ya MM.np MM.pa MM.nc MM.cp x1 Pm3 ∧ ∀ (z : Int) (u0 : Int) (u1 : Nat → Int) (u2 : Int), Pm3 z u0 u1 u2 → u0 = k ∧ (k = 0 → f1 0 = z ∧ r32 z) ∧ Rl C1 ((u0, MM.no, MM.ca, MM.ba, MM.nl, MM.xa, MM.sa, MM.da, MM.la, MM.ra, MM.fa, MM.ta, MM.ua, MM.uh, MM.uo, MM.ma, MM.mh, MM.ml, MM.nf, MM.fo, MM.fh, MM.fs, MM.rs, MM.ic, MM.mn, MM.bh, MM.bo, MM.ya, u2, u1, MM.nc, MM.cp) : MdC))
set_option maxHeartbeats 4000000 in
set_option maxRecDepth 100000 in
theorem c_page {p : Program} {l : Launch} {e : Env} {s : State} {m : MethodId} {below : List Frame} {meth : Method} {c : Code} {Q : State → Prop} {b L : Nat} {xs : Nat → Int32} {D : va_G} {cI cJ cO cZ : ClassId} {qd mi : Nat} (F9 : LwF p l s m meth c b L xs D cI cJ cO cZ qd mi) {o : Nat} {BB : MdA} {f : Nat → Int} {AA : LdA} {CC : LdC} {MM : MdC} {H : Heap} {ls : Array Slot} {i cells slots : Nat} {x1 x2 x3 : Int} (hAA : ldA qd AA CC) (hP : va_P D vwCl (wMdS cI cJ cZ BB MM ++ (cOut cJ o f :: LDW cI cJ cO AA CC)) H) (hD : va_D (fun q => s.heap.size ≤ q) (wMdS cI cJ cZ BB MM ++ (cOut cJ o f :: LDW cI cJ cO AA CC))) (hS : va_S (fun q => s.heap.size ≤ q) s.heap H []) (hl : lv_has ls 7 [(4, .int (iI (i : Int))), (3, .ref o), (2, .ref BB.a0), (1, .ref AA.h0), (0, .ref b)]) (hi : i + 3 < L) (hL : L ≤ 2048) (q1 : xs (i + 1) = iI x1) (q2 : xs (i + 2) = iI x2) (q3 : xs (i + 3) = iI x3) (r1 : r32 x1) (r2 : r32 x2) (r3 : r32 x3) (hc : cells + 12 ≤ 601024) (hsl : slots + 240 ≤ 7293034) (Rl : LdC → MdC → Prop) (v : vl_page AA CC MM f x1 x2 x3 Rl)
    (kk : ∀ (f1 : Nat → Int) (A1 : LdA) (C1 : LdC) (M1 : MdC) (H : Heap) (ls : Array Slot), ldA qd A1 C1 → A1.h0 = AA.h0 → Rl C1 M1 → va_P D vwCl (wMdS cI cJ cZ BB M1 ++ (cOut cJ o f1 :: LDW cI cJ cO A1 C1)) H → va_D (fun q => s.heap.size ≤ q) (wMdS cI cJ cZ BB M1 ++ (cOut cJ o f1 :: LDW cI cJ cO A1 C1)) → va_S (fun q => s.heap.size ≤ q) s.heap H [] → lv_has ls 7 [(0, .ref b), (1, .ref AA.h0), (2, .ref BB.a0), (3, .ref o), (4, .int (iI (i : Int)))] → W p l e room_1 s m #[Value.ref b] below meth c H [] (cells + 12) (slots + 240) Q (F0 m 1338 ls [])) :
    W p l e room_1 s m #[Value.ref b] below meth c H [] cells slots Q (F0 m 1114 ls []) := by
  obtain ⟨hx, hb, hml, hown, hts, hX, hbl, hK, hZ, hN, hfl⟩ := F9
  unfold vl_page at v
  refine lv_aload_n hx hb d_law_1114 rfl (lv_at hl 3 rfl) ?_
  refine lv_aload_n hx hb d_law_1115 rfl (lv_at hl 4 rfl) ?_
  refine lv_iload hx hb d_law_1116 (lv_at hl 0 rfl) ?_
  refine nv_iconst (n := 1) hx hb d_law_1118 ?_
  refine nv_iadd (z := (i : Int) + 1) hx hb d_law_1119 (by first | rfl | omega) ?_
  refine nv_sld hx hb hX hbl (Nat.not_le.mpr hbl) hS (x := x1) (i + 1) (by omega) (by omega) (by omega) q1 d_law_1120 ?_
  refine lv_aload_n hx hb d_law_1121 rfl (lv_at hl 1 rfl) ?_
  obtain ⟨Pw1, vw2, v⟩ := v
  have hPs := nv_Pperm hP List.perm_append_comm
  have hDs := nv_Dperm hD List.perm_append_comm
  have hPc := (nv_Papp.mp hPs).1
  have hDc := nv_Dleft hDs
  have hFc := nv_free hDs hS (fun q h => h)
  refine va_calli (nv_runSW (n := 3) (As := [.ref AA.h0, .int (iI x1), .ref o]) (rest := []) ⟨hx, hb, hml, hown, hts⟩ (w_page l D cI cJ cO cZ qd mi s hZ hfl hN o f AA CC hAA H.size x1 Pw1 vw2) hts wd_650 wd_651 wd_0 wd_652 rfl rfl (by decide +kernel) ⟨Nat.le_of_ble_eq_true rfl, Nat.le_of_ble_eq_true rfl⟩ ⟨blWE, fun U hU hW => ⟨rfl, by rw [hU], by rw [hU]; exact hPc, va_K.moved hW.alike hK, hDc, (Ev.rf s).step (fun _ h => h) hS hU hW⟩⟩ rfl rfl hl.1 rfl (lv_room (Nat.le_of_ble_eq_true rfl)) d_law_1122 ⟨by show _ ≤ 601024; omega, by show _ ≤ 7293034; omega⟩) hS (fun q _ h => hFc q h) hFc (fun r u t H1 locs ht hvm hw hB hz1 hk1 hS => ?_)
  obtain ⟨f1, C1⟩ := u
  obtain ⟨A1, hA1, hh0, hP1, hK1, hD1⟩ := hB
  rw [ht] at hP1
  obtain ⟨k, rfl, hw⟩ := hw
  obtain ⟨hP, hD⟩ := nv_join (w1 := (cOut cJ o f1 :: LDW cI cJ cO A1 C1)) hPs hDs hk1 hFc hP1 hD1
  generalize H1 = H at hP hS ⊢
  refine nv_forget hS (fun hS => ?_)
  replace hP := nv_Pperm hP List.perm_append_comm
  replace hD := nv_Dperm hD List.perm_append_comm
  obtain ⟨rk, v⟩ := v k f1 C1 hw
  refine lv_istore (lv' := [(5, .int (iI k)), (4, .int (iI (i : Int))), (3, .ref o), (2, .ref BB.a0), (1, .ref AA.h0), (0, .ref b)]) hx hb d_law_1125 hl (by decide) rfl (fun ls hl => ?_)
  refine lv_aload_n hx hb d_law_1127 rfl (lv_at hl 3 rfl) ?_
  refine lv_aload_n hx hb d_law_1128 rfl (lv_at hl 5 rfl) ?_
  refine lv_iload hx hb d_law_1129 (lv_at hl 1 rfl) ?_
  refine nv_iconst (n := 1) hx hb d_law_1131 ?_
  refine nv_iadd (z := (i : Int) + 1) hx hb d_law_1132 (by first | rfl | omega) ?_
  refine nv_sld hx hb hX hbl (Nat.not_le.mpr hbl) hS (x := x1) (i + 1) (by omega) (by omega) (by omega) q1 d_law_1133 ?_
  obtain ⟨Pm3, vm4, v⟩ := v
  have hPc := (nv_Papp.mp hP).1
  have hDc := nv_Dleft hD
  have hFc := nv_free hD hS (fun q h => h)
  refine va_calli (va_runV (As := [.int (iI x1)]) (rest := []) ⟨hx, hb, hml, hown, hts⟩ (m_Md_page l D cI cJ cO cZ BB.a0 BB.a1 BB.a2 BB.a3 BB.a4 BB.a5 BB.a6 BB.a7 BB.a8 BB.a9 BB.a10 BB.a11 BB.a12 BB.a13 BB.a14 BB.a15 BB.a16 BB.a17 BB.a18 BB.a19 BB.a20 BB.a21 BB.a22 BB.a23 H.size MM.th MM.no MM.ca MM.ba MM.nl MM.xa MM.sa MM.da MM.la MM.ra MM.fa MM.ta MM.ua MM.uh MM.uo MM.ma MM.mh MM.ml MM.nf MM.fo MM.fh MM.fs MM.rs MM.ic MM.mn MM.bh MM.bo MM.ya MM.np MM.pa MM.nc MM.cp x1 Pm3 vm4) (nv_cwV (n := 1) hts wd_927 wd_928 wd_929 wd_10 wd_930 (by decide +kernel) ⟨Nat.le_of_ble_eq_true rfl, Nat.le_of_ble_eq_true rfl⟩) ⟨blW, va_recv hK hPc (ci := 8) (q0 := 0) rfl rfl, fun U hU hW => ⟨rfl, by rw [hU], by rw [hU]; exact hPc, va_K.moved hW.alike hK, hDc.weaken (fun _ _ _ _ => trivial)⟩⟩ rfl rfl hl.1 rfl (lv_room (Nat.le_of_ble_eq_true rfl)) d_law_1134 ⟨by show _ ≤ 601024; omega, by show _ ≤ 7293034; omega⟩) hS (fun q _ h => hFc q h) hFc (fun r u t H1 locs ht hvm hw hB hz1 hk1 hS => ?_)
  obtain ⟨u0, u1, u2⟩ := u
  obtain ⟨hP1, hK1, hD1⟩ := hB
  rw [ht] at hP1
  obtain ⟨z, rfl, hw⟩ := hw
  obtain ⟨hP, hD⟩ := nv_join (w1 := wMdS cI cJ cZ BB ((u0, MM.no, MM.ca, MM.ba, MM.nl, MM.xa, MM.sa, MM.da, MM.la, MM.ra, MM.fa, MM.ta, MM.ua, MM.uh, MM.uo, MM.ma, MM.mh, MM.ml, MM.nf, MM.fo, MM.fh, MM.fs, MM.rs, MM.ic, MM.mn, MM.bh, MM.bo, MM.ya, u2, u1, MM.nc, MM.cp) : MdC)) hP hD hk1 hFc hP1 hD1
  generalize H1 = H at hP hS ⊢
  refine nv_forget hS (fun hS => ?_)
  replace v := v z u0 u1 u2 hw
  obtain ⟨hth, hz9, hRl⟩ := v
  refine lv_istore (lv' := [(6, .int (iI z)), (5, .int (iI k)), (4, .int (iI (i : Int))), (3, .ref o), (2, .ref BB.a0), (1, .ref AA.h0), (0, .ref b)]) hx hb d_law_1137 hl (by decide) rfl (fun ls hl => ?_)
  refine lv_aload_n hx hb d_law_1139 rfl (lv_at hl 4 rfl) ?_
  refine vp_callSi (nv_runV (wc := wMdS cI cJ cZ BB ((u0, MM.no, MM.ca, MM.ba, MM.nl, MM.xa, MM.sa, MM.da, MM.la, MM.ra, MM.fa, MM.ta, MM.ua, MM.uh, MM.uo, MM.ma, MM.mh, MM.ml, MM.nf, MM.fo, MM.fh, MM.fs, MM.rs, MM.ic, MM.mn, MM.bh, MM.bo, MM.ya, u2, u1, MM.nc, MM.cp) : MdC)) (As := []) (rest := []) ⟨hx, hb, hml, hown, hts⟩ (m_Md_thrown l D cI cJ cO cZ BB.a0 BB.a1 BB.a2 BB.a3 BB.a4 BB.a5 BB.a6 BB.a7 BB.a8 BB.a9 BB.a10 BB.a11 BB.a12 BB.a13 BB.a14 BB.a15 BB.a16 BB.a17 BB.a18 BB.a19 BB.a20 BB.a21 BB.a22 BB.a23 u0 MM.no MM.ca MM.ba MM.nl MM.xa MM.sa MM.da MM.la MM.ra MM.fa MM.ta MM.ua MM.uh MM.uo MM.ma MM.mh MM.ml MM.nf MM.fo MM.fh MM.fs MM.rs MM.ic MM.mn MM.bh MM.bo MM.ya u2 u1 MM.nc MM.cp (fun z => z = u0) (by unfold vc_Md_thrown; rfl)) (nv_cwV (n := 0) hts wd_801 wd_802 wd_803 wd_10 wd_804 (by decide +kernel) ⟨Nat.le_of_ble_eq_true rfl, Nat.le_of_ble_eq_true rfl⟩) hK (nv_Papp.mp hP).1 (va_recv hK hP (ci := 8) (q0 := 0) rfl rfl) rfl hl.1 rfl (Nat.le_of_ble_eq_true rfl) d_law_1140 (by show _ ≤ 601024; omega) (by show _ ≤ 7293034; omega)) (fun r9 hr9 => ?_)
  obtain ⟨z9, rfl, hz8⟩ := hr9
  have hz8 : z9 = k := hz8.trans hth
  rw [hz8]
  refine lv_iload hx hb d_law_1143 (lv_at hl 1 rfl) ?_
  refine nv_icmp_eq (tgt := 1150) hx hb d_law_1145 (by decide) rk rk (fun _ => ?_) (fun h9 => absurd rfl h9)
  refine lv_iload hx hb d_law_1150 (lv_at hl 1 rfl) ?_
  refine nv_if_ne (tgt := 1167) hx hb d_law_1152 (by decide) rk (fun _ => ?_) (fun hk0 => ?_)
  · refine lv_goto (tgt := 1338) hx hb d_law_1167 (by decide) ?_
    exact kk f1 A1 C1 ((u0, MM.no, MM.ca, MM.ba, MM.nl, MM.xa, MM.sa, MM.da, MM.la, MM.ra, MM.fa, MM.ta, MM.ua, MM.uh, MM.uo, MM.ma, MM.mh, MM.ml, MM.nf, MM.fo, MM.fh, MM.fs, MM.rs, MM.ic, MM.mn, MM.bh, MM.bo, MM.ya, u2, u1, MM.nc, MM.cp) : MdC) H ls hA1 hh0 hRl hP hD hS (lv_sub hl [6, 5, 4, 3, 2] rfl)
  · obtain ⟨hz7, rz⟩ := hz9 hk0
    refine lv_aload_n hx hb d_law_1155 rfl (lv_at hl 3 rfl) ?_
    refine nv_iconst (n := 0) hx hb d_law_1156 ?_
    refine nv_lald (f := f1) hx hb hK 1 (hP 24 _ rfl) rfl 0 rfl (by decide) (by decide) d_law_1157 ?_
    rw [hz7]
    refine lv_iload hx hb d_law_1158 (lv_at hl 0 rfl) ?_
    refine nv_i2l hx hb d_law_1160 rz ?_
    refine nv_lcmp_eq (tgt := 1167) hx hb d_law_1161 d_law_1162 (by decide) ⟨by have := rz.1; omega, by have := rz.2; omega⟩ ⟨by have := rz.1; omega, by have := rz.2; omega⟩ (fun _ => ?_) (fun h9 => absurd rfl h9)
    refine lv_goto (tgt := 1338) hx hb d_law_1167 (by decide) ?_
    exact kk f1 A1 C1 ((u0, MM.no, MM.ca, MM.ba, MM.nl, MM.xa, MM.sa, MM.da, MM.la, MM.ra, MM.fa, MM.ta, MM.ua, MM.uh, MM.uo, MM.ma, MM.mh, MM.ml, MM.nf, MM.fo, MM.fh, MM.fs, MM.rs, MM.ic, MM.mn, MM.bh, MM.bo, MM.ya, u2, u1, MM.nc, MM.cp) : MdC) H ls hA1 hh0 hRl hP hD hS (lv_sub hl [6, 5, 4, 3, 2] rfl)
def vl_rotate (AA : LdA) (CC : LdC) (MM : MdC) (f : Nat → Int) (x1 x2 x3 : Int) (Rl : LdC → MdC → Prop) : Prop := ∃ Pw1, vw_rotate AA CC f x1 Pw1 ∧ ∀ (k : Int) (f1 : Nat → Int) (C1 : LdC), Pw1 k f1 C1 → r32 k ∧ (∃ Pm3, vc_Md_rotate MM.th MM.no MM.ca MM.ba MM.nl MM.xa MM.sa MM.da MM.la MM.ra MM.fa MM.ta MM.ua MM.uh MM.uo MM.ma MM.mh MM.ml MM.nf MM.fo MM.fh MM.fs MM.rs MM.ic MM.mn MM.bh MM.bo MM.ya MM.np MM.pa MM.nc MM.cp x1 Pm3 ∧ ∀ (z : Int) (u0 : Int) (u1 : Nat → Int) (u2 : Int), Pm3 z u0 u1 u2 → u0 = k ∧ (k = 0 → f1 0 = z ∧ r32 z) ∧ Rl C1 ((u0, MM.no, MM.ca, MM.ba, MM.nl, MM.xa, MM.sa, MM.da, MM.la, MM.ra, MM.fa, MM.ta, MM.ua, MM.uh, MM.uo, MM.ma, MM.mh, MM.ml, MM.nf, MM.fo, MM.fh, MM.fs, MM.rs, MM.ic, MM.mn, MM.bh, MM.bo, MM.ya, MM.np, MM.pa, u2, u1) : MdC))
set_option maxHeartbeats 4000000 in
set_option maxRecDepth 100000 in
theorem c_rotate {p : Program} {l : Launch} {e : Env} {s : State} {m : MethodId} {below : List Frame} {meth : Method} {c : Code} {Q : State → Prop} {b L : Nat} {xs : Nat → Int32} {D : va_G} {cI cJ cO cZ : ClassId} {qd mi : Nat} (F9 : LwF p l s m meth c b L xs D cI cJ cO cZ qd mi) {o : Nat} {BB : MdA} {f : Nat → Int} {AA : LdA} {CC : LdC} {MM : MdC} {H : Heap} {ls : Array Slot} {i cells slots : Nat} {x1 x2 x3 : Int} (hAA : ldA qd AA CC) (hP : va_P D vwCl (wMdS cI cJ cZ BB MM ++ (cOut cJ o f :: LDW cI cJ cO AA CC)) H) (hD : va_D (fun q => s.heap.size ≤ q) (wMdS cI cJ cZ BB MM ++ (cOut cJ o f :: LDW cI cJ cO AA CC))) (hS : va_S (fun q => s.heap.size ≤ q) s.heap H []) (hl : lv_has ls 7 [(4, .int (iI (i : Int))), (3, .ref o), (2, .ref BB.a0), (1, .ref AA.h0), (0, .ref b)]) (hi : i + 3 < L) (hL : L ≤ 2048) (q1 : xs (i + 1) = iI x1) (q2 : xs (i + 2) = iI x2) (q3 : xs (i + 3) = iI x3) (r1 : r32 x1) (r2 : r32 x2) (r3 : r32 x3) (hc : cells + 12 ≤ 601024) (hsl : slots + 240 ≤ 7293034) (Rl : LdC → MdC → Prop) (v : vl_rotate AA CC MM f x1 x2 x3 Rl)
    (kk : ∀ (f1 : Nat → Int) (A1 : LdA) (C1 : LdC) (M1 : MdC) (H : Heap) (ls : Array Slot), ldA qd A1 C1 → A1.h0 = AA.h0 → Rl C1 M1 → va_P D vwCl (wMdS cI cJ cZ BB M1 ++ (cOut cJ o f1 :: LDW cI cJ cO A1 C1)) H → va_D (fun q => s.heap.size ≤ q) (wMdS cI cJ cZ BB M1 ++ (cOut cJ o f1 :: LDW cI cJ cO A1 C1)) → va_S (fun q => s.heap.size ≤ q) s.heap H [] → lv_has ls 7 [(0, .ref b), (1, .ref AA.h0), (2, .ref BB.a0), (3, .ref o), (4, .int (iI (i : Int)))] → W p l e room_1 s m #[Value.ref b] below meth c H [] (cells + 12) (slots + 240) Q (F0 m 1338 ls [])) :
    W p l e room_1 s m #[Value.ref b] below meth c H [] cells slots Q (F0 m 1170 ls []) := by
  obtain ⟨hx, hb, hml, hown, hts, hX, hbl, hK, hZ, hN, hfl⟩ := F9
  unfold vl_rotate at v
  refine lv_aload_n hx hb d_law_1170 rfl (lv_at hl 3 rfl) ?_
  refine lv_aload_n hx hb d_law_1171 rfl (lv_at hl 4 rfl) ?_
  refine lv_iload hx hb d_law_1172 (lv_at hl 0 rfl) ?_
  refine nv_iconst (n := 1) hx hb d_law_1174 ?_
  refine nv_iadd (z := (i : Int) + 1) hx hb d_law_1175 (by first | rfl | omega) ?_
  refine nv_sld hx hb hX hbl (Nat.not_le.mpr hbl) hS (x := x1) (i + 1) (by omega) (by omega) (by omega) q1 d_law_1176 ?_
  refine lv_aload_n hx hb d_law_1177 rfl (lv_at hl 1 rfl) ?_
  obtain ⟨Pw1, vw2, v⟩ := v
  have hPs := nv_Pperm hP List.perm_append_comm
  have hDs := nv_Dperm hD List.perm_append_comm
  have hPc := (nv_Papp.mp hPs).1
  have hDc := nv_Dleft hDs
  have hFc := nv_free hDs hS (fun q h => h)
  refine va_calli (nv_runSW (n := 3) (As := [.ref AA.h0, .int (iI x1), .ref o]) (rest := []) ⟨hx, hb, hml, hown, hts⟩ (w_rotate l D cI cJ cO cZ qd mi s hZ hfl hN o f AA CC hAA H.size x1 Pw1 vw2) hts wd_662 wd_663 wd_0 wd_664 rfl rfl (by decide +kernel) ⟨Nat.le_of_ble_eq_true rfl, Nat.le_of_ble_eq_true rfl⟩ ⟨blWE, fun U hU hW => ⟨rfl, by rw [hU], by rw [hU]; exact hPc, va_K.moved hW.alike hK, hDc, (Ev.rf s).step (fun _ h => h) hS hU hW⟩⟩ rfl rfl hl.1 rfl (lv_room (Nat.le_of_ble_eq_true rfl)) d_law_1178 ⟨by show _ ≤ 601024; omega, by show _ ≤ 7293034; omega⟩) hS (fun q _ h => hFc q h) hFc (fun r u t H1 locs ht hvm hw hB hz1 hk1 hS => ?_)
  obtain ⟨f1, C1⟩ := u
  obtain ⟨A1, hA1, hh0, hP1, hK1, hD1⟩ := hB
  rw [ht] at hP1
  obtain ⟨k, rfl, hw⟩ := hw
  obtain ⟨hP, hD⟩ := nv_join (w1 := (cOut cJ o f1 :: LDW cI cJ cO A1 C1)) hPs hDs hk1 hFc hP1 hD1
  generalize H1 = H at hP hS ⊢
  refine nv_forget hS (fun hS => ?_)
  replace hP := nv_Pperm hP List.perm_append_comm
  replace hD := nv_Dperm hD List.perm_append_comm
  obtain ⟨rk, v⟩ := v k f1 C1 hw
  refine lv_istore (lv' := [(5, .int (iI k)), (4, .int (iI (i : Int))), (3, .ref o), (2, .ref BB.a0), (1, .ref AA.h0), (0, .ref b)]) hx hb d_law_1181 hl (by decide) rfl (fun ls hl => ?_)
  refine lv_aload_n hx hb d_law_1183 rfl (lv_at hl 3 rfl) ?_
  refine lv_aload_n hx hb d_law_1184 rfl (lv_at hl 5 rfl) ?_
  refine lv_iload hx hb d_law_1185 (lv_at hl 1 rfl) ?_
  refine nv_iconst (n := 1) hx hb d_law_1187 ?_
  refine nv_iadd (z := (i : Int) + 1) hx hb d_law_1188 (by first | rfl | omega) ?_
  refine nv_sld hx hb hX hbl (Nat.not_le.mpr hbl) hS (x := x1) (i + 1) (by omega) (by omega) (by omega) q1 d_law_1189 ?_
  obtain ⟨Pm3, vm4, v⟩ := v
  have hPc := (nv_Papp.mp hP).1
  have hDc := nv_Dleft hD
  have hFc := nv_free hD hS (fun q h => h)
  refine va_calli (va_runV (As := [.int (iI x1)]) (rest := []) ⟨hx, hb, hml, hown, hts⟩ (m_Md_rotate l D cI cJ cO cZ BB.a0 BB.a1 BB.a2 BB.a3 BB.a4 BB.a5 BB.a6 BB.a7 BB.a8 BB.a9 BB.a10 BB.a11 BB.a12 BB.a13 BB.a14 BB.a15 BB.a16 BB.a17 BB.a18 BB.a19 BB.a20 BB.a21 BB.a22 BB.a23 H.size MM.th MM.no MM.ca MM.ba MM.nl MM.xa MM.sa MM.da MM.la MM.ra MM.fa MM.ta MM.ua MM.uh MM.uo MM.ma MM.mh MM.ml MM.nf MM.fo MM.fh MM.fs MM.rs MM.ic MM.mn MM.bh MM.bo MM.ya MM.np MM.pa MM.nc MM.cp x1 Pm3 vm4) (nv_cwV (n := 1) hts wd_931 wd_932 wd_933 wd_10 wd_934 (by decide +kernel) ⟨Nat.le_of_ble_eq_true rfl, Nat.le_of_ble_eq_true rfl⟩) ⟨blW, va_recv hK hPc (ci := 8) (q0 := 0) rfl rfl, fun U hU hW => ⟨rfl, by rw [hU], by rw [hU]; exact hPc, va_K.moved hW.alike hK, hDc.weaken (fun _ _ _ _ => trivial)⟩⟩ rfl rfl hl.1 rfl (lv_room (Nat.le_of_ble_eq_true rfl)) d_law_1190 ⟨by show _ ≤ 601024; omega, by show _ ≤ 7293034; omega⟩) hS (fun q _ h => hFc q h) hFc (fun r u t H1 locs ht hvm hw hB hz1 hk1 hS => ?_)
  obtain ⟨u0, u1, u2⟩ := u
  obtain ⟨hP1, hK1, hD1⟩ := hB
  rw [ht] at hP1
  obtain ⟨z, rfl, hw⟩ := hw
  obtain ⟨hP, hD⟩ := nv_join (w1 := wMdS cI cJ cZ BB ((u0, MM.no, MM.ca, MM.ba, MM.nl, MM.xa, MM.sa, MM.da, MM.la, MM.ra, MM.fa, MM.ta, MM.ua, MM.uh, MM.uo, MM.ma, MM.mh, MM.ml, MM.nf, MM.fo, MM.fh, MM.fs, MM.rs, MM.ic, MM.mn, MM.bh, MM.bo, MM.ya, MM.np, MM.pa, u2, u1) : MdC)) hP hD hk1 hFc hP1 hD1
  generalize H1 = H at hP hS ⊢
  refine nv_forget hS (fun hS => ?_)
  replace v := v z u0 u1 u2 hw
  obtain ⟨hth, hz9, hRl⟩ := v
  refine lv_istore (lv' := [(6, .int (iI z)), (5, .int (iI k)), (4, .int (iI (i : Int))), (3, .ref o), (2, .ref BB.a0), (1, .ref AA.h0), (0, .ref b)]) hx hb d_law_1193 hl (by decide) rfl (fun ls hl => ?_)
  refine lv_aload_n hx hb d_law_1195 rfl (lv_at hl 4 rfl) ?_
  refine vp_callSi (nv_runV (wc := wMdS cI cJ cZ BB ((u0, MM.no, MM.ca, MM.ba, MM.nl, MM.xa, MM.sa, MM.da, MM.la, MM.ra, MM.fa, MM.ta, MM.ua, MM.uh, MM.uo, MM.ma, MM.mh, MM.ml, MM.nf, MM.fo, MM.fh, MM.fs, MM.rs, MM.ic, MM.mn, MM.bh, MM.bo, MM.ya, MM.np, MM.pa, u2, u1) : MdC)) (As := []) (rest := []) ⟨hx, hb, hml, hown, hts⟩ (m_Md_thrown l D cI cJ cO cZ BB.a0 BB.a1 BB.a2 BB.a3 BB.a4 BB.a5 BB.a6 BB.a7 BB.a8 BB.a9 BB.a10 BB.a11 BB.a12 BB.a13 BB.a14 BB.a15 BB.a16 BB.a17 BB.a18 BB.a19 BB.a20 BB.a21 BB.a22 BB.a23 u0 MM.no MM.ca MM.ba MM.nl MM.xa MM.sa MM.da MM.la MM.ra MM.fa MM.ta MM.ua MM.uh MM.uo MM.ma MM.mh MM.ml MM.nf MM.fo MM.fh MM.fs MM.rs MM.ic MM.mn MM.bh MM.bo MM.ya MM.np MM.pa u2 u1 (fun z => z = u0) (by unfold vc_Md_thrown; rfl)) (nv_cwV (n := 0) hts wd_801 wd_802 wd_803 wd_10 wd_804 (by decide +kernel) ⟨Nat.le_of_ble_eq_true rfl, Nat.le_of_ble_eq_true rfl⟩) hK (nv_Papp.mp hP).1 (va_recv hK hP (ci := 8) (q0 := 0) rfl rfl) rfl hl.1 rfl (Nat.le_of_ble_eq_true rfl) d_law_1196 (by show _ ≤ 601024; omega) (by show _ ≤ 7293034; omega)) (fun r9 hr9 => ?_)
  obtain ⟨z9, rfl, hz8⟩ := hr9
  have hz8 : z9 = k := hz8.trans hth
  rw [hz8]
  refine lv_iload hx hb d_law_1199 (lv_at hl 1 rfl) ?_
  refine nv_icmp_eq (tgt := 1206) hx hb d_law_1201 (by decide) rk rk (fun _ => ?_) (fun h9 => absurd rfl h9)
  refine lv_iload hx hb d_law_1206 (lv_at hl 1 rfl) ?_
  refine nv_if_ne (tgt := 1223) hx hb d_law_1208 (by decide) rk (fun _ => ?_) (fun hk0 => ?_)
  · refine lv_goto (tgt := 1338) hx hb d_law_1223 (by decide) ?_
    exact kk f1 A1 C1 ((u0, MM.no, MM.ca, MM.ba, MM.nl, MM.xa, MM.sa, MM.da, MM.la, MM.ra, MM.fa, MM.ta, MM.ua, MM.uh, MM.uo, MM.ma, MM.mh, MM.ml, MM.nf, MM.fo, MM.fh, MM.fs, MM.rs, MM.ic, MM.mn, MM.bh, MM.bo, MM.ya, MM.np, MM.pa, u2, u1) : MdC) H ls hA1 hh0 hRl hP hD hS (lv_sub hl [6, 5, 4, 3, 2] rfl)
  · obtain ⟨hz7, rz⟩ := hz9 hk0
    refine lv_aload_n hx hb d_law_1211 rfl (lv_at hl 3 rfl) ?_
    refine nv_iconst (n := 0) hx hb d_law_1212 ?_
    refine nv_lald (f := f1) hx hb hK 1 (hP 24 _ rfl) rfl 0 rfl (by decide) (by decide) d_law_1213 ?_
    rw [hz7]
    refine lv_iload hx hb d_law_1214 (lv_at hl 0 rfl) ?_
    refine nv_i2l hx hb d_law_1216 rz ?_
    refine nv_lcmp_eq (tgt := 1223) hx hb d_law_1217 d_law_1218 (by decide) ⟨by have := rz.1; omega, by have := rz.2; omega⟩ ⟨by have := rz.1; omega, by have := rz.2; omega⟩ (fun _ => ?_) (fun h9 => absurd rfl h9)
    refine lv_goto (tgt := 1338) hx hb d_law_1223 (by decide) ?_
    exact kk f1 A1 C1 ((u0, MM.no, MM.ca, MM.ba, MM.nl, MM.xa, MM.sa, MM.da, MM.la, MM.ra, MM.fa, MM.ta, MM.ua, MM.uh, MM.uo, MM.ma, MM.mh, MM.ml, MM.nf, MM.fo, MM.fh, MM.fs, MM.rs, MM.ic, MM.mn, MM.bh, MM.bo, MM.ya, MM.np, MM.pa, u2, u1) : MdC) H ls hA1 hh0 hRl hP hD hS (lv_sub hl [6, 5, 4, 3, 2] rfl)
def vl_turned (AA : LdA) (CC : LdC) (MM : MdC) (f : Nat → Int) (x1 x2 x3 : Int) (Rl : LdC → MdC → Prop) : Prop := ∃ Pw1, vw_turned AA CC f x1 Pw1 ∧ ∀ (k : Int) (f1 : Nat → Int) (C1 : LdC), Pw1 k f1 C1 → r32 k ∧ (∃ Pm3, vc_Md_turned MM.th MM.no MM.ca MM.ba MM.nl MM.xa MM.sa MM.da MM.la MM.ra MM.fa MM.ta MM.ua MM.uh MM.uo MM.ma MM.mh MM.ml MM.nf MM.fo MM.fh MM.fs MM.rs MM.ic MM.mn MM.bh MM.bo MM.ya MM.np MM.pa MM.nc MM.cp x1 Pm3 ∧ ∀ (z : Int) (u0 : Int), Pm3 z u0 → u0 = k ∧ (k = 0 → f1 0 = z ∧ r32 z) ∧ Rl C1 ((u0, MM.no, MM.ca, MM.ba, MM.nl, MM.xa, MM.sa, MM.da, MM.la, MM.ra, MM.fa, MM.ta, MM.ua, MM.uh, MM.uo, MM.ma, MM.mh, MM.ml, MM.nf, MM.fo, MM.fh, MM.fs, MM.rs, MM.ic, MM.mn, MM.bh, MM.bo, MM.ya, MM.np, MM.pa, MM.nc, MM.cp) : MdC))
set_option maxHeartbeats 4000000 in
set_option maxRecDepth 100000 in
theorem c_turned {p : Program} {l : Launch} {e : Env} {s : State} {m : MethodId} {below : List Frame} {meth : Method} {c : Code} {Q : State → Prop} {b L : Nat} {xs : Nat → Int32} {D : va_G} {cI cJ cO cZ : ClassId} {qd mi : Nat} (F9 : LwF p l s m meth c b L xs D cI cJ cO cZ qd mi) {o : Nat} {BB : MdA} {f : Nat → Int} {AA : LdA} {CC : LdC} {MM : MdC} {H : Heap} {ls : Array Slot} {i cells slots : Nat} {x1 x2 x3 : Int} (hAA : ldA qd AA CC) (hP : va_P D vwCl (wMdS cI cJ cZ BB MM ++ (cOut cJ o f :: LDW cI cJ cO AA CC)) H) (hD : va_D (fun q => s.heap.size ≤ q) (wMdS cI cJ cZ BB MM ++ (cOut cJ o f :: LDW cI cJ cO AA CC))) (hS : va_S (fun q => s.heap.size ≤ q) s.heap H []) (hl : lv_has ls 7 [(4, .int (iI (i : Int))), (3, .ref o), (2, .ref BB.a0), (1, .ref AA.h0), (0, .ref b)]) (hi : i + 3 < L) (hL : L ≤ 2048) (q1 : xs (i + 1) = iI x1) (q2 : xs (i + 2) = iI x2) (q3 : xs (i + 3) = iI x3) (r1 : r32 x1) (r2 : r32 x2) (r3 : r32 x3) (hc : cells + 12 ≤ 601024) (hsl : slots + 240 ≤ 7293034) (Rl : LdC → MdC → Prop) (v : vl_turned AA CC MM f x1 x2 x3 Rl)
    (kk : ∀ (f1 : Nat → Int) (A1 : LdA) (C1 : LdC) (M1 : MdC) (H : Heap) (ls : Array Slot), ldA qd A1 C1 → A1.h0 = AA.h0 → Rl C1 M1 → va_P D vwCl (wMdS cI cJ cZ BB M1 ++ (cOut cJ o f1 :: LDW cI cJ cO A1 C1)) H → va_D (fun q => s.heap.size ≤ q) (wMdS cI cJ cZ BB M1 ++ (cOut cJ o f1 :: LDW cI cJ cO A1 C1)) → va_S (fun q => s.heap.size ≤ q) s.heap H [] → lv_has ls 7 [(0, .ref b), (1, .ref AA.h0), (2, .ref BB.a0), (3, .ref o), (4, .int (iI (i : Int)))] → W p l e room_1 s m #[Value.ref b] below meth c H [] (cells + 12) (slots + 240) Q (F0 m 1338 ls [])) :
    W p l e room_1 s m #[Value.ref b] below meth c H [] cells slots Q (F0 m 1226 ls []) := by
  obtain ⟨hx, hb, hml, hown, hts, hX, hbl, hK, hZ, hN, hfl⟩ := F9
  unfold vl_turned at v
  refine lv_aload_n hx hb d_law_1226 rfl (lv_at hl 3 rfl) ?_
  refine lv_aload_n hx hb d_law_1227 rfl (lv_at hl 4 rfl) ?_
  refine lv_iload hx hb d_law_1228 (lv_at hl 0 rfl) ?_
  refine nv_iconst (n := 1) hx hb d_law_1230 ?_
  refine nv_iadd (z := (i : Int) + 1) hx hb d_law_1231 (by first | rfl | omega) ?_
  refine nv_sld hx hb hX hbl (Nat.not_le.mpr hbl) hS (x := x1) (i + 1) (by omega) (by omega) (by omega) q1 d_law_1232 ?_
  refine lv_aload_n hx hb d_law_1233 rfl (lv_at hl 1 rfl) ?_
  obtain ⟨Pw1, vw2, v⟩ := v
  have hPs := nv_Pperm hP List.perm_append_comm
  have hDs := nv_Dperm hD List.perm_append_comm
  have hPc := (nv_Papp.mp hPs).1
  have hDc := nv_Dleft hDs
  have hFc := nv_free hDs hS (fun q h => h)
  refine va_calli (nv_runSW (n := 3) (As := [.ref AA.h0, .int (iI x1), .ref o]) (rest := []) ⟨hx, hb, hml, hown, hts⟩ (w_turned l D cI cJ cO cZ qd mi s hZ hfl hN o f AA CC hAA H.size x1 Pw1 vw2) hts wd_681 wd_682 wd_0 wd_683 rfl rfl (by decide +kernel) ⟨Nat.le_of_ble_eq_true rfl, Nat.le_of_ble_eq_true rfl⟩ ⟨blWE, fun U hU hW => ⟨rfl, by rw [hU], by rw [hU]; exact hPc, va_K.moved hW.alike hK, hDc, (Ev.rf s).step (fun _ h => h) hS hU hW⟩⟩ rfl rfl hl.1 rfl (lv_room (Nat.le_of_ble_eq_true rfl)) d_law_1234 ⟨by show _ ≤ 601024; omega, by show _ ≤ 7293034; omega⟩) hS (fun q _ h => hFc q h) hFc (fun r u t H1 locs ht hvm hw hB hz1 hk1 hS => ?_)
  obtain ⟨f1, C1⟩ := u
  obtain ⟨A1, hA1, hh0, hP1, hK1, hD1⟩ := hB
  rw [ht] at hP1
  obtain ⟨k, rfl, hw⟩ := hw
  obtain ⟨hP, hD⟩ := nv_join (w1 := (cOut cJ o f1 :: LDW cI cJ cO A1 C1)) hPs hDs hk1 hFc hP1 hD1
  generalize H1 = H at hP hS ⊢
  refine nv_forget hS (fun hS => ?_)
  replace hP := nv_Pperm hP List.perm_append_comm
  replace hD := nv_Dperm hD List.perm_append_comm
  obtain ⟨rk, v⟩ := v k f1 C1 hw
  refine lv_istore (lv' := [(5, .int (iI k)), (4, .int (iI (i : Int))), (3, .ref o), (2, .ref BB.a0), (1, .ref AA.h0), (0, .ref b)]) hx hb d_law_1237 hl (by decide) rfl (fun ls hl => ?_)
  refine lv_aload_n hx hb d_law_1239 rfl (lv_at hl 3 rfl) ?_
  refine lv_aload_n hx hb d_law_1240 rfl (lv_at hl 5 rfl) ?_
  refine lv_iload hx hb d_law_1241 (lv_at hl 1 rfl) ?_
  refine nv_iconst (n := 1) hx hb d_law_1243 ?_
  refine nv_iadd (z := (i : Int) + 1) hx hb d_law_1244 (by first | rfl | omega) ?_
  refine nv_sld hx hb hX hbl (Nat.not_le.mpr hbl) hS (x := x1) (i + 1) (by omega) (by omega) (by omega) q1 d_law_1245 ?_
  obtain ⟨Pm3, vm4, v⟩ := v
  have hPc := (nv_Papp.mp hP).1
  have hDc := nv_Dleft hD
  have hFc := nv_free hD hS (fun q h => h)
  refine va_calli (va_runV (As := [.int (iI x1)]) (rest := []) ⟨hx, hb, hml, hown, hts⟩ (m_Md_turned l D cI cJ cO cZ BB.a0 BB.a1 BB.a2 BB.a3 BB.a4 BB.a5 BB.a6 BB.a7 BB.a8 BB.a9 BB.a10 BB.a11 BB.a12 BB.a13 BB.a14 BB.a15 BB.a16 BB.a17 BB.a18 BB.a19 BB.a20 BB.a21 BB.a22 BB.a23 H.size MM.th MM.no MM.ca MM.ba MM.nl MM.xa MM.sa MM.da MM.la MM.ra MM.fa MM.ta MM.ua MM.uh MM.uo MM.ma MM.mh MM.ml MM.nf MM.fo MM.fh MM.fs MM.rs MM.ic MM.mn MM.bh MM.bo MM.ya MM.np MM.pa MM.nc MM.cp x1 Pm3 vm4) (nv_cwV (n := 1) hts wd_938 wd_939 wd_940 wd_10 wd_941 (by decide +kernel) ⟨Nat.le_of_ble_eq_true rfl, Nat.le_of_ble_eq_true rfl⟩) ⟨blW, va_recv hK hPc (ci := 8) (q0 := 0) rfl rfl, fun U hU hW => ⟨rfl, by rw [hU], by rw [hU]; exact hPc, va_K.moved hW.alike hK, hDc.weaken (fun _ _ _ _ => trivial)⟩⟩ rfl rfl hl.1 rfl (lv_room (Nat.le_of_ble_eq_true rfl)) d_law_1246 ⟨by show _ ≤ 601024; omega, by show _ ≤ 7293034; omega⟩) hS (fun q _ h => hFc q h) hFc (fun r u t H1 locs ht hvm hw hB hz1 hk1 hS => ?_)
  obtain ⟨u0, rfl⟩ : ∃ z, z = u := ⟨_, rfl⟩
  obtain ⟨hP1, hK1, hD1⟩ := hB
  rw [ht] at hP1
  obtain ⟨z, rfl, hw⟩ := hw
  obtain ⟨hP, hD⟩ := nv_join (w1 := wMdS cI cJ cZ BB ((u0, MM.no, MM.ca, MM.ba, MM.nl, MM.xa, MM.sa, MM.da, MM.la, MM.ra, MM.fa, MM.ta, MM.ua, MM.uh, MM.uo, MM.ma, MM.mh, MM.ml, MM.nf, MM.fo, MM.fh, MM.fs, MM.rs, MM.ic, MM.mn, MM.bh, MM.bo, MM.ya, MM.np, MM.pa, MM.nc, MM.cp) : MdC)) hP hD hk1 hFc hP1 hD1
  generalize H1 = H at hP hS ⊢
  refine nv_forget hS (fun hS => ?_)
  replace v := v z u0 hw
  obtain ⟨hth, hz9, hRl⟩ := v
  refine lv_istore (lv' := [(6, .int (iI z)), (5, .int (iI k)), (4, .int (iI (i : Int))), (3, .ref o), (2, .ref BB.a0), (1, .ref AA.h0), (0, .ref b)]) hx hb d_law_1249 hl (by decide) rfl (fun ls hl => ?_)
  refine lv_aload_n hx hb d_law_1251 rfl (lv_at hl 4 rfl) ?_
  refine vp_callSi (nv_runV (wc := wMdS cI cJ cZ BB ((u0, MM.no, MM.ca, MM.ba, MM.nl, MM.xa, MM.sa, MM.da, MM.la, MM.ra, MM.fa, MM.ta, MM.ua, MM.uh, MM.uo, MM.ma, MM.mh, MM.ml, MM.nf, MM.fo, MM.fh, MM.fs, MM.rs, MM.ic, MM.mn, MM.bh, MM.bo, MM.ya, MM.np, MM.pa, MM.nc, MM.cp) : MdC)) (As := []) (rest := []) ⟨hx, hb, hml, hown, hts⟩ (m_Md_thrown l D cI cJ cO cZ BB.a0 BB.a1 BB.a2 BB.a3 BB.a4 BB.a5 BB.a6 BB.a7 BB.a8 BB.a9 BB.a10 BB.a11 BB.a12 BB.a13 BB.a14 BB.a15 BB.a16 BB.a17 BB.a18 BB.a19 BB.a20 BB.a21 BB.a22 BB.a23 u0 MM.no MM.ca MM.ba MM.nl MM.xa MM.sa MM.da MM.la MM.ra MM.fa MM.ta MM.ua MM.uh MM.uo MM.ma MM.mh MM.ml MM.nf MM.fo MM.fh MM.fs MM.rs MM.ic MM.mn MM.bh MM.bo MM.ya MM.np MM.pa MM.nc MM.cp (fun z => z = u0) (by unfold vc_Md_thrown; rfl)) (nv_cwV (n := 0) hts wd_801 wd_802 wd_803 wd_10 wd_804 (by decide +kernel) ⟨Nat.le_of_ble_eq_true rfl, Nat.le_of_ble_eq_true rfl⟩) hK (nv_Papp.mp hP).1 (va_recv hK hP (ci := 8) (q0 := 0) rfl rfl) rfl hl.1 rfl (Nat.le_of_ble_eq_true rfl) d_law_1252 (by show _ ≤ 601024; omega) (by show _ ≤ 7293034; omega)) (fun r9 hr9 => ?_)
  obtain ⟨z9, rfl, hz8⟩ := hr9
  have hz8 : z9 = k := hz8.trans hth
  rw [hz8]
  refine lv_iload hx hb d_law_1255 (lv_at hl 1 rfl) ?_
  refine nv_icmp_eq (tgt := 1262) hx hb d_law_1257 (by decide) rk rk (fun _ => ?_) (fun h9 => absurd rfl h9)
  refine lv_iload hx hb d_law_1262 (lv_at hl 1 rfl) ?_
  refine nv_if_ne (tgt := 1279) hx hb d_law_1264 (by decide) rk (fun _ => ?_) (fun hk0 => ?_)
  · refine lv_goto (tgt := 1338) hx hb d_law_1279 (by decide) ?_
    exact kk f1 A1 C1 ((u0, MM.no, MM.ca, MM.ba, MM.nl, MM.xa, MM.sa, MM.da, MM.la, MM.ra, MM.fa, MM.ta, MM.ua, MM.uh, MM.uo, MM.ma, MM.mh, MM.ml, MM.nf, MM.fo, MM.fh, MM.fs, MM.rs, MM.ic, MM.mn, MM.bh, MM.bo, MM.ya, MM.np, MM.pa, MM.nc, MM.cp) : MdC) H ls hA1 hh0 hRl hP hD hS (lv_sub hl [6, 5, 4, 3, 2] rfl)
  · obtain ⟨hz7, rz⟩ := hz9 hk0
    refine lv_aload_n hx hb d_law_1267 rfl (lv_at hl 3 rfl) ?_
    refine nv_iconst (n := 0) hx hb d_law_1268 ?_
    refine nv_lald (f := f1) hx hb hK 1 (hP 24 _ rfl) rfl 0 rfl (by decide) (by decide) d_law_1269 ?_
    rw [hz7]
    refine lv_iload hx hb d_law_1270 (lv_at hl 0 rfl) ?_
    refine nv_i2l hx hb d_law_1272 rz ?_
    refine nv_lcmp_eq (tgt := 1279) hx hb d_law_1273 d_law_1274 (by decide) ⟨by have := rz.1; omega, by have := rz.2; omega⟩ ⟨by have := rz.1; omega, by have := rz.2; omega⟩ (fun _ => ?_) (fun h9 => absurd rfl h9)
    refine lv_goto (tgt := 1338) hx hb d_law_1279 (by decide) ?_
    exact kk f1 A1 C1 ((u0, MM.no, MM.ca, MM.ba, MM.nl, MM.xa, MM.sa, MM.da, MM.la, MM.ra, MM.fa, MM.ta, MM.ua, MM.uh, MM.uo, MM.ma, MM.mh, MM.ml, MM.nf, MM.fo, MM.fh, MM.fs, MM.rs, MM.ic, MM.mn, MM.bh, MM.bo, MM.ya, MM.np, MM.pa, MM.nc, MM.cp) : MdC) H ls hA1 hh0 hRl hP hD hS (lv_sub hl [6, 5, 4, 3, 2] rfl)
def vl_count (AA : LdA) (CC : LdC) (MM : MdC) (f : Nat → Int) (x1 x2 x3 : Int) (Rl : LdC → MdC → Prop) : Prop := ∃ Pw1, vw_count AA CC f x1 Pw1 ∧ ∀ (k : Int) (f1 : Nat → Int) (C1 : LdC), Pw1 k f1 C1 → r32 k ∧ (∃ Pm3, vc_Md_count MM.th MM.no MM.ca MM.ba MM.nl MM.xa MM.sa MM.da MM.la MM.ra MM.fa MM.ta MM.ua MM.uh MM.uo MM.ma MM.mh MM.ml MM.nf MM.fo MM.fh MM.fs MM.rs MM.ic MM.mn MM.bh MM.bo MM.ya MM.np MM.pa MM.nc MM.cp x1 Pm3 ∧ ∀ (z : Int) (u0 : Int), Pm3 z u0 → u0 = k ∧ (k = 0 → f1 0 = z ∧ r32 z) ∧ Rl C1 ((u0, MM.no, MM.ca, MM.ba, MM.nl, MM.xa, MM.sa, MM.da, MM.la, MM.ra, MM.fa, MM.ta, MM.ua, MM.uh, MM.uo, MM.ma, MM.mh, MM.ml, MM.nf, MM.fo, MM.fh, MM.fs, MM.rs, MM.ic, MM.mn, MM.bh, MM.bo, MM.ya, MM.np, MM.pa, MM.nc, MM.cp) : MdC))
set_option maxHeartbeats 4000000 in
set_option maxRecDepth 100000 in
theorem c_count {p : Program} {l : Launch} {e : Env} {s : State} {m : MethodId} {below : List Frame} {meth : Method} {c : Code} {Q : State → Prop} {b L : Nat} {xs : Nat → Int32} {D : va_G} {cI cJ cO cZ : ClassId} {qd mi : Nat} (F9 : LwF p l s m meth c b L xs D cI cJ cO cZ qd mi) {o : Nat} {BB : MdA} {f : Nat → Int} {AA : LdA} {CC : LdC} {MM : MdC} {H : Heap} {ls : Array Slot} {i cells slots : Nat} {x1 x2 x3 : Int} (hAA : ldA qd AA CC) (hP : va_P D vwCl (wMdS cI cJ cZ BB MM ++ (cOut cJ o f :: LDW cI cJ cO AA CC)) H) (hD : va_D (fun q => s.heap.size ≤ q) (wMdS cI cJ cZ BB MM ++ (cOut cJ o f :: LDW cI cJ cO AA CC))) (hS : va_S (fun q => s.heap.size ≤ q) s.heap H []) (hl : lv_has ls 7 [(4, .int (iI (i : Int))), (3, .ref o), (2, .ref BB.a0), (1, .ref AA.h0), (0, .ref b)]) (hi : i + 3 < L) (hL : L ≤ 2048) (q1 : xs (i + 1) = iI x1) (q2 : xs (i + 2) = iI x2) (q3 : xs (i + 3) = iI x3) (r1 : r32 x1) (r2 : r32 x2) (r3 : r32 x3) (hc : cells + 12 ≤ 601024) (hsl : slots + 240 ≤ 7293034) (Rl : LdC → MdC → Prop) (v : vl_count AA CC MM f x1 x2 x3 Rl)
    (kk : ∀ (f1 : Nat → Int) (A1 : LdA) (C1 : LdC) (M1 : MdC) (H : Heap) (ls : Array Slot), ldA qd A1 C1 → A1.h0 = AA.h0 → Rl C1 M1 → va_P D vwCl (wMdS cI cJ cZ BB M1 ++ (cOut cJ o f1 :: LDW cI cJ cO A1 C1)) H → va_D (fun q => s.heap.size ≤ q) (wMdS cI cJ cZ BB M1 ++ (cOut cJ o f1 :: LDW cI cJ cO A1 C1)) → va_S (fun q => s.heap.size ≤ q) s.heap H [] → lv_has ls 7 [(0, .ref b), (1, .ref AA.h0), (2, .ref BB.a0), (3, .ref o), (4, .int (iI (i : Int)))] → W p l e room_1 s m #[Value.ref b] below meth c H [] (cells + 12) (slots + 240) Q (F0 m 1338 ls [])) :
    W p l e room_1 s m #[Value.ref b] below meth c H [] cells slots Q (F0 m 1282 ls []) := by
  obtain ⟨hx, hb, hml, hown, hts, hX, hbl, hK, hZ, hN, hfl⟩ := F9
  unfold vl_count at v
  refine lv_aload_n hx hb d_law_1282 rfl (lv_at hl 3 rfl) ?_
  refine lv_aload_n hx hb d_law_1283 rfl (lv_at hl 4 rfl) ?_
  refine lv_iload hx hb d_law_1284 (lv_at hl 0 rfl) ?_
  refine nv_iconst (n := 1) hx hb d_law_1286 ?_
  refine nv_iadd (z := (i : Int) + 1) hx hb d_law_1287 (by first | rfl | omega) ?_
  refine nv_sld hx hb hX hbl (Nat.not_le.mpr hbl) hS (x := x1) (i + 1) (by omega) (by omega) (by omega) q1 d_law_1288 ?_
  refine lv_aload_n hx hb d_law_1289 rfl (lv_at hl 1 rfl) ?_
  obtain ⟨Pw1, vw2, v⟩ := v
  have hPs := nv_Pperm hP List.perm_append_comm
  have hDs := nv_Dperm hD List.perm_append_comm
  have hPc := (nv_Papp.mp hPs).1
  have hDc := nv_Dleft hDs
  have hFc := nv_free hDs hS (fun q h => h)
  refine va_calli (nv_runSW (n := 3) (As := [.ref AA.h0, .int (iI x1), .ref o]) (rest := []) ⟨hx, hb, hml, hown, hts⟩ (w_count l D cI cJ cO cZ qd mi s hZ hfl hN o f AA CC hAA H.size x1 Pw1 vw2) hts wd_688 wd_689 wd_0 wd_690 rfl rfl (by decide +kernel) ⟨Nat.le_of_ble_eq_true rfl, Nat.le_of_ble_eq_true rfl⟩ ⟨blWE, fun U hU hW => ⟨rfl, by rw [hU], by rw [hU]; exact hPc, va_K.moved hW.alike hK, hDc, (Ev.rf s).step (fun _ h => h) hS hU hW⟩⟩ rfl rfl hl.1 rfl (lv_room (Nat.le_of_ble_eq_true rfl)) d_law_1290 ⟨by show _ ≤ 601024; omega, by show _ ≤ 7293034; omega⟩) hS (fun q _ h => hFc q h) hFc (fun r u t H1 locs ht hvm hw hB hz1 hk1 hS => ?_)
  obtain ⟨f1, C1⟩ := u
  obtain ⟨A1, hA1, hh0, hP1, hK1, hD1⟩ := hB
  rw [ht] at hP1
  obtain ⟨k, rfl, hw⟩ := hw
  obtain ⟨hP, hD⟩ := nv_join (w1 := (cOut cJ o f1 :: LDW cI cJ cO A1 C1)) hPs hDs hk1 hFc hP1 hD1
  generalize H1 = H at hP hS ⊢
  refine nv_forget hS (fun hS => ?_)
  replace hP := nv_Pperm hP List.perm_append_comm
  replace hD := nv_Dperm hD List.perm_append_comm
  obtain ⟨rk, v⟩ := v k f1 C1 hw
  refine lv_istore (lv' := [(5, .int (iI k)), (4, .int (iI (i : Int))), (3, .ref o), (2, .ref BB.a0), (1, .ref AA.h0), (0, .ref b)]) hx hb d_law_1293 hl (by decide) rfl (fun ls hl => ?_)
  refine lv_aload_n hx hb d_law_1295 rfl (lv_at hl 3 rfl) ?_
  refine lv_aload_n hx hb d_law_1296 rfl (lv_at hl 5 rfl) ?_
  refine lv_iload hx hb d_law_1297 (lv_at hl 1 rfl) ?_
  refine nv_iconst (n := 1) hx hb d_law_1299 ?_
  refine nv_iadd (z := (i : Int) + 1) hx hb d_law_1300 (by first | rfl | omega) ?_
  refine nv_sld hx hb hX hbl (Nat.not_le.mpr hbl) hS (x := x1) (i + 1) (by omega) (by omega) (by omega) q1 d_law_1301 ?_
  obtain ⟨Pm3, vm4, v⟩ := v
  have hPc := (nv_Papp.mp hP).1
  have hDc := nv_Dleft hD
  have hFc := nv_free hD hS (fun q h => h)
  refine va_calli (va_runV (As := [.int (iI x1)]) (rest := []) ⟨hx, hb, hml, hown, hts⟩ (m_Md_count l D cI cJ cO cZ BB.a0 BB.a1 BB.a2 BB.a3 BB.a4 BB.a5 BB.a6 BB.a7 BB.a8 BB.a9 BB.a10 BB.a11 BB.a12 BB.a13 BB.a14 BB.a15 BB.a16 BB.a17 BB.a18 BB.a19 BB.a20 BB.a21 BB.a22 BB.a23 H.size MM.th MM.no MM.ca MM.ba MM.nl MM.xa MM.sa MM.da MM.la MM.ra MM.fa MM.ta MM.ua MM.uh MM.uo MM.ma MM.mh MM.ml MM.nf MM.fo MM.fh MM.fs MM.rs MM.ic MM.mn MM.bh MM.bo MM.ya MM.np MM.pa MM.nc MM.cp x1 Pm3 vm4) (nv_cwV (n := 1) hts wd_942 wd_943 wd_944 wd_10 wd_945 (by decide +kernel) ⟨Nat.le_of_ble_eq_true rfl, Nat.le_of_ble_eq_true rfl⟩) ⟨blW, va_recv hK hPc (ci := 8) (q0 := 0) rfl rfl, fun U hU hW => ⟨rfl, by rw [hU], by rw [hU]; exact hPc, va_K.moved hW.alike hK, hDc.weaken (fun _ _ _ _ => trivial)⟩⟩ rfl rfl hl.1 rfl (lv_room (Nat.le_of_ble_eq_true rfl)) d_law_1302 ⟨by show _ ≤ 601024; omega, by show _ ≤ 7293034; omega⟩) hS (fun q _ h => hFc q h) hFc (fun r u t H1 locs ht hvm hw hB hz1 hk1 hS => ?_)
  obtain ⟨u0, rfl⟩ : ∃ z, z = u := ⟨_, rfl⟩
  obtain ⟨hP1, hK1, hD1⟩ := hB
  rw [ht] at hP1
  obtain ⟨z, rfl, hw⟩ := hw
  obtain ⟨hP, hD⟩ := nv_join (w1 := wMdS cI cJ cZ BB ((u0, MM.no, MM.ca, MM.ba, MM.nl, MM.xa, MM.sa, MM.da, MM.la, MM.ra, MM.fa, MM.ta, MM.ua, MM.uh, MM.uo, MM.ma, MM.mh, MM.ml, MM.nf, MM.fo, MM.fh, MM.fs, MM.rs, MM.ic, MM.mn, MM.bh, MM.bo, MM.ya, MM.np, MM.pa, MM.nc, MM.cp) : MdC)) hP hD hk1 hFc hP1 hD1
  generalize H1 = H at hP hS ⊢
  refine nv_forget hS (fun hS => ?_)
  replace v := v z u0 hw
  obtain ⟨hth, hz9, hRl⟩ := v
  refine lv_istore (lv' := [(6, .int (iI z)), (5, .int (iI k)), (4, .int (iI (i : Int))), (3, .ref o), (2, .ref BB.a0), (1, .ref AA.h0), (0, .ref b)]) hx hb d_law_1305 hl (by decide) rfl (fun ls hl => ?_)
  refine lv_aload_n hx hb d_law_1307 rfl (lv_at hl 4 rfl) ?_
  refine vp_callSi (nv_runV (wc := wMdS cI cJ cZ BB ((u0, MM.no, MM.ca, MM.ba, MM.nl, MM.xa, MM.sa, MM.da, MM.la, MM.ra, MM.fa, MM.ta, MM.ua, MM.uh, MM.uo, MM.ma, MM.mh, MM.ml, MM.nf, MM.fo, MM.fh, MM.fs, MM.rs, MM.ic, MM.mn, MM.bh, MM.bo, MM.ya, MM.np, MM.pa, MM.nc, MM.cp) : MdC)) (As := []) (rest := []) ⟨hx, hb, hml, hown, hts⟩ (m_Md_thrown l D cI cJ cO cZ BB.a0 BB.a1 BB.a2 BB.a3 BB.a4 BB.a5 BB.a6 BB.a7 BB.a8 BB.a9 BB.a10 BB.a11 BB.a12 BB.a13 BB.a14 BB.a15 BB.a16 BB.a17 BB.a18 BB.a19 BB.a20 BB.a21 BB.a22 BB.a23 u0 MM.no MM.ca MM.ba MM.nl MM.xa MM.sa MM.da MM.la MM.ra MM.fa MM.ta MM.ua MM.uh MM.uo MM.ma MM.mh MM.ml MM.nf MM.fo MM.fh MM.fs MM.rs MM.ic MM.mn MM.bh MM.bo MM.ya MM.np MM.pa MM.nc MM.cp (fun z => z = u0) (by unfold vc_Md_thrown; rfl)) (nv_cwV (n := 0) hts wd_801 wd_802 wd_803 wd_10 wd_804 (by decide +kernel) ⟨Nat.le_of_ble_eq_true rfl, Nat.le_of_ble_eq_true rfl⟩) hK (nv_Papp.mp hP).1 (va_recv hK hP (ci := 8) (q0 := 0) rfl rfl) rfl hl.1 rfl (Nat.le_of_ble_eq_true rfl) d_law_1308 (by show _ ≤ 601024; omega) (by show _ ≤ 7293034; omega)) (fun r9 hr9 => ?_)
  obtain ⟨z9, rfl, hz8⟩ := hr9
  have hz8 : z9 = k := hz8.trans hth
  rw [hz8]
  refine lv_iload hx hb d_law_1311 (lv_at hl 1 rfl) ?_
  refine nv_icmp_eq (tgt := 1318) hx hb d_law_1313 (by decide) rk rk (fun _ => ?_) (fun h9 => absurd rfl h9)
  refine lv_iload hx hb d_law_1318 (lv_at hl 1 rfl) ?_
  refine nv_if_ne (tgt := 1335) hx hb d_law_1320 (by decide) rk (fun _ => ?_) (fun hk0 => ?_)
  · refine lv_goto (tgt := 1338) hx hb d_law_1335 (by decide) ?_
    exact kk f1 A1 C1 ((u0, MM.no, MM.ca, MM.ba, MM.nl, MM.xa, MM.sa, MM.da, MM.la, MM.ra, MM.fa, MM.ta, MM.ua, MM.uh, MM.uo, MM.ma, MM.mh, MM.ml, MM.nf, MM.fo, MM.fh, MM.fs, MM.rs, MM.ic, MM.mn, MM.bh, MM.bo, MM.ya, MM.np, MM.pa, MM.nc, MM.cp) : MdC) H ls hA1 hh0 hRl hP hD hS (lv_sub hl [6, 5, 4, 3, 2] rfl)
  · obtain ⟨hz7, rz⟩ := hz9 hk0
    refine lv_aload_n hx hb d_law_1323 rfl (lv_at hl 3 rfl) ?_
    refine nv_iconst (n := 0) hx hb d_law_1324 ?_
    refine nv_lald (f := f1) hx hb hK 1 (hP 24 _ rfl) rfl 0 rfl (by decide) (by decide) d_law_1325 ?_
    rw [hz7]
    refine lv_iload hx hb d_law_1326 (lv_at hl 0 rfl) ?_
    refine nv_i2l hx hb d_law_1328 rz ?_
    refine nv_lcmp_eq (tgt := 1335) hx hb d_law_1329 d_law_1330 (by decide) ⟨by have := rz.1; omega, by have := rz.2; omega⟩ ⟨by have := rz.1; omega, by have := rz.2; omega⟩ (fun _ => ?_) (fun h9 => absurd rfl h9)
    refine lv_goto (tgt := 1338) hx hb d_law_1335 (by decide) ?_
    exact kk f1 A1 C1 ((u0, MM.no, MM.ca, MM.ba, MM.nl, MM.xa, MM.sa, MM.da, MM.la, MM.ra, MM.fa, MM.ta, MM.ua, MM.uh, MM.uo, MM.ma, MM.mh, MM.ml, MM.nf, MM.fo, MM.fh, MM.fs, MM.rs, MM.ic, MM.mn, MM.bh, MM.bo, MM.ya, MM.np, MM.pa, MM.nc, MM.cp) : MdC) H ls hA1 hh0 hRl hP hD hS (lv_sub hl [6, 5, 4, 3, 2] rfl)
