/-! THE LAW: its loop -/
theorem b_and_r (a b : Int) : r32 (b_and a b) := ⟨by have := Int32.le_toInt (iI a &&& iI b); unfold b_and; omega, by have := Int32.toInt_lt (iI a &&& iI b); unfold b_and; omega⟩
set_option maxHeartbeats 4000000 in
set_option maxRecDepth 100000 in
theorem law_loop {p : Program} {l : Launch} {e : Env} {s : State} {m : MethodId} {below : List Frame} {meth : Method} {c : Code} {b L : Nat} {xs : Nat → Int32} {D : va_G} {cI cJ cO cZ : ClassId} {qd mi : Nat} (hL : L ≤ 2048) (C0 : lw_At p s m meth c b L xs) (F9 : LwF p l s m meth c b L xs D cI cJ cO cZ qd mi) :
    ∀ (n i cells slots : Nat) (AA : LdA) (CC : LdC) (MM : MdC) (f : Nat → Int) (o : Nat) (BB : MdA) (H : Heap) (ls : Array Slot), i ≤ L → L + 1 ≤ i + n → cells + 12 * n ≤ 601024 → slots + 240 * n ≤ 7293034 → ldA qd AA CC → Rl CC MM → va_P D vwCl (wMdS cI cJ cZ BB MM ++ (cOut cJ o f :: LDW cI cJ cO AA CC)) H → va_D (fun q => s.heap.size ≤ q) (wMdS cI cJ cZ BB MM ++ (cOut cJ o f :: LDW cI cJ cO AA CC)) → va_S (fun q => s.heap.size ≤ q) s.heap H [] → lv_has ls 7 [(0, .ref b), (1, .ref AA.h0), (2, .ref BB.a0), (3, .ref o), (4, .int (iI (i : Int)))] → W p l e room_1 s m #[Value.ref b] below meth c H [] cells slots (lw_Z below #[Value.ref b] s) (F0 m 23 ls []) := by
  obtain ⟨hx, hb, hr, hml, hown, hts, hX, hbl, hlocks, hgv⟩ := C0
  have hbA : ¬ (fun q => s.heap.size ≤ q) b := Nat.not_le.mpr hbl
  intro n
  induction n with
  | zero =>
    intro i cells slots AA CC MM f o BB H ls h1 h2
    exact absurd h2 (by omega)
  | succ n ih =>
    intro i cells slots AA CC MM f o BB H ls hi hin hc hsl hA hR hP hD hS hl
    have kk : ∀ (f1 : Nat → Int) (A1 : LdA) (C1 : LdC) (M1 : MdC) (H : Heap) (ls : Array Slot), i + 4 ≤ L → ldA qd A1 C1 → A1.h0 = AA.h0 → Rl C1 M1 → va_P D vwCl (wMdS cI cJ cZ BB M1 ++ (cOut cJ o f1 :: LDW cI cJ cO A1 C1)) H → va_D (fun q => s.heap.size ≤ q) (wMdS cI cJ cZ BB M1 ++ (cOut cJ o f1 :: LDW cI cJ cO A1 C1)) → va_S (fun q => s.heap.size ≤ q) s.heap H [] → lv_has ls 7 [(0, .ref b), (1, .ref AA.h0), (2, .ref BB.a0), (3, .ref o), (4, .int (iI (i : Int)))] → W p l e room_1 s m #[Value.ref b] below meth c H [] (cells + 12) (slots + 240) (lw_Z below #[Value.ref b] s) (F0 m 1338 ls []) := by
      intro f1 A1 C1 M1 H ls hi4 hA1 hh0 hR1 hP hD hS hl
      refine nv_iinc (z := ((i + 4 : Nat) : Int)) (lv' := [(4, .int (iI ((i + 4 : Nat) : Int))), (0, .ref b), (1, .ref AA.h0), (2, .ref BB.a0), (3, .ref o)]) hx hb d_law_1338 hl (k := 4) rfl (by omega) (by decide) rfl (fun ls hl => ?_)
      refine lv_goto (tgt := 23) hx hb d_law_1341 (by decide) ?_
      rw [← hh0] at hl
      exact ih (i + 4) (cells + 12) (slots + 240) A1 C1 M1 f1 o BB H ls hi4 (by omega) (by omega) (by omega) hA1 hR1 hP hD hS (lv_sub hl [1, 2, 3, 4, 0] rfl)
    refine lv_iload hx hb d_law_23 (lv_at hl 4 rfl) ?_
    refine lv_aload_n hx hb d_law_25 rfl (lv_at hl 0 rfl) ?_
    refine va_slen hx hb hX hbl hbA hS d_law_26 ?_
    refine nv_eqi (iI_nat L).symm ?_
    refine nv_iconst (n := 4) hx hb d_law_27 ?_
    refine nv_isub (z := (L : Int) - 4) hx hb d_law_28 rfl ?_
    refine nv_icmp_gt (tgt := 1344) hx hb d_law_29 (by decide) ⟨by omega, by omega⟩ ⟨by omega, by omega⟩ (fun q => ?_) (fun q => ?_)
    · refine nv_iconst (n := 1) hx hb d_law_1344 ?_
      refine W.widen (k := 601024) (n := 7293034) (by omega) (by omega) ?_
      refine nv_eqi (show iI 1 = 1 by decide) ?_
      exact lw_ret hx hb hr hlocks d_law_1345
    · have hi4 : i + 4 ≤ L := by omega
      obtain ⟨x0, r0, q0⟩ := iI_of (xs i)
      obtain ⟨x1, r1, q1⟩ := iI_of (xs (i + 1))
      obtain ⟨x2, r2, q2⟩ := iI_of (xs (i + 2))
      obtain ⟨x3, r3, q3⟩ := iI_of (xs (i + 3))
      refine lv_aload_n hx hb d_law_32 rfl (lv_at hl 0 rfl) ?_
      refine lv_iload hx hb d_law_33 (lv_at hl 4 rfl) ?_
      refine nv_sld hx hb hX hbl (Nat.not_le.mpr hbl) hS (x := x0) i rfl (by omega) (by omega) q0 d_law_35 ?_
      refine nv_bipush (n := 31) (z := 31) hx hb d_law_36 (by decide) ?_
      refine nv_iand hx hb d_law_38 ?_
      have rv := b_and_r x0 31
      have ev : (iI (b_and x0 31)).toInt = b_and x0 31 := iI_toInt rv
      obtain ⟨t0, t1, t2, t3, t4, t5, t6, t7, t8, t9, t10, t11, t12, t13, t14, t15, t16, t17, t18⟩ := lwSteps qd AA CC MM f x1 x2 x3 hA hR r1 r2 r3
      have hl5 := lv_sub hl (l' := [(4, .int (iI (i : Int))), (3, .ref o), (2, .ref BB.a0), (1, .ref AA.h0), (0, .ref b)]) [4, 3, 2, 1, 0] rfl
      generalize b_and x0 31 = v9 at rv ev ⊢
      have hv : (v9 < 0 ∨ 18 < v9) ∨ v9 = 0 ∨ v9 = 1 ∨ v9 = 2 ∨ v9 = 3 ∨ v9 = 4 ∨ v9 = 5 ∨ v9 = 6 ∨ v9 = 7 ∨ v9 = 8 ∨ v9 = 9 ∨ v9 = 10 ∨ v9 = 11 ∨ v9 = 12 ∨ v9 = 13 ∨ v9 = 14 ∨ v9 = 15 ∨ v9 = 16 ∨ v9 = 17 ∨ v9 = 18 := by omega
      rcases hv with hv | hv | hv | hv | hv | hv | hv | hv | hv | hv | hv | hv | hv | hv | hv | hv | hv | hv | hv | hv
      · refine lv_tableOut (tgt := 1338) hx hb d_law_39 (by rw [ev]; exact hv) (by decide) ?_
        refine W.widen (k := cells + 12) (n := slots + 240) (by omega) (by omega) ?_
        exact kk f AA CC MM H ls hi4 hA rfl hR hP hD hS hl
      · refine lv_tableIn (off := 89) (tgt := 128) hx hb d_law_39 (by rw [ev, hv]; decide) (by rw [ev, hv]; decide) (by rw [ev, hv]; rfl) (by decide) ?_
        exact c_object F9 hA hP hD hS hl5 (by omega) hL q1 q2 q3 r1 r2 r3 (by omega) (by omega) Rl t0 (fun f1 A1 C1 M1 H ls a1 a2 a3 a4 a5 a6 a7 => kk f1 A1 C1 M1 H ls hi4 a1 a2 a3 a4 a5 a6 a7)
      · refine lv_tableIn (off := 145) (tgt := 184) hx hb d_law_39 (by rw [ev, hv]; decide) (by rw [ev, hv]; decide) (by rw [ev, hv]; rfl) (by decide) ?_
        exact c_allowed F9 hA hP hD hS hl5 (by omega) hL q1 q2 q3 r1 r2 r3 (by omega) (by omega) Rl t1 (fun f1 A1 C1 M1 H ls a1 a2 a3 a4 a5 a6 a7 => kk f1 A1 C1 M1 H ls hi4 a1 a2 a3 a4 a5 a6 a7)
      · refine lv_tableIn (off := 213) (tgt := 252) hx hb d_law_39 (by rw [ev, hv]; decide) (by rw [ev, hv]; decide) (by rw [ev, hv]; rfl) (by decide) ?_
        exact c_lamp F9 hA hP hD hS hl5 (by omega) hL q1 q2 q3 r1 r2 r3 (by omega) (by omega) Rl t2 (fun f1 A1 C1 M1 H ls a1 a2 a3 a4 a5 a6 a7 => kk f1 A1 C1 M1 H ls hi4 a1 a2 a3 a4 a5 a6 a7)
      · refine lv_tableIn (off := 269) (tgt := 308) hx hb d_law_39 (by rw [ev, hv]; decide) (by rw [ev, hv]; decide) (by rw [ev, hv]; rfl) (by decide) ?_
        exact c_shines F9 hA hP hD hS hl5 (by omega) hL q1 q2 q3 r1 r2 r3 (by omega) (by omega) Rl t3 (fun f1 A1 C1 M1 H ls a1 a2 a3 a4 a5 a6 a7 => kk f1 A1 C1 M1 H ls hi4 a1 a2 a3 a4 a5 a6 a7)
      · refine lv_tableIn (off := 349) (tgt := 388) hx hb d_law_39 (by rw [ev, hv]; decide) (by rw [ev, hv]; decide) (by rw [ev, hv]; rfl) (by decide) ?_
        exact c_daylight F9 hA hP hD hS hl5 (by omega) hL q1 q2 q3 r1 r2 r3 (by omega) (by omega) Rl t4 (fun f1 A1 C1 M1 H ls a1 a2 a3 a4 a5 a6 a7 => kk f1 A1 C1 M1 H ls hi4 a1 a2 a3 a4 a5 a6 a7)
      · refine lv_tableIn (off := 417) (tgt := 456) hx hb d_law_39 (by rw [ev, hv]; decide) (by rw [ev, hv]; decide) (by rw [ev, hv]; rfl) (by decide) ?_
        exact c_shown F9 hA hP hD hS hl5 (by omega) hL q1 q2 q3 r1 r2 r3 (by omega) (by omega) Rl t5 (fun f1 A1 C1 M1 H ls a1 a2 a3 a4 a5 a6 a7 => kk f1 A1 C1 M1 H ls hi4 a1 a2 a3 a4 a5 a6 a7)
      · refine lv_tableIn (off := 497) (tgt := 536) hx hb d_law_39 (by rw [ev, hv]; decide) (by rw [ev, hv]; decide) (by rw [ev, hv]; rfl) (by decide) ?_
        exact c_presence F9 hA hP hD hS hl5 (by omega) hL q1 q2 q3 r1 r2 r3 (by omega) (by omega) Rl t6 (fun f1 A1 C1 M1 H ls a1 a2 a3 a4 a5 a6 a7 => kk f1 A1 C1 M1 H ls hi4 a1 a2 a3 a4 a5 a6 a7)
      · refine lv_tableIn (off := 593) (tgt := 632) hx hb d_law_39 (by rw [ev, hv]; decide) (by rw [ev, hv]; decide) (by rw [ev, hv]; rfl) (by decide) ?_
        exact c_meter F9 hA hP hD hS hl5 (by omega) hL q1 q2 q3 r1 r2 r3 (by omega) (by omega) Rl t7 (fun f1 A1 C1 M1 H ls a1 a2 a3 a4 a5 a6 a7 => kk f1 A1 C1 M1 H ls hi4 a1 a2 a3 a4 a5 a6 a7)
      · refine lv_tableIn (off := 673) (tgt := 712) hx hb d_law_39 (by rw [ev, hv]; decide) (by rw [ev, hv]; decide) (by rw [ev, hv]; rfl) (by decide) ?_
        exact c_flash F9 hA hP hD hS hl5 (by omega) hL q1 q2 q3 r1 r2 r3 (by omega) (by omega) Rl t8 (fun f1 A1 C1 M1 H ls a1 a2 a3 a4 a5 a6 a7 => kk f1 A1 C1 M1 H ls hi4 a1 a2 a3 a4 a5 a6 a7)
      · refine lv_tableIn (off := 753) (tgt := 792) hx hb d_law_39 (by rw [ev, hv]; decide) (by rw [ev, hv]; decide) (by rw [ev, hv]; rfl) (by decide) ?_
        exact c_sum F9 hA hP hD hS hl5 (by omega) hL q1 q2 q3 r1 r2 r3 (by omega) (by omega) Rl t9 (fun f1 A1 C1 M1 H ls a1 a2 a3 a4 a5 a6 a7 => kk f1 A1 C1 M1 H ls hi4 a1 a2 a3 a4 a5 a6 a7)
      · refine lv_tableIn (off := 833) (tgt := 872) hx hb d_law_39 (by rw [ev, hv]; decide) (by rw [ev, hv]; decide) (by rw [ev, hv]; rfl) (by decide) ?_
        exact c_rest F9 hA hP hD hS hl5 (by omega) hL q1 q2 q3 r1 r2 r3 (by omega) (by omega) Rl t10 (fun f1 A1 C1 M1 H ls a1 a2 a3 a4 a5 a6 a7 => kk f1 A1 C1 M1 H ls hi4 a1 a2 a3 a4 a5 a6 a7)
      · refine lv_tableIn (off := 846) (tgt := 885) hx hb d_law_39 (by rw [ev, hv]; decide) (by rw [ev, hv]; decide) (by rw [ev, hv]; rfl) (by decide) ?_
        exact c_left F9 hA hP hD hS hl5 (by omega) hL q1 q2 q3 r1 r2 r3 (by omega) (by omega) Rl t11 (fun f1 A1 C1 M1 H ls a1 a2 a3 a4 a5 a6 a7 => kk f1 A1 C1 M1 H ls hi4 a1 a2 a3 a4 a5 a6 a7)
      · refine lv_tableIn (off := 914) (tgt := 953) hx hb d_law_39 (by rw [ev, hv]; decide) (by rw [ev, hv]; decide) (by rw [ev, hv]; rfl) (by decide) ?_
        exact c_plan F9 hA hP hD hS hl5 (by omega) hL q1 q2 q3 r1 r2 r3 (by omega) (by omega) Rl t12 (fun f1 A1 C1 M1 H ls a1 a2 a3 a4 a5 a6 a7 => kk f1 A1 C1 M1 H ls hi4 a1 a2 a3 a4 a5 a6 a7)
      · refine lv_tableIn (off := 994) (tgt := 1033) hx hb d_law_39 (by rw [ev, hv]; decide) (by rw [ev, hv]; decide) (by rw [ev, hv]; rfl) (by decide) ?_
        exact c_breaches F9 hA hP hD hS hl5 (by omega) hL q1 q2 q3 r1 r2 r3 (by omega) (by omega) Rl t13 (fun f1 A1 C1 M1 H ls a1 a2 a3 a4 a5 a6 a7 => kk f1 A1 C1 M1 H ls hi4 a1 a2 a3 a4 a5 a6 a7)
      · refine lv_tableIn (off := 1007) (tgt := 1046) hx hb d_law_39 (by rw [ev, hv]; decide) (by rw [ev, hv]; decide) (by rw [ev, hv]; rfl) (by decide) ?_
        exact c_breach F9 hA hP hD hS hl5 (by omega) hL q1 q2 q3 r1 r2 r3 (by omega) (by omega) Rl t14 (fun f1 A1 C1 M1 H ls a1 a2 a3 a4 a5 a6 a7 => kk f1 A1 C1 M1 H ls hi4 a1 a2 a3 a4 a5 a6 a7)
      · refine lv_tableIn (off := 1075) (tgt := 1114) hx hb d_law_39 (by rw [ev, hv]; decide) (by rw [ev, hv]; decide) (by rw [ev, hv]; rfl) (by decide) ?_
        exact c_page F9 hA hP hD hS hl5 (by omega) hL q1 q2 q3 r1 r2 r3 (by omega) (by omega) Rl t15 (fun f1 A1 C1 M1 H ls a1 a2 a3 a4 a5 a6 a7 => kk f1 A1 C1 M1 H ls hi4 a1 a2 a3 a4 a5 a6 a7)
      · refine lv_tableIn (off := 1131) (tgt := 1170) hx hb d_law_39 (by rw [ev, hv]; decide) (by rw [ev, hv]; decide) (by rw [ev, hv]; rfl) (by decide) ?_
        exact c_rotate F9 hA hP hD hS hl5 (by omega) hL q1 q2 q3 r1 r2 r3 (by omega) (by omega) Rl t16 (fun f1 A1 C1 M1 H ls a1 a2 a3 a4 a5 a6 a7 => kk f1 A1 C1 M1 H ls hi4 a1 a2 a3 a4 a5 a6 a7)
      · refine lv_tableIn (off := 1187) (tgt := 1226) hx hb d_law_39 (by rw [ev, hv]; decide) (by rw [ev, hv]; decide) (by rw [ev, hv]; rfl) (by decide) ?_
        exact c_turned F9 hA hP hD hS hl5 (by omega) hL q1 q2 q3 r1 r2 r3 (by omega) (by omega) Rl t17 (fun f1 A1 C1 M1 H ls a1 a2 a3 a4 a5 a6 a7 => kk f1 A1 C1 M1 H ls hi4 a1 a2 a3 a4 a5 a6 a7)
      · refine lv_tableIn (off := 1243) (tgt := 1282) hx hb d_law_39 (by rw [ev, hv]; decide) (by rw [ev, hv]; decide) (by rw [ev, hv]; rfl) (by decide) ?_
        exact c_count F9 hA hP hD hS hl5 (by omega) hL q1 q2 q3 r1 r2 r3 (by omega) (by omega) Rl t18 (fun f1 A1 C1 M1 H ls a1 a2 a3 a4 a5 a6 a7 => kk f1 A1 C1 M1 H ls hi4 a1 a2 a3 a4 a5 a6 a7)
