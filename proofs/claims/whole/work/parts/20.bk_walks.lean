/-! MODULE Book -/
theorem d_Bk_mostHours_0 : decode prog_2_method_5_code 0 = .ok (.iconst 0, 1) := by decide +kernel
theorem d_Bk_mostHours_1 : decode prog_2_method_5_code 1 = .ok (.istore_n 3, 1) := by decide +kernel
theorem d_Bk_mostHours_2 : decode prog_2_method_5_code 2 = .ok (.iconst 0, 1) := by decide +kernel
theorem d_Bk_mostHours_3 : decode prog_2_method_5_code 3 = .ok (.istore 4, 2) := by decide +kernel
theorem d_Bk_mostHours_5 : decode prog_2_method_5_code 5 = .ok (.iconst 0, 1) := by decide +kernel
theorem d_Bk_mostHours_6 : decode prog_2_method_5_code 6 = .ok (.istore 5, 2) := by decide +kernel
theorem d_Bk_mostHours_8 : decode prog_2_method_5_code 8 = .ok (.iload 5, 2) := by decide +kernel
theorem d_Bk_mostHours_10 : decode prog_2_method_5_code 10 = .ok (.iload_n 2, 1) := by decide +kernel
theorem d_Bk_mostHours_11 : decode prog_2_method_5_code 11 = .ok (.if_icmp .ge 95, 3) := by decide +kernel
theorem d_Bk_mostHours_14 : decode prog_2_method_5_code 14 = .ok (.iconst (-1), 1) := by decide +kernel
theorem d_Bk_mostHours_15 : decode prog_2_method_5_code 15 = .ok (.istore 6, 2) := by decide +kernel
theorem d_Bk_mostHours_17 : decode prog_2_method_5_code 17 = .ok (.iload_n 1, 1) := by decide +kernel
theorem d_Bk_mostHours_18 : decode prog_2_method_5_code 18 = .ok (.istore 7, 2) := by decide +kernel
theorem d_Bk_mostHours_20 : decode prog_2_method_5_code 20 = .ok (.iload 7, 2) := by decide +kernel
theorem d_Bk_mostHours_22 : decode prog_2_method_5_code 22 = .ok (.aload_n 0, 1) := by decide +kernel
theorem d_Bk_mostHours_23 : decode prog_2_method_5_code 23 = .ok (.getfield 18, 3) := by decide +kernel
theorem d_Bk_mostHours_26 : decode prog_2_method_5_code 26 = .ok (.if_icmp .ge 46, 3) := by decide +kernel
theorem d_Bk_mostHours_29 : decode prog_2_method_5_code 29 = .ok (.iload 4, 2) := by decide +kernel
theorem d_Bk_mostHours_31 : decode prog_2_method_5_code 31 = .ok (.iload 7, 2) := by decide +kernel
theorem d_Bk_mostHours_33 : decode prog_2_method_5_code 33 = .ok (.ishr, 1) := by decide +kernel
theorem d_Bk_mostHours_34 : decode prog_2_method_5_code 34 = .ok (.iconst 1, 1) := by decide +kernel
theorem d_Bk_mostHours_35 : decode prog_2_method_5_code 35 = .ok (.iand, 1) := by decide +kernel
theorem d_Bk_mostHours_36 : decode prog_2_method_5_code 36 = .ok (.ifCond .ne 30, 3) := by decide +kernel
theorem d_Bk_mostHours_39 : decode prog_2_method_5_code 39 = .ok (.iload 6, 2) := by decide +kernel
theorem d_Bk_mostHours_41 : decode prog_2_method_5_code 41 = .ok (.iconst (-1), 1) := by decide +kernel
theorem d_Bk_mostHours_42 : decode prog_2_method_5_code 42 = .ok (.if_icmp .eq 20, 3) := by decide +kernel
theorem d_Bk_mostHours_45 : decode prog_2_method_5_code 45 = .ok (.aload_n 0, 1) := by decide +kernel
theorem d_Bk_mostHours_46 : decode prog_2_method_5_code 46 = .ok (.getfield 9, 3) := by decide +kernel
theorem d_Bk_mostHours_49 : decode prog_2_method_5_code 49 = .ok (.iload 7, 2) := by decide +kernel
theorem d_Bk_mostHours_51 : decode prog_2_method_5_code 51 = .ok (.iaload, 1) := by decide +kernel
theorem d_Bk_mostHours_52 : decode prog_2_method_5_code 52 = .ok (.aload_n 0, 1) := by decide +kernel
theorem d_Bk_mostHours_53 : decode prog_2_method_5_code 53 = .ok (.getfield 9, 3) := by decide +kernel
theorem d_Bk_mostHours_56 : decode prog_2_method_5_code 56 = .ok (.iload 6, 2) := by decide +kernel
theorem d_Bk_mostHours_58 : decode prog_2_method_5_code 58 = .ok (.iaload, 1) := by decide +kernel
theorem d_Bk_mostHours_59 : decode prog_2_method_5_code 59 = .ok (.if_icmp .le 7, 3) := by decide +kernel
theorem d_Bk_mostHours_62 : decode prog_2_method_5_code 62 = .ok (.iload 7, 2) := by decide +kernel
theorem d_Bk_mostHours_64 : decode prog_2_method_5_code 64 = .ok (.istore 6, 2) := by decide +kernel
theorem d_Bk_mostHours_66 : decode prog_2_method_5_code 66 = .ok (.iinc 7 1, 3) := by decide +kernel
theorem d_Bk_mostHours_69 : decode prog_2_method_5_code 69 = .ok (.goto (-49), 3) := by decide +kernel
theorem d_Bk_mostHours_72 : decode prog_2_method_5_code 72 = .ok (.iload 6, 2) := by decide +kernel
theorem d_Bk_mostHours_74 : decode prog_2_method_5_code 74 = .ok (.iconst (-1), 1) := by decide +kernel
theorem d_Bk_mostHours_75 : decode prog_2_method_5_code 75 = .ok (.if_icmp .ne 6, 3) := by decide +kernel
theorem d_Bk_mostHours_78 : decode prog_2_method_5_code 78 = .ok (.goto 28, 3) := by decide +kernel
theorem d_Bk_mostHours_81 : decode prog_2_method_5_code 81 = .ok (.iload 4, 2) := by decide +kernel
theorem d_Bk_mostHours_83 : decode prog_2_method_5_code 83 = .ok (.iconst 1, 1) := by decide +kernel
theorem d_Bk_mostHours_84 : decode prog_2_method_5_code 84 = .ok (.iload 6, 2) := by decide +kernel
theorem d_Bk_mostHours_86 : decode prog_2_method_5_code 86 = .ok (.ishl, 1) := by decide +kernel
theorem d_Bk_mostHours_87 : decode prog_2_method_5_code 87 = .ok (.ior, 1) := by decide +kernel
theorem d_Bk_mostHours_88 : decode prog_2_method_5_code 88 = .ok (.istore 4, 2) := by decide +kernel
theorem d_Bk_mostHours_90 : decode prog_2_method_5_code 90 = .ok (.iload_n 3, 1) := by decide +kernel
theorem d_Bk_mostHours_91 : decode prog_2_method_5_code 91 = .ok (.aload_n 0, 1) := by decide +kernel
theorem d_Bk_mostHours_92 : decode prog_2_method_5_code 92 = .ok (.getfield 9, 3) := by decide +kernel
theorem d_Bk_mostHours_95 : decode prog_2_method_5_code 95 = .ok (.iload 6, 2) := by decide +kernel
theorem d_Bk_mostHours_97 : decode prog_2_method_5_code 97 = .ok (.iaload, 1) := by decide +kernel
theorem d_Bk_mostHours_98 : decode prog_2_method_5_code 98 = .ok (.iadd, 1) := by decide +kernel
theorem d_Bk_mostHours_99 : decode prog_2_method_5_code 99 = .ok (.istore_n 3, 1) := by decide +kernel
theorem d_Bk_mostHours_100 : decode prog_2_method_5_code 100 = .ok (.iinc 5 1, 3) := by decide +kernel
theorem d_Bk_mostHours_103 : decode prog_2_method_5_code 103 = .ok (.goto (-95), 3) := by decide +kernel
theorem d_Bk_mostHours_106 : decode prog_2_method_5_code 106 = .ok (.iload_n 3, 1) := by decide +kernel
theorem d_Bk_mostHours_107 : decode prog_2_method_5_code 107 = .ok (.ireturn, 1) := by decide +kernel
def vc_Bk_mostHours (kh : Nat → Int) (kc : Nat → Int) (kp : Int) (kn : Int) (from_ : Int) (picks : Int) (post : Int → Prop) : Prop := ∃ (I1 : Int → Int → Int → Prop) (μ2 : Int → Int → Int → Nat), I1 0 0 0 ∧ ∀ (tot : Int) (tk : Int) (i : Int), I1 tot tk i → (r32 i) ∧ ((r32 picks) ∧ ((picks ≤ i → post tot) ∧ (i < picks → ∃ (I8 : Int → Int → Prop) (μ9 : Int → Int → Nat), I8 (-1) from_ ∧ ∀ (best : Int) (pg : Int), I8 best pg → (r32 pg) ∧ ((r32 kp) ∧ ((kp ≤ pg → (r32 best) ∧ ((¬ best = (-1) → (0 ≤ best ∧ best < 12) ∧ (I1 (tot + (kh (best).toNat)) (b_or tk (b_shl 1 best)) (i + 1) ∧ μ2 (tot + (kh (best).toNat)) (b_or tk (b_shl 1 best)) (i + 1) < μ2 tot tk i)) ∧ (best = (-1) → post tot))) ∧ (pg < kp → (r32 (b_and (b_shr tk pg) 1)) ∧ ((¬ b_and (b_shr tk pg) 1 = 0 → I8 best (pg + 1) ∧ μ9 best (pg + 1) < μ9 best pg) ∧ (b_and (b_shr tk pg) 1 = 0 → (r32 best) ∧ ((best = (-1) → I8 pg (pg + 1) ∧ μ9 pg (pg + 1) < μ9 best pg) ∧ (¬ best = (-1) → (0 ≤ pg ∧ pg < 12) ∧ ((0 ≤ best ∧ best < 12) ∧ ((r32 (kh (pg).toNat)) ∧ ((r32 (kh (best).toNat)) ∧ ((kh (pg).toNat ≤ kh (best).toNat → I8 best (pg + 1) ∧ μ9 best (pg + 1) < μ9 best pg) ∧ (kh (best).toNat < kh (pg).toNat → I8 pg (pg + 1) ∧ μ9 pg (pg + 1) < μ9 best pg)))))))))))))))
set_option maxHeartbeats 4000000 in
set_option maxRecDepth 100000 in
theorem m_Bk_mostHours (l : Launch) (D : va_G) (cI cJ cO cZ : ClassId) (h0 h1 h2 : Nat) (kh : Nat → Int) (kc : Nat → Int) (kp : Int) (kn : Int) (from_ : Int) (picks : Int) (post : Int → Prop) (v : vc_Bk_mostHours kh kc kp kn from_ picks post) : Met l ⟨"LightDoses$Book", "mostHours", "(II)I"⟩ (.code ⟨"LightDoses$Book", "mostHours", "(II)I"⟩ prog_2_method_5_code 8 (some .int) :: TG) { frames := 0, cells := 0, slots := 0, locals := 0 } (va_Pc [.ref h0, .int (iI from_), .int (iI picks)] (fun U => va_K D vwCl (tyx cI cJ cO cZ) U ∧ va_P D vwCl [(h0, .inr (0, [.ref h1, .ref h2, .int (iI kp), .int (iI kn)])), (h1, .inl (cI, 12, .inl (fun k => iI (kh k)))), (h2, .inl (cI, 12, .inl (fun k => iI (kc k))))] U.heap)) (vp_Si (fun r => ∃ z : Int, r = iI z ∧ post z)) 0 0 (fun _ => False) := by
  refine Met.ofW (cc := prog_2_method_5_code) (maxL := 8) (ret := (some .int)) (by decide) rfl ?_
  intro p e s m args below meth c s₁ B hml hv
  obtain ⟨rfl, hK, hP⟩ := hv
  have hx := B.exec
  have hb := B.bytes
  have hr := B.returns
  have hts0 := atoms_spec (ws := (.code ⟨"LightDoses$Book", "mostHours", "(II)I"⟩ prog_2_method_5_code 8 (some .int) :: TG)) B.pre
  have hts : ∀ w ∈ TG, w.before _ s = true := fun w h => hts0 w (List.mem_cons_of_mem _ h)
  have hown : s.vm.findClass "LightDoses$Book" = some m.cls := findClass_of_methodNamed B.named
  have hlocks := B.notSynchronized
  have hP : va_P D vwCl [(h0, .inr (0, [.ref h1, .ref h2, .int (iI kp), .int (iI kn)])), (h1, .inl (cI, 12, .inl (fun k => iI (kh k)))), (h2, .inl (cI, 12, .inl (fun k => iI (kc k))))] s.heap := hP
  have hl := lv_entry ([Value.ref h0, Value.int (iI from_), Value.int (iI picks)]) (n := 8) (Nat.le_of_ble_eq_true rfl)
  rw [lg_entry_eq]
  generalize (lg_sl ([Value.ref h0, Value.int (iI from_), Value.int (iI picks)]) ++ List.replicate (8 - (lg_sl ([Value.ref h0, Value.int (iI from_), Value.int (iI picks)])).length) Slot.unset).toArray = ls at hl ⊢
  have hl : lv_has ls 8 [(0, .ref h0), (1, .int (iI from_)), (2, .int (iI picks))] := hl
  unfold vc_Bk_mostHours at v
  refine nv_iconst (n := 0) hx hb d_Bk_mostHours_0 ?_
  refine lv_istore_n (lv' := [(3, .int (iI 0)), (0, .ref h0), (1, .int (iI from_)), (2, .int (iI picks))]) hx hb d_Bk_mostHours_1 rfl hl (by decide) rfl (fun ls hl => ?_)
  refine nv_iconst (n := 0) hx hb d_Bk_mostHours_2 ?_
  refine lv_istore (lv' := [(4, .int (iI 0)), (3, .int (iI 0)), (0, .ref h0), (1, .int (iI from_)), (2, .int (iI picks))]) hx hb d_Bk_mostHours_3 hl (by decide) rfl (fun ls hl => ?_)
  refine nv_iconst (n := 0) hx hb d_Bk_mostHours_5 ?_
  refine lv_istore (lv' := [(5, .int (iI 0)), (4, .int (iI 0)), (3, .int (iI 0)), (0, .ref h0), (1, .int (iI from_)), (2, .int (iI picks))]) hx hb d_Bk_mostHours_6 hl (by decide) rfl (fun ls hl => ?_)
  obtain ⟨I1, μ2, v30, v31⟩ := v
  have L32 : ∀ (N : Nat) (tot : Int) (tk : Int) (i : Int) (ls : Array Slot), μ2 tot tk i < N → I1 tot tk i → lv_has ls 8 [(0, .ref h0), (1, .int (iI from_)), (2, .int (iI picks)), (3, .int (iI tot)), (4, .int (iI tk)), (5, .int (iI i))] → W p l e (headSpec (.code ⟨"LightDoses$Book", "mostHours", "(II)I"⟩ prog_2_method_5_code 8 (some .int) :: TG) { frames := 0, cells := 0, slots := 0, locals := 0 }).room s m ([Value.ref h0, Value.int (iI from_), Value.int (iI picks)] : List Value).toArray below meth c s.heap [] 0 0 (MQ below (vp_Si (fun r => ∃ z : Int, r = iI z ∧ post z)) ([Value.ref h0, Value.int (iI from_), Value.int (iI picks)] : List Value).toArray s 0 0 (fun _ => False)) (F0 m 8 ls []) := by
    intro N
    induction N with
    | zero => intro tot tk i ls hN; exact absurd hN (Nat.not_lt_zero _)
    | succ N ih3 =>
      intro tot tk i ls hN4 hI hl
      have v := v31 tot tk i hI
      refine lv_iload hx hb d_Bk_mostHours_8 (lv_at hl 5 rfl) ?_
      refine lv_iload_n hx hb d_Bk_mostHours_10 rfl (lv_at hl 2 rfl) ?_
      obtain ⟨k5, v⟩ := v
      obtain ⟨k6, v⟩ := v
      refine nv_icmp_ge (tgt := 106) hx hb d_Bk_mostHours_11 (by decide) k5 k6 (fun c7 => ?_) (fun c7 => ?_)
      · replace v := v.1 c7
        refine lv_iload_n hx hb d_Bk_mostHours_106 rfl (lv_at hl 3 rfl) ?_
        exact W.iret hx hb hr (fun t ht hW => ⟨_, rfl, ⟨_, rfl, v⟩, ht⟩) (fun q h => by cases h) d_Bk_mostHours_107
      · replace v := v.2 c7
        refine nv_iconst (n := (-1)) hx hb d_Bk_mostHours_14 ?_
        refine lv_istore (lv' := [(6, .int (iI (-1))), (0, .ref h0), (1, .int (iI from_)), (2, .int (iI picks)), (3, .int (iI tot)), (4, .int (iI tk)), (5, .int (iI i))]) hx hb d_Bk_mostHours_15 hl (by decide) rfl (fun ls hl => ?_)
        refine lv_iload_n hx hb d_Bk_mostHours_17 rfl (lv_at hl 2 rfl) ?_
        refine lv_istore (lv' := [(7, .int (iI from_)), (6, .int (iI (-1))), (0, .ref h0), (1, .int (iI from_)), (2, .int (iI picks)), (3, .int (iI tot)), (4, .int (iI tk)), (5, .int (iI i))]) hx hb d_Bk_mostHours_18 hl (by decide) rfl (fun ls hl => ?_)
        obtain ⟨I8, μ9, v27, v28⟩ := v
        have L29 : ∀ (N : Nat) (best : Int) (pg : Int) (ls : Array Slot), μ9 best pg < N → I8 best pg → lv_has ls 8 [(0, .ref h0), (1, .int (iI from_)), (2, .int (iI picks)), (3, .int (iI tot)), (4, .int (iI tk)), (5, .int (iI i)), (6, .int (iI best)), (7, .int (iI pg))] → W p l e (headSpec (.code ⟨"LightDoses$Book", "mostHours", "(II)I"⟩ prog_2_method_5_code 8 (some .int) :: TG) { frames := 0, cells := 0, slots := 0, locals := 0 }).room s m ([Value.ref h0, Value.int (iI from_), Value.int (iI picks)] : List Value).toArray below meth c s.heap [] 0 0 (MQ below (vp_Si (fun r => ∃ z : Int, r = iI z ∧ post z)) ([Value.ref h0, Value.int (iI from_), Value.int (iI picks)] : List Value).toArray s 0 0 (fun _ => False)) (F0 m 20 ls []) := by
          intro N
          induction N with
          | zero => intro best pg ls hN; exact absurd hN (Nat.not_lt_zero _)
          | succ N ih10 =>
            intro best pg ls hN11 hI hl
            have v := v28 best pg hI
            refine lv_iload hx hb d_Bk_mostHours_20 (lv_at hl 7 rfl) ?_
            refine lv_aload_n hx hb d_Bk_mostHours_22 rfl (lv_at hl 0 rfl) ?_
            refine va_get (D := D) (ci := 0) (v := .int (iI kp)) (C := "LightDoses$Book") (T := T_Bk) (N := 4) hx hb hts in_Bk hown hK hP 0 rfl rfl 2 (by decide) (hts _ wd_126) (fun _ h9 => h9) rfl d_Bk_mostHours_23 ?_
            obtain ⟨k12, v⟩ := v
            obtain ⟨k13, v⟩ := v
            refine nv_icmp_ge (tgt := 72) hx hb d_Bk_mostHours_26 (by decide) k12 k13 (fun c14 => ?_) (fun c14 => ?_)
            · replace v := v.1 c14
              refine lv_iload hx hb d_Bk_mostHours_72 (lv_at hl 6 rfl) ?_
              refine nv_iconst (n := (-1)) hx hb d_Bk_mostHours_74 ?_
              obtain ⟨k15, v⟩ := v
              refine nv_icmp_ne (tgt := 81) hx hb d_Bk_mostHours_75 (by decide) k15 (by decide) (fun c16 => ?_) (fun c16 => ?_)
              · replace v := v.1 c16
                refine lv_iload hx hb d_Bk_mostHours_81 (lv_at hl 4 rfl) ?_
                refine nv_iconst (n := 1) hx hb d_Bk_mostHours_83 ?_
                refine lv_iload hx hb d_Bk_mostHours_84 (lv_at hl 6 rfl) ?_
                refine nv_ishl hx hb d_Bk_mostHours_86 ?_
                refine nv_ior hx hb d_Bk_mostHours_87 ?_
                refine lv_istore (lv' := [(4, .int (iI (b_or tk (b_shl 1 best)))), (0, .ref h0), (1, .int (iI from_)), (2, .int (iI picks)), (3, .int (iI tot)), (5, .int (iI i)), (6, .int (iI best)), (7, .int (iI pg))]) hx hb d_Bk_mostHours_88 hl (by decide) rfl (fun ls hl => ?_)
                refine lv_iload_n hx hb d_Bk_mostHours_90 rfl (lv_at hl 4 rfl) ?_
                refine lv_aload_n hx hb d_Bk_mostHours_91 rfl (lv_at hl 1 rfl) ?_
                refine va_get (D := D) (ci := 0) (v := .ref h1) (C := "LightDoses$Book") (T := T_Bk) (N := 4) hx hb hts in_Bk hown hK hP 0 rfl rfl 0 (by decide) (hts _ wd_123) (fun _ h9 => h9) rfl d_Bk_mostHours_92 ?_
                refine lv_iload hx hb d_Bk_mostHours_95 (lv_at hl 6 rfl) ?_
                obtain ⟨k17, v⟩ := v
                refine nv_iald (f := kh) hx hb hK 0 (hP 1 _ rfl) rfl (best).toNat (Int.toNat_of_nonneg k17.1).symm (by omega) (by decide) d_Bk_mostHours_97 ?_
                refine nv_iadd (z := tot + (kh (best).toNat)) hx hb d_Bk_mostHours_98 (by first | rfl | omega) ?_
                refine lv_istore_n (lv' := [(3, .int (iI (tot + (kh (best).toNat)))), (4, .int (iI (b_or tk (b_shl 1 best)))), (0, .ref h0), (1, .int (iI from_)), (2, .int (iI picks)), (5, .int (iI i)), (6, .int (iI best)), (7, .int (iI pg))]) hx hb d_Bk_mostHours_99 rfl hl (by decide) rfl (fun ls hl => ?_)
                refine nv_iinc (k := 5) (z := i + 1) (lv' := [(5, .int (iI (i + 1))), (3, .int (iI (tot + (kh (best).toNat)))), (4, .int (iI (b_or tk (b_shl 1 best)))), (0, .ref h0), (1, .int (iI from_)), (2, .int (iI picks)), (6, .int (iI best)), (7, .int (iI pg))]) hx hb d_Bk_mostHours_100 hl rfl (by omega) (by decide) rfl (fun ls hl => ?_)
                refine lv_goto (tgt := 8) hx hb d_Bk_mostHours_103 (by decide) ?_
                exact ih3 (tot + (kh (best).toNat)) (b_or tk (b_shl 1 best)) (i + 1) ls (Nat.lt_of_lt_of_le v.2 (Nat.le_of_lt_succ hN4)) v.1 (lv_sub hl [3, 4, 5, 1, 2, 0] rfl)
              · replace v := v.2 c16
                refine lv_goto (tgt := 106) hx hb d_Bk_mostHours_78 (by decide) ?_
                refine lv_iload_n hx hb d_Bk_mostHours_106 rfl (lv_at hl 3 rfl) ?_
                exact W.iret hx hb hr (fun t ht hW => ⟨_, rfl, ⟨_, rfl, v⟩, ht⟩) (fun q h => by cases h) d_Bk_mostHours_107
            · replace v := v.2 c14
              refine lv_iload hx hb d_Bk_mostHours_29 (lv_at hl 4 rfl) ?_
              refine lv_iload hx hb d_Bk_mostHours_31 (lv_at hl 7 rfl) ?_
              refine nv_ishr hx hb d_Bk_mostHours_33 ?_
              refine nv_iconst (n := 1) hx hb d_Bk_mostHours_34 ?_
              refine nv_iand hx hb d_Bk_mostHours_35 ?_
              obtain ⟨k18, v⟩ := v
              refine nv_if_ne (tgt := 66) hx hb d_Bk_mostHours_36 (by decide) k18 (fun c19 => ?_) (fun c19 => ?_)
              · replace v := v.1 c19
                refine nv_iinc (k := 7) (z := pg + 1) (lv' := [(7, .int (iI (pg + 1))), (0, .ref h0), (1, .int (iI from_)), (2, .int (iI picks)), (3, .int (iI tot)), (4, .int (iI tk)), (5, .int (iI i)), (6, .int (iI best))]) hx hb d_Bk_mostHours_66 hl rfl (by omega) (by decide) rfl (fun ls hl => ?_)
                refine lv_goto (tgt := 20) hx hb d_Bk_mostHours_69 (by decide) ?_
                exact ih10 best (pg + 1) ls (Nat.lt_of_lt_of_le v.2 (Nat.le_of_lt_succ hN11)) v.1 (lv_sub hl [1, 2, 3, 4, 5, 6, 7, 0] rfl)
              · replace v := v.2 c19
                refine lv_iload hx hb d_Bk_mostHours_39 (lv_at hl 6 rfl) ?_
                refine nv_iconst (n := (-1)) hx hb d_Bk_mostHours_41 ?_
                obtain ⟨k20, v⟩ := v
                refine nv_icmp_eq (tgt := 62) hx hb d_Bk_mostHours_42 (by decide) k20 (by decide) (fun c21 => ?_) (fun c21 => ?_)
                · replace v := v.1 c21
                  refine lv_iload hx hb d_Bk_mostHours_62 (lv_at hl 7 rfl) ?_
                  refine lv_istore (lv' := [(6, .int (iI pg)), (0, .ref h0), (1, .int (iI from_)), (2, .int (iI picks)), (3, .int (iI tot)), (4, .int (iI tk)), (5, .int (iI i)), (7, .int (iI pg))]) hx hb d_Bk_mostHours_64 hl (by decide) rfl (fun ls hl => ?_)
                  refine nv_iinc (k := 7) (z := pg + 1) (lv' := [(7, .int (iI (pg + 1))), (6, .int (iI pg)), (0, .ref h0), (1, .int (iI from_)), (2, .int (iI picks)), (3, .int (iI tot)), (4, .int (iI tk)), (5, .int (iI i))]) hx hb d_Bk_mostHours_66 hl rfl (by omega) (by decide) rfl (fun ls hl => ?_)
                  refine lv_goto (tgt := 20) hx hb d_Bk_mostHours_69 (by decide) ?_
                  exact ih10 pg (pg + 1) ls (Nat.lt_of_lt_of_le v.2 (Nat.le_of_lt_succ hN11)) v.1 (lv_sub hl [2, 3, 4, 5, 6, 7, 1, 0] rfl)
                · replace v := v.2 c21
                  refine lv_aload_n hx hb d_Bk_mostHours_45 rfl (lv_at hl 0 rfl) ?_
                  refine va_get (D := D) (ci := 0) (v := .ref h1) (C := "LightDoses$Book") (T := T_Bk) (N := 4) hx hb hts in_Bk hown hK hP 0 rfl rfl 0 (by decide) (hts _ wd_123) (fun _ h9 => h9) rfl d_Bk_mostHours_46 ?_
                  refine lv_iload hx hb d_Bk_mostHours_49 (lv_at hl 7 rfl) ?_
                  obtain ⟨k22, v⟩ := v
                  refine nv_iald (f := kh) hx hb hK 0 (hP 1 _ rfl) rfl (pg).toNat (Int.toNat_of_nonneg k22.1).symm (by omega) (by decide) d_Bk_mostHours_51 ?_
                  refine lv_aload_n hx hb d_Bk_mostHours_52 rfl (lv_at hl 0 rfl) ?_
                  refine va_get (D := D) (ci := 0) (v := .ref h1) (C := "LightDoses$Book") (T := T_Bk) (N := 4) hx hb hts in_Bk hown hK hP 0 rfl rfl 0 (by decide) (hts _ wd_123) (fun _ h9 => h9) rfl d_Bk_mostHours_53 ?_
                  refine lv_iload hx hb d_Bk_mostHours_56 (lv_at hl 6 rfl) ?_
                  obtain ⟨k23, v⟩ := v
                  refine nv_iald (f := kh) hx hb hK 0 (hP 1 _ rfl) rfl (best).toNat (Int.toNat_of_nonneg k23.1).symm (by omega) (by decide) d_Bk_mostHours_58 ?_
                  obtain ⟨k24, v⟩ := v
                  obtain ⟨k25, v⟩ := v
                  refine nv_icmp_le (tgt := 66) hx hb d_Bk_mostHours_59 (by decide) k24 k25 (fun c26 => ?_) (fun c26 => ?_)
                  · replace v := v.1 c26
                    refine nv_iinc (k := 7) (z := pg + 1) (lv' := [(7, .int (iI (pg + 1))), (0, .ref h0), (1, .int (iI from_)), (2, .int (iI picks)), (3, .int (iI tot)), (4, .int (iI tk)), (5, .int (iI i)), (6, .int (iI best))]) hx hb d_Bk_mostHours_66 hl rfl (by omega) (by decide) rfl (fun ls hl => ?_)
                    refine lv_goto (tgt := 20) hx hb d_Bk_mostHours_69 (by decide) ?_
                    exact ih10 best (pg + 1) ls (Nat.lt_of_lt_of_le v.2 (Nat.le_of_lt_succ hN11)) v.1 (lv_sub hl [1, 2, 3, 4, 5, 6, 7, 0] rfl)
                  · replace v := v.2 c26
                    refine lv_iload hx hb d_Bk_mostHours_62 (lv_at hl 7 rfl) ?_
                    refine lv_istore (lv' := [(6, .int (iI pg)), (0, .ref h0), (1, .int (iI from_)), (2, .int (iI picks)), (3, .int (iI tot)), (4, .int (iI tk)), (5, .int (iI i)), (7, .int (iI pg))]) hx hb d_Bk_mostHours_64 hl (by decide) rfl (fun ls hl => ?_)
                    refine nv_iinc (k := 7) (z := pg + 1) (lv' := [(7, .int (iI (pg + 1))), (6, .int (iI pg)), (0, .ref h0), (1, .int (iI from_)), (2, .int (iI picks)), (3, .int (iI tot)), (4, .int (iI tk)), (5, .int (iI i))]) hx hb d_Bk_mostHours_66 hl rfl (by omega) (by decide) rfl (fun ls hl => ?_)
                    refine lv_goto (tgt := 20) hx hb d_Bk_mostHours_69 (by decide) ?_
                    exact ih10 pg (pg + 1) ls (Nat.lt_of_lt_of_le v.2 (Nat.le_of_lt_succ hN11)) v.1 (lv_sub hl [2, 3, 4, 5, 6, 7, 1, 0] rfl)
        exact L29 _ (-1) from_ ls (Nat.lt_succ_self _) v27 (lv_sub hl [2, 3, 4, 5, 6, 7, 1, 0] rfl)
  exact L32 _ 0 0 0 ls (Nat.lt_succ_self _) v30 (lv_sub hl [3, 4, 5, 2, 1, 0] rfl)

theorem d_Bk_fewestPages_0 : decode prog_2_method_3_code 0 = .ok (.iconst 1, 1) := by decide +kernel
theorem d_Bk_fewestPages_1 : decode prog_2_method_3_code 1 = .ok (.istore_n 2, 1) := by decide +kernel
theorem d_Bk_fewestPages_2 : decode prog_2_method_3_code 2 = .ok (.iload_n 2, 1) := by decide +kernel
theorem d_Bk_fewestPages_3 : decode prog_2_method_3_code 3 = .ok (.aload_n 0, 1) := by decide +kernel
theorem d_Bk_fewestPages_4 : decode prog_2_method_3_code 4 = .ok (.getfield 18, 3) := by decide +kernel
theorem d_Bk_fewestPages_7 : decode prog_2_method_3_code 7 = .ok (.if_icmp .gt 21, 3) := by decide +kernel
theorem d_Bk_fewestPages_10 : decode prog_2_method_3_code 10 = .ok (.aload_n 0, 1) := by decide +kernel
theorem d_Bk_fewestPages_11 : decode prog_2_method_3_code 11 = .ok (.iconst 0, 1) := by decide +kernel
theorem d_Bk_fewestPages_12 : decode prog_2_method_3_code 12 = .ok (.iload_n 2, 1) := by decide +kernel
theorem d_Bk_fewestPages_13 : decode prog_2_method_3_code 13 = .ok (.invokevirtual 25, 3) := by decide +kernel
theorem d_Bk_fewestPages_16 : decode prog_2_method_3_code 16 = .ok (.iload_n 1, 1) := by decide +kernel
theorem d_Bk_fewestPages_17 : decode prog_2_method_3_code 17 = .ok (.if_icmp .lt 5, 3) := by decide +kernel
theorem d_Bk_fewestPages_20 : decode prog_2_method_3_code 20 = .ok (.iload_n 2, 1) := by decide +kernel
theorem d_Bk_fewestPages_21 : decode prog_2_method_3_code 21 = .ok (.ireturn, 1) := by decide +kernel
theorem d_Bk_fewestPages_22 : decode prog_2_method_3_code 22 = .ok (.iinc 2 1, 3) := by decide +kernel
theorem d_Bk_fewestPages_25 : decode prog_2_method_3_code 25 = .ok (.goto (-23), 3) := by decide +kernel
theorem d_Bk_fewestPages_28 : decode prog_2_method_3_code 28 = .ok (.iconst (-1), 1) := by decide +kernel
theorem d_Bk_fewestPages_29 : decode prog_2_method_3_code 29 = .ok (.ireturn, 1) := by decide +kernel
def vc_Bk_fewestPages (kh : Nat → Int) (kc : Nat → Int) (kp : Int) (kn : Int) (need : Int) (post : Int → Prop) : Prop := ∃ (I1 : Int → Prop) (μ2 : Int → Nat), I1 1 ∧ ∀ (i : Int), I1 i → (r32 i) ∧ ((r32 kp) ∧ ((kp < i → post (-1)) ∧ (i ≤ kp → ∃ P8 : Int → Prop, vc_Bk_mostHours kh kc kp kn 0 i P8 ∧ ∀ z9 : Int, P8 z9 → (r32 z9) ∧ ((r32 need) ∧ ((z9 < need → I1 (i + 1) ∧ μ2 (i + 1) < μ2 i) ∧ (need ≤ z9 → post i))))))
set_option maxHeartbeats 4000000 in
set_option maxRecDepth 100000 in
theorem m_Bk_fewestPages (l : Launch) (D : va_G) (cI cJ cO cZ : ClassId) (h0 h1 h2 : Nat) (kh : Nat → Int) (kc : Nat → Int) (kp : Int) (kn : Int) (need : Int) (post : Int → Prop) (v : vc_Bk_fewestPages kh kc kp kn need post) : Met l ⟨"LightDoses$Book", "fewestPages", "(I)I"⟩ (.code ⟨"LightDoses$Book", "fewestPages", "(I)I"⟩ prog_2_method_3_code 3 (some .int) :: TG) { frames := 1, cells := 0, slots := 0, locals := 27 } (va_Pc [.ref h0, .int (iI need)] (fun U => va_K D vwCl (tyx cI cJ cO cZ) U ∧ va_P D vwCl [(h0, .inr (0, [.ref h1, .ref h2, .int (iI kp), .int (iI kn)])), (h1, .inl (cI, 12, .inl (fun k => iI (kh k)))), (h2, .inl (cI, 12, .inl (fun k => iI (kc k))))] U.heap)) (vp_Si (fun r => ∃ z : Int, r = iI z ∧ post z)) 0 0 (fun _ => False) := by
  refine Met.ofW (cc := prog_2_method_3_code) (maxL := 3) (ret := (some .int)) (by decide) rfl ?_
  intro p e s m args below meth c s₁ B hml hv
  obtain ⟨rfl, hK, hP⟩ := hv
  have hx := B.exec
  have hb := B.bytes
  have hr := B.returns
  have hts0 := atoms_spec (ws := (.code ⟨"LightDoses$Book", "fewestPages", "(I)I"⟩ prog_2_method_3_code 3 (some .int) :: TG)) B.pre
  have hts : ∀ w ∈ TG, w.before _ s = true := fun w h => hts0 w (List.mem_cons_of_mem _ h)
  have hown : s.vm.findClass "LightDoses$Book" = some m.cls := findClass_of_methodNamed B.named
  have hlocks := B.notSynchronized
  have hP : va_P D vwCl [(h0, .inr (0, [.ref h1, .ref h2, .int (iI kp), .int (iI kn)])), (h1, .inl (cI, 12, .inl (fun k => iI (kh k)))), (h2, .inl (cI, 12, .inl (fun k => iI (kc k))))] s.heap := hP
  have hl := lv_entry ([Value.ref h0, Value.int (iI need)]) (n := 3) (Nat.le_of_ble_eq_true rfl)
  rw [lg_entry_eq]
  generalize (lg_sl ([Value.ref h0, Value.int (iI need)]) ++ List.replicate (3 - (lg_sl ([Value.ref h0, Value.int (iI need)])).length) Slot.unset).toArray = ls at hl ⊢
  have hl : lv_has ls 3 [(0, .ref h0), (1, .int (iI need))] := hl
  unfold vc_Bk_fewestPages at v
  refine nv_iconst (n := 1) hx hb d_Bk_fewestPages_0 ?_
  refine lv_istore_n (lv' := [(2, .int (iI 1)), (0, .ref h0), (1, .int (iI need))]) hx hb d_Bk_fewestPages_1 rfl hl (by decide) rfl (fun ls hl => ?_)
  obtain ⟨I1, μ2, v14, v15⟩ := v
  have L16 : ∀ (N : Nat) (i : Int) (ls : Array Slot), μ2 i < N → I1 i → lv_has ls 3 [(0, .ref h0), (1, .int (iI need)), (2, .int (iI i))] → W p l e (headSpec (.code ⟨"LightDoses$Book", "fewestPages", "(I)I"⟩ prog_2_method_3_code 3 (some .int) :: TG) { frames := 1, cells := 0, slots := 0, locals := 27 }).room s m ([Value.ref h0, Value.int (iI need)] : List Value).toArray below meth c s.heap [] 0 0 (MQ below (vp_Si (fun r => ∃ z : Int, r = iI z ∧ post z)) ([Value.ref h0, Value.int (iI need)] : List Value).toArray s 0 0 (fun _ => False)) (F0 m 2 ls []) := by
    intro N
    induction N with
    | zero => intro i ls hN; exact absurd hN (Nat.not_lt_zero _)
    | succ N ih3 =>
      intro i ls hN4 hI hl
      have v := v15 i hI
      refine lv_iload_n hx hb d_Bk_fewestPages_2 rfl (lv_at hl 2 rfl) ?_
      refine lv_aload_n hx hb d_Bk_fewestPages_3 rfl (lv_at hl 0 rfl) ?_
      refine va_get (D := D) (ci := 0) (v := .int (iI kp)) (C := "LightDoses$Book") (T := T_Bk) (N := 4) hx hb hts in_Bk hown hK hP 0 rfl rfl 2 (by decide) (hts _ wd_126) (fun _ h9 => h9) rfl d_Bk_fewestPages_4 ?_
      obtain ⟨k5, v⟩ := v
      obtain ⟨k6, v⟩ := v
      refine nv_icmp_gt (tgt := 28) hx hb d_Bk_fewestPages_7 (by decide) k5 k6 (fun c7 => ?_) (fun c7 => ?_)
      · replace v := v.1 c7
        refine nv_iconst (n := (-1)) hx hb d_Bk_fewestPages_28 ?_
        exact W.iret hx hb hr (fun t ht hW => ⟨_, rfl, ⟨_, rfl, v⟩, ht⟩) (fun q h => by cases h) d_Bk_fewestPages_29
      · replace v := v.2 c7
        refine lv_aload_n hx hb d_Bk_fewestPages_10 rfl (lv_at hl 0 rfl) ?_
        refine nv_iconst (n := 0) hx hb d_Bk_fewestPages_11 ?_
        refine lv_iload_n hx hb d_Bk_fewestPages_12 rfl (lv_at hl 2 rfl) ?_
        obtain ⟨P8, q10, v⟩ := v
        refine vp_callSi (nv_runV (wc := [(h0, .inr (0, [.ref h1, .ref h2, .int (iI kp), .int (iI kn)])), (h1, .inl (cI, 12, .inl (fun k => iI (kh k)))), (h2, .inl (cI, 12, .inl (fun k => iI (kc k))))]) (As := [.int (iI 0), .int (iI i)]) (rest := []) ⟨hx, hb, hml, hown, hts⟩ (m_Bk_mostHours l D cI cJ cO cZ h0 h1 h2 kh kc kp kn 0 i P8 q10) (nv_cwV (n := 2) hts wd_673 wd_675 sl_16 wd_9 wd_676 (by decide +kernel) ⟨Nat.le_of_ble_eq_true rfl, Nat.le_of_ble_eq_true rfl⟩) hK (hP.sub [0, 1, 2] rfl) (va_recv hK hP (ci := 0) (q0 := 0) rfl rfl) rfl hl.1 rfl (Nat.le_of_ble_eq_true rfl) d_Bk_fewestPages_13 (Nat.le_of_ble_eq_true rfl) (Nat.le_of_ble_eq_true rfl)) (fun r hr => ?_)
        obtain ⟨z9, rfl, hz⟩ := hr
        replace v := v z9 hz
        refine lv_iload_n hx hb d_Bk_fewestPages_16 rfl (lv_at hl 1 rfl) ?_
        obtain ⟨k11, v⟩ := v
        obtain ⟨k12, v⟩ := v
        refine nv_icmp_lt (tgt := 22) hx hb d_Bk_fewestPages_17 (by decide) k11 k12 (fun c13 => ?_) (fun c13 => ?_)
        · replace v := v.1 c13
          refine nv_iinc (k := 2) (z := i + 1) (lv' := [(2, .int (iI (i + 1))), (0, .ref h0), (1, .int (iI need))]) hx hb d_Bk_fewestPages_22 hl rfl (by omega) (by decide) rfl (fun ls hl => ?_)
          refine lv_goto (tgt := 2) hx hb d_Bk_fewestPages_25 (by decide) ?_
          exact ih3 (i + 1) ls (Nat.lt_of_lt_of_le v.2 (Nat.le_of_lt_succ hN4)) v.1 (lv_sub hl [1, 2, 0] rfl)
        · replace v := v.2 c13
          refine lv_iload_n hx hb d_Bk_fewestPages_20 rfl (lv_at hl 2 rfl) ?_
          exact W.iret hx hb hr (fun t ht hW => ⟨_, rfl, ⟨_, rfl, v⟩, ht⟩) (fun q h => by cases h) d_Bk_fewestPages_21
  exact L16 _ 1 ls (Nat.lt_succ_self _) v14 (lv_sub hl [1, 2, 0] rfl)

theorem d_Bk_choose_0 : decode prog_2_method_4_code 0 = .ok (.iload_n 2, 1) := by decide +kernel
theorem d_Bk_choose_1 : decode prog_2_method_4_code 1 = .ok (.istore_n 3, 1) := by decide +kernel
theorem d_Bk_choose_2 : decode prog_2_method_4_code 2 = .ok (.aload_n 0, 1) := by decide +kernel
theorem d_Bk_choose_3 : decode prog_2_method_4_code 3 = .ok (.iconst 0, 1) := by decide +kernel
theorem d_Bk_choose_4 : decode prog_2_method_4_code 4 = .ok (.putfield 22, 3) := by decide +kernel
theorem d_Bk_choose_7 : decode prog_2_method_4_code 7 = .ok (.iconst 0, 1) := by decide +kernel
theorem d_Bk_choose_8 : decode prog_2_method_4_code 8 = .ok (.istore 4, 2) := by decide +kernel
theorem d_Bk_choose_10 : decode prog_2_method_4_code 10 = .ok (.iload 4, 2) := by decide +kernel
theorem d_Bk_choose_12 : decode prog_2_method_4_code 12 = .ok (.aload_n 0, 1) := by decide +kernel
theorem d_Bk_choose_13 : decode prog_2_method_4_code 13 = .ok (.getfield 18, 3) := by decide +kernel
theorem d_Bk_choose_16 : decode prog_2_method_4_code 16 = .ok (.if_icmp .ge 76, 3) := by decide +kernel
theorem d_Bk_choose_19 : decode prog_2_method_4_code 19 = .ok (.aload_n 0, 1) := by decide +kernel
theorem d_Bk_choose_20 : decode prog_2_method_4_code 20 = .ok (.getfield 22, 3) := by decide +kernel
theorem d_Bk_choose_23 : decode prog_2_method_4_code 23 = .ok (.iload_n 1, 1) := by decide +kernel
theorem d_Bk_choose_24 : decode prog_2_method_4_code 24 = .ok (.if_icmp .ge 68, 3) := by decide +kernel
theorem d_Bk_choose_27 : decode prog_2_method_4_code 27 = .ok (.aload_n 0, 1) := by decide +kernel
theorem d_Bk_choose_28 : decode prog_2_method_4_code 28 = .ok (.getfield 9, 3) := by decide +kernel
theorem d_Bk_choose_31 : decode prog_2_method_4_code 31 = .ok (.iload 4, 2) := by decide +kernel
theorem d_Bk_choose_33 : decode prog_2_method_4_code 33 = .ok (.iaload, 1) := by decide +kernel
theorem d_Bk_choose_34 : decode prog_2_method_4_code 34 = .ok (.aload_n 0, 1) := by decide +kernel
theorem d_Bk_choose_35 : decode prog_2_method_4_code 35 = .ok (.iload 4, 2) := by decide +kernel
theorem d_Bk_choose_37 : decode prog_2_method_4_code 37 = .ok (.iconst 1, 1) := by decide +kernel
theorem d_Bk_choose_38 : decode prog_2_method_4_code 38 = .ok (.iadd, 1) := by decide +kernel
theorem d_Bk_choose_39 : decode prog_2_method_4_code 39 = .ok (.iload_n 1, 1) := by decide +kernel
theorem d_Bk_choose_40 : decode prog_2_method_4_code 40 = .ok (.aload_n 0, 1) := by decide +kernel
theorem d_Bk_choose_41 : decode prog_2_method_4_code 41 = .ok (.getfield 22, 3) := by decide +kernel
theorem d_Bk_choose_44 : decode prog_2_method_4_code 44 = .ok (.isub, 1) := by decide +kernel
theorem d_Bk_choose_45 : decode prog_2_method_4_code 45 = .ok (.iconst 1, 1) := by decide +kernel
theorem d_Bk_choose_46 : decode prog_2_method_4_code 46 = .ok (.isub, 1) := by decide +kernel
theorem d_Bk_choose_47 : decode prog_2_method_4_code 47 = .ok (.invokevirtual 25, 3) := by decide +kernel
theorem d_Bk_choose_50 : decode prog_2_method_4_code 50 = .ok (.iadd, 1) := by decide +kernel
theorem d_Bk_choose_51 : decode prog_2_method_4_code 51 = .ok (.iload_n 3, 1) := by decide +kernel
theorem d_Bk_choose_52 : decode prog_2_method_4_code 52 = .ok (.if_icmp .lt 34, 3) := by decide +kernel
theorem d_Bk_choose_55 : decode prog_2_method_4_code 55 = .ok (.iload_n 3, 1) := by decide +kernel
theorem d_Bk_choose_56 : decode prog_2_method_4_code 56 = .ok (.aload_n 0, 1) := by decide +kernel
theorem d_Bk_choose_57 : decode prog_2_method_4_code 57 = .ok (.getfield 9, 3) := by decide +kernel
theorem d_Bk_choose_60 : decode prog_2_method_4_code 60 = .ok (.iload 4, 2) := by decide +kernel
theorem d_Bk_choose_62 : decode prog_2_method_4_code 62 = .ok (.iaload, 1) := by decide +kernel
theorem d_Bk_choose_63 : decode prog_2_method_4_code 63 = .ok (.isub, 1) := by decide +kernel
theorem d_Bk_choose_64 : decode prog_2_method_4_code 64 = .ok (.istore_n 3, 1) := by decide +kernel
theorem d_Bk_choose_65 : decode prog_2_method_4_code 65 = .ok (.aload_n 0, 1) := by decide +kernel
theorem d_Bk_choose_66 : decode prog_2_method_4_code 66 = .ok (.getfield 15, 3) := by decide +kernel
theorem d_Bk_choose_69 : decode prog_2_method_4_code 69 = .ok (.aload_n 0, 1) := by decide +kernel
theorem d_Bk_choose_70 : decode prog_2_method_4_code 70 = .ok (.getfield 22, 3) := by decide +kernel
theorem d_Bk_choose_73 : decode prog_2_method_4_code 73 = .ok (.iload 4, 2) := by decide +kernel
theorem d_Bk_choose_75 : decode prog_2_method_4_code 75 = .ok (.iastore, 1) := by decide +kernel
theorem d_Bk_choose_76 : decode prog_2_method_4_code 76 = .ok (.aload_n 0, 1) := by decide +kernel
theorem d_Bk_choose_77 : decode prog_2_method_4_code 77 = .ok (.dup, 1) := by decide +kernel
theorem d_Bk_choose_78 : decode prog_2_method_4_code 78 = .ok (.getfield 22, 3) := by decide +kernel
theorem d_Bk_choose_81 : decode prog_2_method_4_code 81 = .ok (.iconst 1, 1) := by decide +kernel
theorem d_Bk_choose_82 : decode prog_2_method_4_code 82 = .ok (.iadd, 1) := by decide +kernel
theorem d_Bk_choose_83 : decode prog_2_method_4_code 83 = .ok (.putfield 22, 3) := by decide +kernel
theorem d_Bk_choose_86 : decode prog_2_method_4_code 86 = .ok (.iinc 4 1, 3) := by decide +kernel
theorem d_Bk_choose_89 : decode prog_2_method_4_code 89 = .ok (.goto (-79), 3) := by decide +kernel
theorem d_Bk_choose_92 : decode prog_2_method_4_code 92 = .ok (.return_, 1) := by decide +kernel
def vc_Bk_choose (kh : Nat → Int) (kc : Nat → Int) (kp : Int) (kn : Int) (picks : Int) (need : Int) (post : (Nat → Int) → Int → Prop) : Prop := ∃ (I1 : Int → Int → (Nat → Int) → Int → Prop) (μ2 : Int → Int → (Nat → Int) → Int → Nat), I1 need 0 kc 0 ∧ ∀ (ms : Int) (pg : Int) (gc : Nat → Int) (gn : Int), I1 ms pg gc gn → (r32 pg) ∧ ((r32 kp) ∧ ((kp ≤ pg → post gc gn) ∧ (pg < kp → (r32 gn) ∧ ((r32 picks) ∧ ((picks ≤ gn → post gc gn) ∧ (gn < picks → (0 ≤ pg ∧ pg < 12) ∧ (∃ P12 : Int → Prop, vc_Bk_mostHours kh gc kp gn (pg + 1) (picks - gn - 1) P12 ∧ ∀ z13 : Int, P12 z13 → (r32 (kh (pg).toNat + z13)) ∧ ((r32 ms) ∧ ((kh (pg).toNat + z13 < ms → I1 ms (pg + 1) gc gn ∧ μ2 ms (pg + 1) gc gn < μ2 ms pg gc gn) ∧ (ms ≤ kh (pg).toNat + z13 → (0 ≤ pg ∧ pg < 12) ∧ ((0 ≤ gn ∧ gn < 12) ∧ (I1 (ms - (kh (pg).toNat)) (pg + 1) (va_up gc (gn).toNat pg) (gn + 1) ∧ μ2 (ms - (kh (pg).toNat)) (pg + 1) (va_up gc (gn).toNat pg) (gn + 1) < μ2 ms pg gc gn))))))))))))
set_option maxHeartbeats 4000000 in
set_option maxRecDepth 100000 in
theorem m_Bk_choose (l : Launch) (D : va_G) (cI cJ cO cZ : ClassId) (h0 h1 h2 : Nat) (sz : Nat) (kh : Nat → Int) (kc : Nat → Int) (kp : Int) (kn : Int) (picks : Int) (need : Int) (post : (Nat → Int) → Int → Prop) (v : vc_Bk_choose kh kc kp kn picks need post) : Met l ⟨"LightDoses$Book", "choose", "(II)V"⟩ (.code ⟨"LightDoses$Book", "choose", "(II)V"⟩ prog_2_method_4_code 5 none :: TG) { frames := 1, cells := 0, slots := 0, locals := 27 } (va_Pc [.ref h0, .int (iI picks), .int (iI need)] (fun U => U.heap.size = sz ∧ va_P D vwCl [(h0, .inr (0, [.ref h1, .ref h2, .int (iI kp), .int (iI kn)])), (h1, .inl (cI, 12, .inl (fun k => iI (kh k)))), (h2, .inl (cI, 12, .inl (fun k => iI (kc k))))] U.heap ∧ va_K D vwCl (tyx cI cJ cO cZ) U ∧ va_D (fun _ => True) [(h0, .inr (0, [.ref h1, .ref h2, .int (iI kp), .int (iI kn)])), (h1, .inl (cI, 12, .inl (fun k => iI (kh k)))), (h2, .inl (cI, 12, .inl (fun k => iI (kc k))))])) (va_Qv (fun u : (Nat → Int) × Int => post u.1 u.2) (fun u t => va_P D vwCl [(h0, .inr (0, [.ref h1, .ref h2, .int (iI kp), .int (iI u.2)])), (h1, .inl (cI, 12, .inl (fun k => iI (kh k)))), (h2, .inl (cI, 12, .inl (fun k => iI (u.1 k))))] t.heap ∧ va_K D vwCl (tyx cI cJ cO cZ) t ∧ va_D (va_A [(h0, .inr (0, [.ref h1, .ref h2, .int (iI kp), .int (iI kn)])), (h1, .inl (cI, 12, .inl (fun k => iI (kh k)))), (h2, .inl (cI, 12, .inl (fun k => iI (kc k))))] sz) [(h0, .inr (0, [.ref h1, .ref h2, .int (iI kp), .int (iI u.2)])), (h1, .inl (cI, 12, .inl (fun k => iI (kh k)))), (h2, .inl (cI, 12, .inl (fun k => iI (u.1 k))))]) (va_A [(h0, .inr (0, [.ref h1, .ref h2, .int (iI kp), .int (iI kn)])), (h1, .inl (cI, 12, .inl (fun k => iI (kh k)))), (h2, .inl (cI, 12, .inl (fun k => iI (kc k))))] sz)) 0 0 (va_A [(h0, .inr (0, [.ref h1, .ref h2, .int (iI kp), .int (iI kn)])), (h1, .inl (cI, 12, .inl (fun k => iI (kh k)))), (h2, .inl (cI, 12, .inl (fun k => iI (kc k))))] sz) := by
  refine Met.ofW (cc := prog_2_method_4_code) (maxL := 5) (ret := none) (by decide) rfl ?_
  intro p e s m args below meth c s₁ B hml hv
  obtain ⟨rfl, hsz, hP, hK, hD0⟩ := hv
  have hx := B.exec
  have hb := B.bytes
  have hr := B.returns
  have hts0 := atoms_spec (ws := (.code ⟨"LightDoses$Book", "choose", "(II)V"⟩ prog_2_method_4_code 5 none :: TG)) B.pre
  have hts : ∀ w ∈ TG, w.before _ s = true := fun w h => hts0 w (List.mem_cons_of_mem _ h)
  have hown : s.vm.findClass "LightDoses$Book" = some m.cls := findClass_of_methodNamed B.named
  have hlocks := B.notSynchronized
  subst hsz
  have hD := hD0.self (sz := s.heap.size)
  generalize hAe : va_A [(h0, .inr (0, [.ref h1, .ref h2, .int (iI kp), .int (iI kn)])), (h1, .inl (cI, 12, .inl (fun k => iI (kh k)))), (h2, .inl (cI, 12, .inl (fun k => iI (kc k))))] s.heap.size = A at hD ⊢
  have hA : ∀ q : Nat, s.heap.size ≤ q → A q := fun q h => by rw [← hAe]; exact Or.inr h
  have hS : va_S A s.heap s.heap [] := va_S.rf
  have hP : va_P D vwCl [(h0, .inr (0, [.ref h1, .ref h2, .int (iI kp), .int (iI kn)])), (h1, .inl (cI, 12, .inl (fun k => iI (kh k)))), (h2, .inl (cI, 12, .inl (fun k => iI (kc k))))] s.heap := hP
  have hl := lv_entry ([Value.ref h0, Value.int (iI picks), Value.int (iI need)]) (n := 5) (Nat.le_of_ble_eq_true rfl)
  rw [lg_entry_eq]
  generalize (lg_sl ([Value.ref h0, Value.int (iI picks), Value.int (iI need)]) ++ List.replicate (5 - (lg_sl ([Value.ref h0, Value.int (iI picks), Value.int (iI need)])).length) Slot.unset).toArray = ls at hl ⊢
  have hl : lv_has ls 5 [(0, .ref h0), (1, .int (iI picks)), (2, .int (iI need))] := hl
  unfold vc_Bk_choose at v
  obtain ⟨H, hH⟩ : ∃ H, H = s.heap := ⟨_, rfl⟩
  obtain ⟨locs, hlc⟩ : ∃ L : List Loc, L = [] := ⟨_, rfl⟩
  rw [← hlc] at hS ⊢
  have hP : va_P D vwCl [(h0, .inr (0, [.ref h1, .ref h2, .int (iI kp), .int (iI kn)])), (h1, .inl (cI, 12, .inl (fun k => iI (kh k)))), (h2, .inl (cI, 12, .inl (fun k => iI (kc k))))] H := by rw [hH]; exact hP
  have hS : va_S A s.heap H locs := by rw [hH]; exact hS
  have hW0 : ∀ {X : Heap → Prop}, X H → X s.heap := fun h => by rw [← hH]; exact h
  refine hW0 (X := fun Z => W p l e _ s m _ below meth c Z locs 0 0 _ _) ?_
  refine lv_iload_n hx hb d_Bk_choose_0 rfl (lv_at hl 2 rfl) ?_
  refine lv_istore_n (lv' := [(3, .int (iI need)), (0, .ref h0), (1, .int (iI picks)), (2, .int (iI need))]) hx hb d_Bk_choose_1 rfl hl (by decide) rfl (fun ls hl => ?_)
  refine lv_aload_n hx hb d_Bk_choose_2 rfl (lv_at hl 1 rfl) ?_
  refine nv_iconst (n := 0) hx hb d_Bk_choose_3 ?_
  refine va_put (D := D) (ci := 0) (v := .int (iI 0)) (ty := .int) (C := "LightDoses$Book") (T := T_Bk) (N := 4) hx hb hts in_Bk t_Bk tok_Bk n_Bk hown hK hP hD hS 0 rfl rfl 3 (by decide) (hts _ wd_128) (fun _ h9 => h9) rfl (by decide +kernel) rfl rfl (Nat.le_of_ble_eq_true rfl) d_Bk_choose_4 (fun H locs hP hD hS => ?_)
  have hP : va_P D vwCl [(h0, .inr (0, [.ref h1, .ref h2, .int (iI kp), .int (iI 0)])), (h1, .inl (cI, 12, .inl (fun k => iI (kh k)))), (h2, .inl (cI, 12, .inl (fun k => iI (kc k))))] H := hP
  have hD : va_D A [(h0, .inr (0, [.ref h1, .ref h2, .int (iI kp), .int (iI 0)])), (h1, .inl (cI, 12, .inl (fun k => iI (kh k)))), (h2, .inl (cI, 12, .inl (fun k => iI (kc k))))] := hD
  refine nv_iconst (n := 0) hx hb d_Bk_choose_7 ?_
  refine lv_istore (lv' := [(4, .int (iI 0)), (3, .int (iI need)), (0, .ref h0), (1, .int (iI picks)), (2, .int (iI need))]) hx hb d_Bk_choose_8 hl (by decide) rfl (fun ls hl => ?_)
  obtain ⟨I1, μ2, v20, v21⟩ := v
  have L22 : ∀ (N : Nat) (ms : Int) (pg : Int) (gc : Nat → Int) (gn : Int) (H : Heap) (locs : List Loc) (ls : Array Slot), μ2 ms pg gc gn < N → I1 ms pg gc gn → va_P D vwCl [(h0, .inr (0, [.ref h1, .ref h2, .int (iI kp), .int (iI gn)])), (h1, .inl (cI, 12, .inl (fun k => iI (kh k)))), (h2, .inl (cI, 12, .inl (fun k => iI (gc k))))] H → va_D A [(h0, .inr (0, [.ref h1, .ref h2, .int (iI kp), .int (iI gn)])), (h1, .inl (cI, 12, .inl (fun k => iI (kh k)))), (h2, .inl (cI, 12, .inl (fun k => iI (gc k))))] → va_S A s.heap H locs → lv_has ls 5 [(0, .ref h0), (1, .int (iI picks)), (2, .int (iI need)), (3, .int (iI ms)), (4, .int (iI pg))] → W p l e (headSpec (.code ⟨"LightDoses$Book", "choose", "(II)V"⟩ prog_2_method_4_code 5 none :: TG) { frames := 1, cells := 0, slots := 0, locals := 27 }).room s m ([Value.ref h0, Value.int (iI picks), Value.int (iI need)] : List Value).toArray below meth c H locs 0 0 (MQ below (va_Qv (fun u : (Nat → Int) × Int => post u.1 u.2) (fun u t => va_P D vwCl [(h0, .inr (0, [.ref h1, .ref h2, .int (iI kp), .int (iI u.2)])), (h1, .inl (cI, 12, .inl (fun k => iI (kh k)))), (h2, .inl (cI, 12, .inl (fun k => iI (u.1 k))))] t.heap ∧ va_K D vwCl (tyx cI cJ cO cZ) t ∧ va_D A [(h0, .inr (0, [.ref h1, .ref h2, .int (iI kp), .int (iI u.2)])), (h1, .inl (cI, 12, .inl (fun k => iI (kh k)))), (h2, .inl (cI, 12, .inl (fun k => iI (u.1 k))))]) A) ([Value.ref h0, Value.int (iI picks), Value.int (iI need)] : List Value).toArray s 0 0 A) (F0 m 10 ls []) := by
    intro N
    induction N with
    | zero => intro ms pg gc gn H locs ls hN; exact absurd hN (Nat.not_lt_zero _)
    | succ N ih3 =>
      intro ms pg gc gn H locs ls hN4 hI hP hD hS hl
      have v := v21 ms pg gc gn hI
      refine lv_iload hx hb d_Bk_choose_10 (lv_at hl 4 rfl) ?_
      refine lv_aload_n hx hb d_Bk_choose_12 rfl (lv_at hl 0 rfl) ?_
      refine va_get (D := D) (ci := 0) (v := .int (iI kp)) (C := "LightDoses$Book") (T := T_Bk) (N := 4) hx hb hts in_Bk hown hK hP 0 rfl rfl 2 (by decide) (hts _ wd_126) (fun _ h9 => h9) rfl d_Bk_choose_13 ?_
      obtain ⟨k5, v⟩ := v
      obtain ⟨k6, v⟩ := v
      refine nv_icmp_ge (tgt := 92) hx hb d_Bk_choose_16 (by decide) k5 k6 (fun c7 => ?_) (fun c7 => ?_)
      · replace v := v.1 c7
        have hP9 := hP.sub (ws' := [(h0, .inr (0, [.ref h1, .ref h2, .int (iI kp), .int (iI gn)])), (h1, .inl (cI, 12, .inl (fun k => iI (kh k)))), (h2, .inl (cI, 12, .inl (fun k => iI (gc k))))]) [0, 1, 2] rfl
        have hD9 := hD.sub (ws' := [(h0, .inr (0, [.ref h1, .ref h2, .int (iI kp), .int (iI gn)])), (h1, .inl (cI, 12, .inl (fun k => iI (kh k)))), (h2, .inl (cI, 12, .inl (fun k => iI (gc k))))]) [0, 1, 2] (by decide) rfl
        exact W.vret hx hb hr (fun t ht hW => ⟨⟨((gc), (gn)), rfl, v, by rw [ht]; exact hP9, va_K.moved hW.alike hK, hD9⟩, hS.F ht⟩) hS.2.2 d_Bk_choose_92
      · replace v := v.2 c7
        refine lv_aload_n hx hb d_Bk_choose_19 rfl (lv_at hl 0 rfl) ?_
        refine va_get (D := D) (ci := 0) (v := .int (iI gn)) (C := "LightDoses$Book") (T := T_Bk) (N := 4) hx hb hts in_Bk hown hK hP 0 rfl rfl 3 (by decide) (hts _ wd_128) (fun _ h9 => h9) rfl d_Bk_choose_20 ?_
        refine lv_iload_n hx hb d_Bk_choose_23 rfl (lv_at hl 1 rfl) ?_
        obtain ⟨k8, v⟩ := v
        obtain ⟨k9, v⟩ := v
        refine nv_icmp_ge (tgt := 92) hx hb d_Bk_choose_24 (by decide) k8 k9 (fun c10 => ?_) (fun c10 => ?_)
        · replace v := v.1 c10
          have hP9 := hP.sub (ws' := [(h0, .inr (0, [.ref h1, .ref h2, .int (iI kp), .int (iI gn)])), (h1, .inl (cI, 12, .inl (fun k => iI (kh k)))), (h2, .inl (cI, 12, .inl (fun k => iI (gc k))))]) [0, 1, 2] rfl
          have hD9 := hD.sub (ws' := [(h0, .inr (0, [.ref h1, .ref h2, .int (iI kp), .int (iI gn)])), (h1, .inl (cI, 12, .inl (fun k => iI (kh k)))), (h2, .inl (cI, 12, .inl (fun k => iI (gc k))))]) [0, 1, 2] (by decide) rfl
          exact W.vret hx hb hr (fun t ht hW => ⟨⟨((gc), (gn)), rfl, v, by rw [ht]; exact hP9, va_K.moved hW.alike hK, hD9⟩, hS.F ht⟩) hS.2.2 d_Bk_choose_92
        · replace v := v.2 c10
          refine lv_aload_n hx hb d_Bk_choose_27 rfl (lv_at hl 0 rfl) ?_
          refine va_get (D := D) (ci := 0) (v := .ref h1) (C := "LightDoses$Book") (T := T_Bk) (N := 4) hx hb hts in_Bk hown hK hP 0 rfl rfl 0 (by decide) (hts _ wd_123) (fun _ h9 => h9) rfl d_Bk_choose_28 ?_
          refine lv_iload hx hb d_Bk_choose_31 (lv_at hl 4 rfl) ?_
          obtain ⟨k11, v⟩ := v
          refine nv_iald (f := kh) hx hb hK 0 (hP 1 _ rfl) rfl (pg).toNat (Int.toNat_of_nonneg k11.1).symm (by omega) (by decide) d_Bk_choose_33 ?_
          refine lv_aload_n hx hb d_Bk_choose_34 rfl (lv_at hl 0 rfl) ?_
          refine lv_iload hx hb d_Bk_choose_35 (lv_at hl 4 rfl) ?_
          refine nv_iconst (n := 1) hx hb d_Bk_choose_37 ?_
          refine nv_iadd (z := pg + 1) hx hb d_Bk_choose_38 (by first | rfl | omega) ?_
          refine lv_iload_n hx hb d_Bk_choose_39 rfl (lv_at hl 1 rfl) ?_
          refine lv_aload_n hx hb d_Bk_choose_40 rfl (lv_at hl 0 rfl) ?_
          refine va_get (D := D) (ci := 0) (v := .int (iI gn)) (C := "LightDoses$Book") (T := T_Bk) (N := 4) hx hb hts in_Bk hown hK hP 0 rfl rfl 3 (by decide) (hts _ wd_128) (fun _ h9 => h9) rfl d_Bk_choose_41 ?_
          refine nv_isub (z := picks - gn) hx hb d_Bk_choose_44 (by first | rfl | omega) ?_
          refine nv_iconst (n := 1) hx hb d_Bk_choose_45 ?_
          refine nv_isub (z := picks - gn - 1) hx hb d_Bk_choose_46 (by first | rfl | omega) ?_
          obtain ⟨P12, q14, v⟩ := v
          refine vp_callSi (nv_runV (wc := [(h0, .inr (0, [.ref h1, .ref h2, .int (iI kp), .int (iI gn)])), (h1, .inl (cI, 12, .inl (fun k => iI (kh k)))), (h2, .inl (cI, 12, .inl (fun k => iI (gc k))))]) (As := [.int (iI (pg + 1)), .int (iI (picks - gn - 1))]) (rest := [.int (iI (kh (pg).toNat))]) ⟨hx, hb, hml, hown, hts⟩ (m_Bk_mostHours l D cI cJ cO cZ h0 h1 h2 kh gc kp gn (pg + 1) (picks - gn - 1) P12 q14) (nv_cwV (n := 2) hts wd_673 wd_675 sl_16 wd_9 wd_676 (by decide +kernel) ⟨Nat.le_of_ble_eq_true rfl, Nat.le_of_ble_eq_true rfl⟩) hK (hP.sub [0, 1, 2] rfl) (va_recv hK hP (ci := 0) (q0 := 0) rfl rfl) rfl hl.1 rfl (Nat.le_of_ble_eq_true rfl) d_Bk_choose_47 (Nat.le_of_ble_eq_true rfl) (Nat.le_of_ble_eq_true rfl)) (fun r hr => ?_)
          obtain ⟨z13, rfl, hz⟩ := hr
          replace v := v z13 hz
          refine nv_iadd (z := kh (pg).toNat + z13) hx hb d_Bk_choose_50 (by first | rfl | omega) ?_
          refine lv_iload_n hx hb d_Bk_choose_51 rfl (lv_at hl 3 rfl) ?_
          obtain ⟨k15, v⟩ := v
          obtain ⟨k16, v⟩ := v
          refine nv_icmp_lt (tgt := 86) hx hb d_Bk_choose_52 (by decide) k15 k16 (fun c17 => ?_) (fun c17 => ?_)
          · replace v := v.1 c17
            refine nv_iinc (k := 4) (z := pg + 1) (lv' := [(4, .int (iI (pg + 1))), (0, .ref h0), (1, .int (iI picks)), (2, .int (iI need)), (3, .int (iI ms))]) hx hb d_Bk_choose_86 hl rfl (by omega) (by decide) rfl (fun ls hl => ?_)
            refine lv_goto (tgt := 10) hx hb d_Bk_choose_89 (by decide) ?_
            exact ih3 ms (pg + 1) gc gn H locs ls (Nat.lt_of_lt_of_le v.2 (Nat.le_of_lt_succ hN4)) v.1 hP hD hS (lv_sub hl [1, 2, 3, 4, 0] rfl)
          · replace v := v.2 c17
            refine lv_iload_n hx hb d_Bk_choose_55 rfl (lv_at hl 3 rfl) ?_
            refine lv_aload_n hx hb d_Bk_choose_56 rfl (lv_at hl 0 rfl) ?_
            refine va_get (D := D) (ci := 0) (v := .ref h1) (C := "LightDoses$Book") (T := T_Bk) (N := 4) hx hb hts in_Bk hown hK hP 0 rfl rfl 0 (by decide) (hts _ wd_123) (fun _ h9 => h9) rfl d_Bk_choose_57 ?_
            refine lv_iload hx hb d_Bk_choose_60 (lv_at hl 4 rfl) ?_
            obtain ⟨k18, v⟩ := v
            refine nv_iald (f := kh) hx hb hK 0 (hP 1 _ rfl) rfl (pg).toNat (Int.toNat_of_nonneg k18.1).symm (by omega) (by decide) d_Bk_choose_62 ?_
            refine nv_isub (z := ms - (kh (pg).toNat)) hx hb d_Bk_choose_63 (by first | rfl | omega) ?_
            refine lv_istore_n (lv' := [(3, .int (iI (ms - (kh (pg).toNat)))), (0, .ref h0), (1, .int (iI picks)), (2, .int (iI need)), (4, .int (iI pg))]) hx hb d_Bk_choose_64 rfl hl (by decide) rfl (fun ls hl => ?_)
            refine lv_aload_n hx hb d_Bk_choose_65 rfl (lv_at hl 1 rfl) ?_
            refine va_get (D := D) (ci := 0) (v := .ref h2) (C := "LightDoses$Book") (T := T_Bk) (N := 4) hx hb hts in_Bk hown hK hP 0 rfl rfl 1 (by decide) (hts _ wd_124) (fun _ h9 => h9) rfl d_Bk_choose_66 ?_
            refine lv_aload_n hx hb d_Bk_choose_69 rfl (lv_at hl 1 rfl) ?_
            refine va_get (D := D) (ci := 0) (v := .int (iI gn)) (C := "LightDoses$Book") (T := T_Bk) (N := 4) hx hb hts in_Bk hown hK hP 0 rfl rfl 3 (by decide) (hts _ wd_128) (fun _ h9 => h9) rfl d_Bk_choose_70 ?_
            refine lv_iload hx hb d_Bk_choose_73 (lv_at hl 4 rfl) ?_
            obtain ⟨k19, v⟩ := v
            refine nv_iast (f := gc) hx hb hK hP hD hS 2 0 rfl rfl (gn).toNat (Int.toNat_of_nonneg k19.1).symm (by omega) (by decide) d_Bk_choose_75 (fun H locs hP hD hS => ?_)
            have hP : va_P D vwCl [(h0, .inr (0, [.ref h1, .ref h2, .int (iI kp), .int (iI gn)])), (h1, .inl (cI, 12, .inl (fun k => iI (kh k)))), (h2, .inl (cI, 12, .inl (fun k => iI ((va_up gc (gn).toNat pg) k))))] H := hP
            have hD : va_D A [(h0, .inr (0, [.ref h1, .ref h2, .int (iI kp), .int (iI gn)])), (h1, .inl (cI, 12, .inl (fun k => iI (kh k)))), (h2, .inl (cI, 12, .inl (fun k => iI ((va_up gc (gn).toNat pg) k))))] := hD
            refine lv_aload_n hx hb d_Bk_choose_76 rfl (lv_at hl 1 rfl) ?_
            refine lv_dup hx hb d_Bk_choose_77 rfl ?_
            refine va_get (D := D) (ci := 0) (v := .int (iI gn)) (C := "LightDoses$Book") (T := T_Bk) (N := 4) hx hb hts in_Bk hown hK hP 0 rfl rfl 3 (by decide) (hts _ wd_128) (fun _ h9 => h9) rfl d_Bk_choose_78 ?_
            refine nv_iconst (n := 1) hx hb d_Bk_choose_81 ?_
            refine nv_iadd (z := gn + 1) hx hb d_Bk_choose_82 (by first | rfl | omega) ?_
            refine va_put (D := D) (ci := 0) (v := .int (iI (gn + 1))) (ty := .int) (C := "LightDoses$Book") (T := T_Bk) (N := 4) hx hb hts in_Bk t_Bk tok_Bk n_Bk hown hK hP hD hS 0 rfl rfl 3 (by decide) (hts _ wd_128) (fun _ h9 => h9) rfl (by decide +kernel) rfl rfl (Nat.le_of_ble_eq_true rfl) d_Bk_choose_83 (fun H locs hP hD hS => ?_)
            have hP : va_P D vwCl [(h0, .inr (0, [.ref h1, .ref h2, .int (iI kp), .int (iI (gn + 1))])), (h1, .inl (cI, 12, .inl (fun k => iI (kh k)))), (h2, .inl (cI, 12, .inl (fun k => iI ((va_up gc (gn).toNat pg) k))))] H := hP
            have hD : va_D A [(h0, .inr (0, [.ref h1, .ref h2, .int (iI kp), .int (iI (gn + 1))])), (h1, .inl (cI, 12, .inl (fun k => iI (kh k)))), (h2, .inl (cI, 12, .inl (fun k => iI ((va_up gc (gn).toNat pg) k))))] := hD
            refine nv_iinc (k := 4) (z := pg + 1) (lv' := [(4, .int (iI (pg + 1))), (3, .int (iI (ms - (kh (pg).toNat)))), (0, .ref h0), (1, .int (iI picks)), (2, .int (iI need))]) hx hb d_Bk_choose_86 hl rfl (by omega) (by decide) rfl (fun ls hl => ?_)
            refine lv_goto (tgt := 10) hx hb d_Bk_choose_89 (by decide) ?_
            exact ih3 (ms - (kh (pg).toNat)) (pg + 1) (va_up gc (gn).toNat pg) (gn + 1) H locs ls (Nat.lt_of_lt_of_le v.2 (Nat.le_of_lt_succ hN4)) v.1 hP hD hS (lv_sub hl [2, 3, 4, 1, 0] rfl)
  exact L22 _ need 0 kc 0 H locs ls (Nat.lt_succ_self _) v20 hP hD hS (lv_sub hl [2, 3, 4, 1, 0] rfl)

theorem d_Bk_add_0 : decode prog_2_method_2_code 0 = .ok (.aload_n 0, 1) := by decide +kernel
theorem d_Bk_add_1 : decode prog_2_method_2_code 1 = .ok (.getfield 18, 3) := by decide +kernel
theorem d_Bk_add_4 : decode prog_2_method_2_code 4 = .ok (.bipush 12, 2) := by decide +kernel
theorem d_Bk_add_6 : decode prog_2_method_2_code 6 = .ok (.if_icmp .lt 4, 3) := by decide +kernel
theorem d_Bk_add_9 : decode prog_2_method_2_code 9 = .ok (.return_, 1) := by decide +kernel
theorem d_Bk_add_10 : decode prog_2_method_2_code 10 = .ok (.aload_n 0, 1) := by decide +kernel
theorem d_Bk_add_11 : decode prog_2_method_2_code 11 = .ok (.getfield 9, 3) := by decide +kernel
theorem d_Bk_add_14 : decode prog_2_method_2_code 14 = .ok (.aload_n 0, 1) := by decide +kernel
theorem d_Bk_add_15 : decode prog_2_method_2_code 15 = .ok (.getfield 18, 3) := by decide +kernel
theorem d_Bk_add_18 : decode prog_2_method_2_code 18 = .ok (.iload_n 1, 1) := by decide +kernel
theorem d_Bk_add_19 : decode prog_2_method_2_code 19 = .ok (.iastore, 1) := by decide +kernel
theorem d_Bk_add_20 : decode prog_2_method_2_code 20 = .ok (.aload_n 0, 1) := by decide +kernel
theorem d_Bk_add_21 : decode prog_2_method_2_code 21 = .ok (.dup, 1) := by decide +kernel
theorem d_Bk_add_22 : decode prog_2_method_2_code 22 = .ok (.getfield 18, 3) := by decide +kernel
theorem d_Bk_add_25 : decode prog_2_method_2_code 25 = .ok (.iconst 1, 1) := by decide +kernel
theorem d_Bk_add_26 : decode prog_2_method_2_code 26 = .ok (.iadd, 1) := by decide +kernel
theorem d_Bk_add_27 : decode prog_2_method_2_code 27 = .ok (.putfield 18, 3) := by decide +kernel
theorem d_Bk_add_30 : decode prog_2_method_2_code 30 = .ok (.return_, 1) := by decide +kernel
def vc_Bk_add (kh : Nat → Int) (kc : Nat → Int) (kp : Int) (kn : Int) (hrs : Int) (post : (Nat → Int) → Int → Prop) : Prop := (r32 kp) ∧ ((kp < 12 → (0 ≤ kp ∧ kp < 12) ∧ (post (va_up kh (kp).toNat hrs) (kp + 1))) ∧ (12 ≤ kp → post kh kp))
set_option maxHeartbeats 4000000 in
set_option maxRecDepth 100000 in
theorem m_Bk_add (l : Launch) (D : va_G) (cI cJ cO cZ : ClassId) (h0 h1 h2 : Nat) (sz : Nat) (kh : Nat → Int) (kc : Nat → Int) (kp : Int) (kn : Int) (hrs : Int) (post : (Nat → Int) → Int → Prop) (v : vc_Bk_add kh kc kp kn hrs post) : Met l ⟨"LightDoses$Book", "add", "(I)V"⟩ (.code ⟨"LightDoses$Book", "add", "(I)V"⟩ prog_2_method_2_code 2 none :: TG) { frames := 0, cells := 0, slots := 0, locals := 0 } (va_Pc [.ref h0, .int (iI hrs)] (fun U => U.heap.size = sz ∧ va_P D vwCl [(h0, .inr (0, [.ref h1, .ref h2, .int (iI kp), .int (iI kn)])), (h1, .inl (cI, 12, .inl (fun k => iI (kh k)))), (h2, .inl (cI, 12, .inl (fun k => iI (kc k))))] U.heap ∧ va_K D vwCl (tyx cI cJ cO cZ) U ∧ va_D (fun _ => True) [(h0, .inr (0, [.ref h1, .ref h2, .int (iI kp), .int (iI kn)])), (h1, .inl (cI, 12, .inl (fun k => iI (kh k)))), (h2, .inl (cI, 12, .inl (fun k => iI (kc k))))])) (va_Qv (fun u : (Nat → Int) × Int => post u.1 u.2) (fun u t => va_P D vwCl [(h0, .inr (0, [.ref h1, .ref h2, .int (iI u.2), .int (iI kn)])), (h1, .inl (cI, 12, .inl (fun k => iI (u.1 k)))), (h2, .inl (cI, 12, .inl (fun k => iI (kc k))))] t.heap ∧ va_K D vwCl (tyx cI cJ cO cZ) t ∧ va_D (va_A [(h0, .inr (0, [.ref h1, .ref h2, .int (iI kp), .int (iI kn)])), (h1, .inl (cI, 12, .inl (fun k => iI (kh k)))), (h2, .inl (cI, 12, .inl (fun k => iI (kc k))))] sz) [(h0, .inr (0, [.ref h1, .ref h2, .int (iI u.2), .int (iI kn)])), (h1, .inl (cI, 12, .inl (fun k => iI (u.1 k)))), (h2, .inl (cI, 12, .inl (fun k => iI (kc k))))]) (va_A [(h0, .inr (0, [.ref h1, .ref h2, .int (iI kp), .int (iI kn)])), (h1, .inl (cI, 12, .inl (fun k => iI (kh k)))), (h2, .inl (cI, 12, .inl (fun k => iI (kc k))))] sz)) 0 0 (va_A [(h0, .inr (0, [.ref h1, .ref h2, .int (iI kp), .int (iI kn)])), (h1, .inl (cI, 12, .inl (fun k => iI (kh k)))), (h2, .inl (cI, 12, .inl (fun k => iI (kc k))))] sz) := by
  refine Met.ofW (cc := prog_2_method_2_code) (maxL := 2) (ret := none) (by decide) rfl ?_
  intro p e s m args below meth c s₁ B hml hv
  obtain ⟨rfl, hsz, hP, hK, hD0⟩ := hv
  have hx := B.exec
  have hb := B.bytes
  have hr := B.returns
  have hts0 := atoms_spec (ws := (.code ⟨"LightDoses$Book", "add", "(I)V"⟩ prog_2_method_2_code 2 none :: TG)) B.pre
  have hts : ∀ w ∈ TG, w.before _ s = true := fun w h => hts0 w (List.mem_cons_of_mem _ h)
  have hown : s.vm.findClass "LightDoses$Book" = some m.cls := findClass_of_methodNamed B.named
  have hlocks := B.notSynchronized
  subst hsz
  have hD := hD0.self (sz := s.heap.size)
  generalize hAe : va_A [(h0, .inr (0, [.ref h1, .ref h2, .int (iI kp), .int (iI kn)])), (h1, .inl (cI, 12, .inl (fun k => iI (kh k)))), (h2, .inl (cI, 12, .inl (fun k => iI (kc k))))] s.heap.size = A at hD ⊢
  have hA : ∀ q : Nat, s.heap.size ≤ q → A q := fun q h => by rw [← hAe]; exact Or.inr h
  have hS : va_S A s.heap s.heap [] := va_S.rf
  have hP : va_P D vwCl [(h0, .inr (0, [.ref h1, .ref h2, .int (iI kp), .int (iI kn)])), (h1, .inl (cI, 12, .inl (fun k => iI (kh k)))), (h2, .inl (cI, 12, .inl (fun k => iI (kc k))))] s.heap := hP
  have hl := lv_entry ([Value.ref h0, Value.int (iI hrs)]) (n := 2) (Nat.le_of_ble_eq_true rfl)
  rw [lg_entry_eq]
  generalize (lg_sl ([Value.ref h0, Value.int (iI hrs)]) ++ List.replicate (2 - (lg_sl ([Value.ref h0, Value.int (iI hrs)])).length) Slot.unset).toArray = ls at hl ⊢
  have hl : lv_has ls 2 [(0, .ref h0), (1, .int (iI hrs))] := hl
  unfold vc_Bk_add at v
  obtain ⟨H, hH⟩ : ∃ H, H = s.heap := ⟨_, rfl⟩
  obtain ⟨locs, hlc⟩ : ∃ L : List Loc, L = [] := ⟨_, rfl⟩
  rw [← hlc] at hS ⊢
  have hP : va_P D vwCl [(h0, .inr (0, [.ref h1, .ref h2, .int (iI kp), .int (iI kn)])), (h1, .inl (cI, 12, .inl (fun k => iI (kh k)))), (h2, .inl (cI, 12, .inl (fun k => iI (kc k))))] H := by rw [hH]; exact hP
  have hS : va_S A s.heap H locs := by rw [hH]; exact hS
  have hW0 : ∀ {X : Heap → Prop}, X H → X s.heap := fun h => by rw [← hH]; exact h
  refine hW0 (X := fun Z => W p l e _ s m _ below meth c Z locs 0 0 _ _) ?_
  refine lv_aload_n hx hb d_Bk_add_0 rfl (lv_at hl 0 rfl) ?_
  refine va_get (D := D) (ci := 0) (v := .int (iI kp)) (C := "LightDoses$Book") (T := T_Bk) (N := 4) hx hb hts in_Bk hown hK hP 0 rfl rfl 2 (by decide) (hts _ wd_126) (fun _ h9 => h9) rfl d_Bk_add_1 ?_
  refine nv_bipush (z := 12) hx hb d_Bk_add_4 (by decide) ?_
  obtain ⟨k1, v⟩ := v
  refine nv_icmp_lt (tgt := 10) hx hb d_Bk_add_6 (by decide) k1 (by decide) (fun c2 => ?_) (fun c2 => ?_)
  · replace v := v.1 c2
    refine lv_aload_n hx hb d_Bk_add_10 rfl (lv_at hl 0 rfl) ?_
    refine va_get (D := D) (ci := 0) (v := .ref h1) (C := "LightDoses$Book") (T := T_Bk) (N := 4) hx hb hts in_Bk hown hK hP 0 rfl rfl 0 (by decide) (hts _ wd_123) (fun _ h9 => h9) rfl d_Bk_add_11 ?_
    refine lv_aload_n hx hb d_Bk_add_14 rfl (lv_at hl 0 rfl) ?_
    refine va_get (D := D) (ci := 0) (v := .int (iI kp)) (C := "LightDoses$Book") (T := T_Bk) (N := 4) hx hb hts in_Bk hown hK hP 0 rfl rfl 2 (by decide) (hts _ wd_126) (fun _ h9 => h9) rfl d_Bk_add_15 ?_
    refine lv_iload_n hx hb d_Bk_add_18 rfl (lv_at hl 1 rfl) ?_
    obtain ⟨k3, v⟩ := v
    refine nv_iast (f := kh) hx hb hK hP hD hS 1 0 rfl rfl (kp).toNat (Int.toNat_of_nonneg k3.1).symm (by omega) (by decide) d_Bk_add_19 (fun H locs hP hD hS => ?_)
    have hP : va_P D vwCl [(h0, .inr (0, [.ref h1, .ref h2, .int (iI kp), .int (iI kn)])), (h1, .inl (cI, 12, .inl (fun k => iI ((va_up kh (kp).toNat hrs) k)))), (h2, .inl (cI, 12, .inl (fun k => iI (kc k))))] H := hP
    have hD : va_D A [(h0, .inr (0, [.ref h1, .ref h2, .int (iI kp), .int (iI kn)])), (h1, .inl (cI, 12, .inl (fun k => iI ((va_up kh (kp).toNat hrs) k)))), (h2, .inl (cI, 12, .inl (fun k => iI (kc k))))] := hD
    refine lv_aload_n hx hb d_Bk_add_20 rfl (lv_at hl 0 rfl) ?_
    refine lv_dup hx hb d_Bk_add_21 rfl ?_
    refine va_get (D := D) (ci := 0) (v := .int (iI kp)) (C := "LightDoses$Book") (T := T_Bk) (N := 4) hx hb hts in_Bk hown hK hP 0 rfl rfl 2 (by decide) (hts _ wd_126) (fun _ h9 => h9) rfl d_Bk_add_22 ?_
    refine nv_iconst (n := 1) hx hb d_Bk_add_25 ?_
    refine nv_iadd (z := kp + 1) hx hb d_Bk_add_26 (by first | rfl | omega) ?_
    refine va_put (D := D) (ci := 0) (v := .int (iI (kp + 1))) (ty := .int) (C := "LightDoses$Book") (T := T_Bk) (N := 4) hx hb hts in_Bk t_Bk tok_Bk n_Bk hown hK hP hD hS 0 rfl rfl 2 (by decide) (hts _ wd_126) (fun _ h9 => h9) rfl (by decide +kernel) rfl rfl (Nat.le_of_ble_eq_true rfl) d_Bk_add_27 (fun H locs hP hD hS => ?_)
    have hP : va_P D vwCl [(h0, .inr (0, [.ref h1, .ref h2, .int (iI (kp + 1)), .int (iI kn)])), (h1, .inl (cI, 12, .inl (fun k => iI ((va_up kh (kp).toNat hrs) k)))), (h2, .inl (cI, 12, .inl (fun k => iI (kc k))))] H := hP
    have hD : va_D A [(h0, .inr (0, [.ref h1, .ref h2, .int (iI (kp + 1)), .int (iI kn)])), (h1, .inl (cI, 12, .inl (fun k => iI ((va_up kh (kp).toNat hrs) k)))), (h2, .inl (cI, 12, .inl (fun k => iI (kc k))))] := hD
    have hP9 := hP.sub (ws' := [(h0, .inr (0, [.ref h1, .ref h2, .int (iI (kp + 1)), .int (iI kn)])), (h1, .inl (cI, 12, .inl (fun k => iI ((va_up kh (kp).toNat hrs) k)))), (h2, .inl (cI, 12, .inl (fun k => iI (kc k))))]) [0, 1, 2] rfl
    have hD9 := hD.sub (ws' := [(h0, .inr (0, [.ref h1, .ref h2, .int (iI (kp + 1)), .int (iI kn)])), (h1, .inl (cI, 12, .inl (fun k => iI ((va_up kh (kp).toNat hrs) k)))), (h2, .inl (cI, 12, .inl (fun k => iI (kc k))))]) [0, 1, 2] (by decide) rfl
    exact W.vret hx hb hr (fun t ht hW => ⟨⟨((va_up kh (kp).toNat hrs), (kp + 1)), rfl, v, by rw [ht]; exact hP9, va_K.moved hW.alike hK, hD9⟩, hS.F ht⟩) hS.2.2 d_Bk_add_30
  · replace v := v.2 c2
    have hP9 := hP.sub (ws' := [(h0, .inr (0, [.ref h1, .ref h2, .int (iI kp), .int (iI kn)])), (h1, .inl (cI, 12, .inl (fun k => iI (kh k)))), (h2, .inl (cI, 12, .inl (fun k => iI (kc k))))]) [0, 1, 2] rfl
    have hD9 := hD.sub (ws' := [(h0, .inr (0, [.ref h1, .ref h2, .int (iI kp), .int (iI kn)])), (h1, .inl (cI, 12, .inl (fun k => iI (kh k)))), (h2, .inl (cI, 12, .inl (fun k => iI (kc k))))]) [0, 1, 2] (by decide) rfl
    exact W.vret hx hb hr (fun t ht hW => ⟨⟨((kh), (kp)), rfl, v, by rw [ht]; exact hP9, va_K.moved hW.alike hK, hD9⟩, hS.F ht⟩) hS.2.2 d_Bk_add_9

theorem d_Bk_init_0 : decode prog_2_method_1_code 0 = .ok (.aload_n 0, 1) := by decide +kernel
theorem d_Bk_init_1 : decode prog_2_method_1_code 1 = .ok (.invokespecial 3, 3) := by decide +kernel
theorem d_Bk_init_4 : decode prog_2_method_1_code 4 = .ok (.aload_n 0, 1) := by decide +kernel
theorem d_Bk_init_5 : decode prog_2_method_1_code 5 = .ok (.bipush 12, 2) := by decide +kernel
theorem d_Bk_init_7 : decode prog_2_method_1_code 7 = .ok (.newarray .int, 2) := by decide +kernel
theorem d_Bk_init_9 : decode prog_2_method_1_code 9 = .ok (.putfield 9, 3) := by decide +kernel
theorem d_Bk_init_12 : decode prog_2_method_1_code 12 = .ok (.aload_n 0, 1) := by decide +kernel
theorem d_Bk_init_13 : decode prog_2_method_1_code 13 = .ok (.bipush 12, 2) := by decide +kernel
theorem d_Bk_init_15 : decode prog_2_method_1_code 15 = .ok (.newarray .int, 2) := by decide +kernel
theorem d_Bk_init_17 : decode prog_2_method_1_code 17 = .ok (.putfield 15, 3) := by decide +kernel
theorem d_Bk_init_20 : decode prog_2_method_1_code 20 = .ok (.aload_n 0, 1) := by decide +kernel
theorem d_Bk_init_21 : decode prog_2_method_1_code 21 = .ok (.iconst 0, 1) := by decide +kernel
theorem d_Bk_init_22 : decode prog_2_method_1_code 22 = .ok (.putfield 18, 3) := by decide +kernel
theorem d_Bk_init_25 : decode prog_2_method_1_code 25 = .ok (.aload_n 0, 1) := by decide +kernel
theorem d_Bk_init_26 : decode prog_2_method_1_code 26 = .ok (.iconst 0, 1) := by decide +kernel
theorem d_Bk_init_27 : decode prog_2_method_1_code 27 = .ok (.putfield 22, 3) := by decide +kernel
theorem d_Bk_init_30 : decode prog_2_method_1_code 30 = .ok (.return_, 1) := by decide +kernel
def vc_Bk_init  (post : (Nat → Int) → (Nat → Int) → Int → Int → Prop) : Prop := post (fun _ => 0) (fun _ => 0) 0 0
set_option maxHeartbeats 4000000 in
set_option maxRecDepth 100000 in
theorem m_Bk_init (l : Launch) (D : va_G) (cI cJ cO cZ : ClassId) (h0 : Nat) (sz : Nat)  (post : (Nat → Int) → (Nat → Int) → Int → Int → Prop) (v : vc_Bk_init  post) : Met l ⟨"LightDoses$Book", "<init>", "()V"⟩ (.code ⟨"LightDoses$Book", "<init>", "()V"⟩ prog_2_method_1_code 1 none :: TG) { frames := 1, cells := 2, slots := 24, locals := 24 } (va_Pc [.ref h0] (fun U => U.heap.size = sz ∧ va_P D vwCl [(h0, .inr (0, [.null, .null, .int (iI 0), .int (iI 0)]))] U.heap ∧ va_K D vwCl (tyx cI cJ cO cZ) U ∧ va_D (fun _ => True) [(h0, .inr (0, [.null, .null, .int (iI 0), .int (iI 0)]))])) (va_Qv (fun u : (Nat → Int) × (Nat → Int) × Int × Int => post u.1 u.2.1 u.2.2.1 u.2.2.2) (fun u t => ∃ (h1 h2 : Nat), va_P D vwCl [(h0, .inr (0, [.ref h1, .ref h2, .int (iI u.2.2.1), .int (iI u.2.2.2)])), (h1, .inl (cI, 12, .inl (fun k => iI (u.1 k)))), (h2, .inl (cI, 12, .inl (fun k => iI (u.2.1 k))))] t.heap ∧ va_K D vwCl (tyx cI cJ cO cZ) t ∧ va_D (va_A [(h0, .inr (0, [.null, .null, .int (iI 0), .int (iI 0)]))] sz) [(h0, .inr (0, [.ref h1, .ref h2, .int (iI u.2.2.1), .int (iI u.2.2.2)])), (h1, .inl (cI, 12, .inl (fun k => iI (u.1 k)))), (h2, .inl (cI, 12, .inl (fun k => iI (u.2.1 k))))]) (va_A [(h0, .inr (0, [.null, .null, .int (iI 0), .int (iI 0)]))] sz)) 2 24 (va_A [(h0, .inr (0, [.null, .null, .int (iI 0), .int (iI 0)]))] sz) := by
  refine Met.ofW (cc := prog_2_method_1_code) (maxL := 1) (ret := none) (by decide) rfl ?_
  intro p e s m args below meth c s₁ B hml hv
  obtain ⟨rfl, hsz, hP, hK, hD0⟩ := hv
  have hx := B.exec
  have hb := B.bytes
  have hr := B.returns
  have hts0 := atoms_spec (ws := (.code ⟨"LightDoses$Book", "<init>", "()V"⟩ prog_2_method_1_code 1 none :: TG)) B.pre
  have hts : ∀ w ∈ TG, w.before _ s = true := fun w h => hts0 w (List.mem_cons_of_mem _ h)
  have hown : s.vm.findClass "LightDoses$Book" = some m.cls := findClass_of_methodNamed B.named
  have hlocks := B.notSynchronized
  have hin : meth.name = "<init>" := (name_of_methodNamed B.named B.method).1
  subst hsz
  have hD := hD0.self (sz := s.heap.size)
  generalize hAe : va_A [(h0, .inr (0, [.null, .null, .int (iI 0), .int (iI 0)]))] s.heap.size = A at hD ⊢
  have hA : ∀ q : Nat, s.heap.size ≤ q → A q := fun q h => by rw [← hAe]; exact Or.inr h
  have hS : va_S A s.heap s.heap [] := va_S.rf
  have hP : va_P D vwCl [(h0, .inr (0, [.null, .null, .int (iI 0), .int (iI 0)]))] s.heap := hP
  have hl := lv_entry ([Value.ref h0]) (n := 1) (Nat.le_of_ble_eq_true rfl)
  rw [lg_entry_eq]
  generalize (lg_sl ([Value.ref h0]) ++ List.replicate (1 - (lg_sl ([Value.ref h0])).length) Slot.unset).toArray = ls at hl ⊢
  have hl : lv_has ls 1 [(0, .ref h0)] := hl
  unfold vc_Bk_init at v
  obtain ⟨H, hH⟩ : ∃ H, H = s.heap := ⟨_, rfl⟩
  obtain ⟨locs, hlc⟩ : ∃ L : List Loc, L = [] := ⟨_, rfl⟩
  rw [← hlc] at hS ⊢
  have hP : va_P D vwCl [(h0, .inr (0, [.null, .null, .int (iI 0), .int (iI 0)]))] H := by rw [hH]; exact hP
  have hS : va_S A s.heap H locs := by rw [hH]; exact hS
  have hW0 : ∀ {X : Heap → Prop}, X H → X s.heap := fun h => by rw [← hH]; exact h
  refine hW0 (X := fun Z => W p l e _ s m _ below meth c Z locs 0 0 _ _) ?_
  refine lv_aload_n hx hb d_Bk_init_0 rfl (lv_at hl 0 rfl) ?_
  refine W.objInit hx hb hown (hts _ wd_122) (hts _ wd_31) (hts _ wd_32) rfl (by rw [hml]; exact hl.1) rfl d_Bk_init_1 (Nat.le_of_ble_eq_true rfl) (Nat.le_of_ble_eq_true rfl) ?_
  refine W.eq (g2 := F0 m 4 ls []) rfl ?_
  refine lv_aload_n hx hb d_Bk_init_4 rfl (lv_at hl 0 rfl) ?_
  refine nv_bipush (z := 12) hx hb d_Bk_init_5 (by decide) ?_
  refine nv_newi hx hb (hts _ wd_76) hK hP hD hS hA 0 rfl 12 rfl (by decide) (Nat.le_of_ble_eq_true rfl) (Nat.le_of_ble_eq_true rfl) d_Bk_init_7 (fun q1 H hP hD hS => ?_)
  have hP : va_P D vwCl [(h0, .inr (0, [.null, .null, .int (iI 0), .int (iI 0)])), (q1, .inl (cI, 12, .inl (fun k => iI ((fun _ => 0) k))))] H := hP
  have hD : va_D A [(h0, .inr (0, [.null, .null, .int (iI 0), .int (iI 0)])), (q1, .inl (cI, 12, .inl (fun k => iI ((fun _ => 0) k))))] := hD
  refine W.widen (k := 1) (n := 12) (Nat.le_of_ble_eq_true rfl) (Nat.le_of_ble_eq_true rfl) ?_
  refine va_putF (D := D) (ci := 0) (v := .ref q1) (ty := .array .int) (C := "LightDoses$Book") (T := T_Bk) (N := 4) hx hb hts in_Bk t_Bk tok_Bk n_Bk hown hK hP hD hS 0 rfl rfl 0 (by decide) (hts _ wd_123) (fun _ h9 => h9) rfl hin rfl (by decide +kernel) rfl rfl (Nat.le_of_ble_eq_true rfl) d_Bk_init_9 (fun H locs hP hD hS => ?_)
  have hP : va_P D vwCl [(h0, .inr (0, [.ref q1, .null, .int (iI 0), .int (iI 0)])), (q1, .inl (cI, 12, .inl (fun k => iI ((fun _ => 0) k))))] H := hP
  have hD : va_D A [(h0, .inr (0, [.ref q1, .null, .int (iI 0), .int (iI 0)])), (q1, .inl (cI, 12, .inl (fun k => iI ((fun _ => 0) k))))] := hD
  refine lv_aload_n hx hb d_Bk_init_12 rfl (lv_at hl 0 rfl) ?_
  refine nv_bipush (z := 12) hx hb d_Bk_init_13 (by decide) ?_
  refine nv_newi hx hb (hts _ wd_76) hK hP hD hS hA 0 rfl 12 rfl (by decide) (Nat.le_of_ble_eq_true rfl) (Nat.le_of_ble_eq_true rfl) d_Bk_init_15 (fun q2 H hP hD hS => ?_)
  have hP : va_P D vwCl [(h0, .inr (0, [.ref q1, .null, .int (iI 0), .int (iI 0)])), (q1, .inl (cI, 12, .inl (fun k => iI ((fun _ => 0) k)))), (q2, .inl (cI, 12, .inl (fun k => iI ((fun _ => 0) k))))] H := hP
  have hD : va_D A [(h0, .inr (0, [.ref q1, .null, .int (iI 0), .int (iI 0)])), (q1, .inl (cI, 12, .inl (fun k => iI ((fun _ => 0) k)))), (q2, .inl (cI, 12, .inl (fun k => iI ((fun _ => 0) k))))] := hD
  refine W.widen (k := 2) (n := 24) (Nat.le_of_ble_eq_true rfl) (Nat.le_of_ble_eq_true rfl) ?_
  refine va_putF (D := D) (ci := 0) (v := .ref q2) (ty := .array .int) (C := "LightDoses$Book") (T := T_Bk) (N := 4) hx hb hts in_Bk t_Bk tok_Bk n_Bk hown hK hP hD hS 0 rfl rfl 1 (by decide) (hts _ wd_124) (fun _ h9 => h9) rfl hin rfl (by decide +kernel) rfl rfl (Nat.le_of_ble_eq_true rfl) d_Bk_init_17 (fun H locs hP hD hS => ?_)
  have hP : va_P D vwCl [(h0, .inr (0, [.ref q1, .ref q2, .int (iI 0), .int (iI 0)])), (q1, .inl (cI, 12, .inl (fun k => iI ((fun _ => 0) k)))), (q2, .inl (cI, 12, .inl (fun k => iI ((fun _ => 0) k))))] H := hP
  have hD : va_D A [(h0, .inr (0, [.ref q1, .ref q2, .int (iI 0), .int (iI 0)])), (q1, .inl (cI, 12, .inl (fun k => iI ((fun _ => 0) k)))), (q2, .inl (cI, 12, .inl (fun k => iI ((fun _ => 0) k))))] := hD
  refine lv_aload_n hx hb d_Bk_init_20 rfl (lv_at hl 0 rfl) ?_
  refine nv_iconst (n := 0) hx hb d_Bk_init_21 ?_
  refine va_put (D := D) (ci := 0) (v := .int (iI 0)) (ty := .int) (C := "LightDoses$Book") (T := T_Bk) (N := 4) hx hb hts in_Bk t_Bk tok_Bk n_Bk hown hK hP hD hS 0 rfl rfl 2 (by decide) (hts _ wd_126) (fun _ h9 => h9) rfl (by decide +kernel) rfl rfl (Nat.le_of_ble_eq_true rfl) d_Bk_init_22 (fun H locs hP hD hS => ?_)
  have hP : va_P D vwCl [(h0, .inr (0, [.ref q1, .ref q2, .int (iI 0), .int (iI 0)])), (q1, .inl (cI, 12, .inl (fun k => iI ((fun _ => 0) k)))), (q2, .inl (cI, 12, .inl (fun k => iI ((fun _ => 0) k))))] H := hP
  have hD : va_D A [(h0, .inr (0, [.ref q1, .ref q2, .int (iI 0), .int (iI 0)])), (q1, .inl (cI, 12, .inl (fun k => iI ((fun _ => 0) k)))), (q2, .inl (cI, 12, .inl (fun k => iI ((fun _ => 0) k))))] := hD
  refine lv_aload_n hx hb d_Bk_init_25 rfl (lv_at hl 0 rfl) ?_
  refine nv_iconst (n := 0) hx hb d_Bk_init_26 ?_
  refine va_put (D := D) (ci := 0) (v := .int (iI 0)) (ty := .int) (C := "LightDoses$Book") (T := T_Bk) (N := 4) hx hb hts in_Bk t_Bk tok_Bk n_Bk hown hK hP hD hS 0 rfl rfl 3 (by decide) (hts _ wd_128) (fun _ h9 => h9) rfl (by decide +kernel) rfl rfl (Nat.le_of_ble_eq_true rfl) d_Bk_init_27 (fun H locs hP hD hS => ?_)
  have hP : va_P D vwCl [(h0, .inr (0, [.ref q1, .ref q2, .int (iI 0), .int (iI 0)])), (q1, .inl (cI, 12, .inl (fun k => iI ((fun _ => 0) k)))), (q2, .inl (cI, 12, .inl (fun k => iI ((fun _ => 0) k))))] H := hP
  have hD : va_D A [(h0, .inr (0, [.ref q1, .ref q2, .int (iI 0), .int (iI 0)])), (q1, .inl (cI, 12, .inl (fun k => iI ((fun _ => 0) k)))), (q2, .inl (cI, 12, .inl (fun k => iI ((fun _ => 0) k))))] := hD
  have hP9 := hP.sub (ws' := [(h0, .inr (0, [.ref q1, .ref q2, .int (iI 0), .int (iI 0)])), (q1, .inl (cI, 12, .inl (fun k => iI ((fun _ => 0) k)))), (q2, .inl (cI, 12, .inl (fun k => iI ((fun _ => 0) k))))]) [0, 1, 2] rfl
  have hD9 := hD.sub (ws' := [(h0, .inr (0, [.ref q1, .ref q2, .int (iI 0), .int (iI 0)])), (q1, .inl (cI, 12, .inl (fun k => iI ((fun _ => 0) k)))), (q2, .inl (cI, 12, .inl (fun k => iI ((fun _ => 0) k))))]) [0, 1, 2] (by decide) rfl
  exact W.vret hx hb hr (fun t ht hW => ⟨⟨(((fun _ => 0)), ((fun _ => 0)), (0), (0)), rfl, v, q1, q2, by rw [ht]; exact hP9, va_K.moved hW.alike hK, hD9⟩, hS.F ht⟩) hS.2.2 d_Bk_init_30
