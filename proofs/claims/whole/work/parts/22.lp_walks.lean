/-! MODULE Lamp -/
theorem d_Lp_luxHoursBefore_0 : decode prog_8_method_5_code 0 = .ok (.iconst 0, 1) := by decide +kernel
theorem d_Lp_luxHoursBefore_1 : decode prog_8_method_5_code 1 = .ok (.istore_n 2, 1) := by decide +kernel
theorem d_Lp_luxHoursBefore_2 : decode prog_8_method_5_code 2 = .ok (.bipush 32, 2) := by decide +kernel
theorem d_Lp_luxHoursBefore_4 : decode prog_8_method_5_code 4 = .ok (.istore_n 3, 1) := by decide +kernel
theorem d_Lp_luxHoursBefore_5 : decode prog_8_method_5_code 5 = .ok (.iload_n 3, 1) := by decide +kernel
theorem d_Lp_luxHoursBefore_6 : decode prog_8_method_5_code 6 = .ok (.ifCond .le 36, 3) := by decide +kernel
theorem d_Lp_luxHoursBefore_9 : decode prog_8_method_5_code 9 = .ok (.iload_n 2, 1) := by decide +kernel
theorem d_Lp_luxHoursBefore_10 : decode prog_8_method_5_code 10 = .ok (.iload_n 3, 1) := by decide +kernel
theorem d_Lp_luxHoursBefore_11 : decode prog_8_method_5_code 11 = .ok (.iadd, 1) := by decide +kernel
theorem d_Lp_luxHoursBefore_12 : decode prog_8_method_5_code 12 = .ok (.aload_n 0, 1) := by decide +kernel
theorem d_Lp_luxHoursBefore_13 : decode prog_8_method_5_code 13 = .ok (.getfield 34, 3) := by decide +kernel
theorem d_Lp_luxHoursBefore_16 : decode prog_8_method_5_code 16 = .ok (.if_icmp .ge 19, 3) := by decide +kernel
theorem d_Lp_luxHoursBefore_19 : decode prog_8_method_5_code 19 = .ok (.aload_n 0, 1) := by decide +kernel
theorem d_Lp_luxHoursBefore_20 : decode prog_8_method_5_code 20 = .ok (.getfield 23, 3) := by decide +kernel
theorem d_Lp_luxHoursBefore_23 : decode prog_8_method_5_code 23 = .ok (.iload_n 2, 1) := by decide +kernel
theorem d_Lp_luxHoursBefore_24 : decode prog_8_method_5_code 24 = .ok (.iload_n 3, 1) := by decide +kernel
theorem d_Lp_luxHoursBefore_25 : decode prog_8_method_5_code 25 = .ok (.iadd, 1) := by decide +kernel
theorem d_Lp_luxHoursBefore_26 : decode prog_8_method_5_code 26 = .ok (.iaload, 1) := by decide +kernel
theorem d_Lp_luxHoursBefore_27 : decode prog_8_method_5_code 27 = .ok (.iload_n 1, 1) := by decide +kernel
theorem d_Lp_luxHoursBefore_28 : decode prog_8_method_5_code 28 = .ok (.if_icmp .gt 7, 3) := by decide +kernel
theorem d_Lp_luxHoursBefore_31 : decode prog_8_method_5_code 31 = .ok (.iload_n 2, 1) := by decide +kernel
theorem d_Lp_luxHoursBefore_32 : decode prog_8_method_5_code 32 = .ok (.iload_n 3, 1) := by decide +kernel
theorem d_Lp_luxHoursBefore_33 : decode prog_8_method_5_code 33 = .ok (.iadd, 1) := by decide +kernel
theorem d_Lp_luxHoursBefore_34 : decode prog_8_method_5_code 34 = .ok (.istore_n 2, 1) := by decide +kernel
theorem d_Lp_luxHoursBefore_35 : decode prog_8_method_5_code 35 = .ok (.iload_n 3, 1) := by decide +kernel
theorem d_Lp_luxHoursBefore_36 : decode prog_8_method_5_code 36 = .ok (.iconst 2, 1) := by decide +kernel
theorem d_Lp_luxHoursBefore_37 : decode prog_8_method_5_code 37 = .ok (.idiv, 1) := by decide +kernel
theorem d_Lp_luxHoursBefore_38 : decode prog_8_method_5_code 38 = .ok (.istore_n 3, 1) := by decide +kernel
theorem d_Lp_luxHoursBefore_39 : decode prog_8_method_5_code 39 = .ok (.goto (-34), 3) := by decide +kernel
theorem d_Lp_luxHoursBefore_42 : decode prog_8_method_5_code 42 = .ok (.aload_n 0, 1) := by decide +kernel
theorem d_Lp_luxHoursBefore_43 : decode prog_8_method_5_code 43 = .ok (.getfield 30, 3) := by decide +kernel
theorem d_Lp_luxHoursBefore_46 : decode prog_8_method_5_code 46 = .ok (.iload_n 2, 1) := by decide +kernel
theorem d_Lp_luxHoursBefore_47 : decode prog_8_method_5_code 47 = .ok (.laload, 1) := by decide +kernel
theorem d_Lp_luxHoursBefore_48 : decode prog_8_method_5_code 48 = .ok (.aload_n 0, 1) := by decide +kernel
theorem d_Lp_luxHoursBefore_49 : decode prog_8_method_5_code 49 = .ok (.getfield 27, 3) := by decide +kernel
theorem d_Lp_luxHoursBefore_52 : decode prog_8_method_5_code 52 = .ok (.iload_n 2, 1) := by decide +kernel
theorem d_Lp_luxHoursBefore_53 : decode prog_8_method_5_code 53 = .ok (.iaload, 1) := by decide +kernel
theorem d_Lp_luxHoursBefore_54 : decode prog_8_method_5_code 54 = .ok (.i2l, 1) := by decide +kernel
theorem d_Lp_luxHoursBefore_55 : decode prog_8_method_5_code 55 = .ok (.iload_n 1, 1) := by decide +kernel
theorem d_Lp_luxHoursBefore_56 : decode prog_8_method_5_code 56 = .ok (.aload_n 0, 1) := by decide +kernel
theorem d_Lp_luxHoursBefore_57 : decode prog_8_method_5_code 57 = .ok (.getfield 23, 3) := by decide +kernel
theorem d_Lp_luxHoursBefore_60 : decode prog_8_method_5_code 60 = .ok (.iload_n 2, 1) := by decide +kernel
theorem d_Lp_luxHoursBefore_61 : decode prog_8_method_5_code 61 = .ok (.iaload, 1) := by decide +kernel
theorem d_Lp_luxHoursBefore_62 : decode prog_8_method_5_code 62 = .ok (.isub, 1) := by decide +kernel
theorem d_Lp_luxHoursBefore_63 : decode prog_8_method_5_code 63 = .ok (.i2l, 1) := by decide +kernel
theorem d_Lp_luxHoursBefore_64 : decode prog_8_method_5_code 64 = .ok (.lmul, 1) := by decide +kernel
theorem d_Lp_luxHoursBefore_65 : decode prog_8_method_5_code 65 = .ok (.ladd, 1) := by decide +kernel
theorem d_Lp_luxHoursBefore_66 : decode prog_8_method_5_code 66 = .ok (.lreturn, 1) := by decide +kernel
def vc_Lp_luxHoursBefore (wfst : Int) (wh : Nat → Int) (wv : Nat → Int) (wn : Int) (mfst : Int) (mh : Nat → Int) (mv : Nat → Int) (mn : Int) (ps : Nat → Int) (pl : Nat → Int) (pt : Nat → Int) (np : Int) (hour : Int) (post : Int → Prop) : Prop := ∃ (I1 : Int → Int → Prop) (μ2 : Int → Int → Nat), I1 0 32 ∧ ∀ (bf : Int) (st : Int), I1 bf st → (r32 st) ∧ ((st ≤ 0 → (0 ≤ bf ∧ bf < 41) ∧ ((0 ≤ bf ∧ bf < 41) ∧ ((r32 (pl (bf).toNat)) ∧ ((0 ≤ bf ∧ bf < 41) ∧ ((r32 (hour - (ps (bf).toNat))) ∧ (post (pt (bf).toNat + ((pl (bf).toNat) * (hour - (ps (bf).toNat)))))))))) ∧ (0 < st → (r32 (bf + st)) ∧ ((r32 np) ∧ ((np ≤ bf + st → (0 ≤ st) ∧ (I1 bf (st / 2) ∧ μ2 bf (st / 2) < μ2 bf st)) ∧ (bf + st < np → (0 ≤ bf + st ∧ bf + st < 41) ∧ ((r32 (ps (bf + st).toNat)) ∧ ((r32 hour) ∧ ((hour < ps (bf + st).toNat → (0 ≤ st) ∧ (I1 bf (st / 2) ∧ μ2 bf (st / 2) < μ2 bf st)) ∧ (ps (bf + st).toNat ≤ hour → (0 ≤ st) ∧ (I1 (bf + st) (st / 2) ∧ μ2 (bf + st) (st / 2) < μ2 bf st))))))))))
set_option maxHeartbeats 4000000 in
set_option maxRecDepth 100000 in
theorem m_Lp_luxHoursBefore (l : Launch) (D : va_G) (cI cJ cO cZ : ClassId) (h0 h1 h2 h3 h4 h5 h6 h7 h8 h9 : Nat) (wfst : Int) (wh : Nat → Int) (wv : Nat → Int) (wn : Int) (mfst : Int) (mh : Nat → Int) (mv : Nat → Int) (mn : Int) (ps : Nat → Int) (pl : Nat → Int) (pt : Nat → Int) (np : Int) (hour : Int) (post : Int → Prop) (v : vc_Lp_luxHoursBefore wfst wh wv wn mfst mh mv mn ps pl pt np hour post) : Met l ⟨"LightDoses$Lamp", "luxHoursBefore", "(I)J"⟩ (.code ⟨"LightDoses$Lamp", "luxHoursBefore", "(I)J"⟩ prog_8_method_5_code 4 (some .long) :: TG) { frames := 0, cells := 0, slots := 0, locals := 0 } (va_Pc [.ref h0, .int (iI hour)] (fun U => va_K D vwCl (tyx cI cJ cO cZ) U ∧ va_P D vwCl [(h0, .inr (6, [.ref h1, .ref h4, .ref h7, .ref h8, .ref h9, .int (iI np)])), (h1, .inr (2, [.int (iI wfst), .ref h2, .ref h3, .int (iI wn)])), (h2, .inl (cI, 20, .inl (fun k => iI (wh k)))), (h3, .inl (cI, 20, .inl (fun k => iI (wv k)))), (h4, .inr (2, [.int (iI mfst), .ref h5, .ref h6, .int (iI mn)])), (h5, .inl (cI, 20, .inl (fun k => iI (mh k)))), (h6, .inl (cI, 20, .inl (fun k => iI (mv k)))), (h7, .inl (cI, 41, .inl (fun k => iI (ps k)))), (h8, .inl (cI, 41, .inl (fun k => iI (pl k)))), (h9, .inl (cJ, 41, .inr (.inl (fun k => lI (pt k)))))] U.heap)) (vp_Sl (fun r => ∃ z : Int, r = lI z ∧ post z)) 0 0 (fun _ => False) := by
  refine Met.ofW (cc := prog_8_method_5_code) (maxL := 4) (ret := (some .long)) (by decide) rfl ?_
  intro p e s m args below meth c s₁ B hml hv
  obtain ⟨rfl, hK, hP⟩ := hv
  have hx := B.exec
  have hb := B.bytes
  have hr := B.returns
  have hts0 := atoms_spec (ws := (.code ⟨"LightDoses$Lamp", "luxHoursBefore", "(I)J"⟩ prog_8_method_5_code 4 (some .long) :: TG)) B.pre
  have hts : ∀ w ∈ TG, w.before _ s = true := fun w h => hts0 w (List.mem_cons_of_mem _ h)
  have hown : s.vm.findClass "LightDoses$Lamp" = some m.cls := findClass_of_methodNamed B.named
  have hlocks := B.notSynchronized
  have hP : va_P D vwCl [(h0, .inr (6, [.ref h1, .ref h4, .ref h7, .ref h8, .ref h9, .int (iI np)])), (h1, .inr (2, [.int (iI wfst), .ref h2, .ref h3, .int (iI wn)])), (h2, .inl (cI, 20, .inl (fun k => iI (wh k)))), (h3, .inl (cI, 20, .inl (fun k => iI (wv k)))), (h4, .inr (2, [.int (iI mfst), .ref h5, .ref h6, .int (iI mn)])), (h5, .inl (cI, 20, .inl (fun k => iI (mh k)))), (h6, .inl (cI, 20, .inl (fun k => iI (mv k)))), (h7, .inl (cI, 41, .inl (fun k => iI (ps k)))), (h8, .inl (cI, 41, .inl (fun k => iI (pl k)))), (h9, .inl (cJ, 41, .inr (.inl (fun k => lI (pt k)))))] s.heap := hP
  have hl := lv_entry ([Value.ref h0, Value.int (iI hour)]) (n := 4) (Nat.le_of_ble_eq_true rfl)
  rw [lg_entry_eq]
  generalize (lg_sl ([Value.ref h0, Value.int (iI hour)]) ++ List.replicate (4 - (lg_sl ([Value.ref h0, Value.int (iI hour)])).length) Slot.unset).toArray = ls at hl ⊢
  have hl : lv_has ls 4 [(0, .ref h0), (1, .int (iI hour))] := hl
  unfold vc_Lp_luxHoursBefore at v
  refine nv_iconst (n := 0) hx hb d_Lp_luxHoursBefore_0 ?_
  refine lv_istore_n (lv' := [(2, .int (iI 0)), (0, .ref h0), (1, .int (iI hour))]) hx hb d_Lp_luxHoursBefore_1 rfl hl (by decide) rfl (fun ls hl => ?_)
  refine nv_bipush (z := 32) hx hb d_Lp_luxHoursBefore_2 (by decide) ?_
  refine lv_istore_n (lv' := [(3, .int (iI 32)), (2, .int (iI 0)), (0, .ref h0), (1, .int (iI hour))]) hx hb d_Lp_luxHoursBefore_4 rfl hl (by decide) rfl (fun ls hl => ?_)
  obtain ⟨I1, μ2, v22, v23⟩ := v
  have L24 : ∀ (N : Nat) (bf : Int) (st : Int) (ls : Array Slot), μ2 bf st < N → I1 bf st → lv_has ls 4 [(0, .ref h0), (1, .int (iI hour)), (2, .int (iI bf)), (3, .int (iI st))] → W p l e (headSpec (.code ⟨"LightDoses$Lamp", "luxHoursBefore", "(I)J"⟩ prog_8_method_5_code 4 (some .long) :: TG) { frames := 0, cells := 0, slots := 0, locals := 0 }).room s m ([Value.ref h0, Value.int (iI hour)] : List Value).toArray below meth c s.heap [] 0 0 (MQ below (vp_Sl (fun r => ∃ z : Int, r = lI z ∧ post z)) ([Value.ref h0, Value.int (iI hour)] : List Value).toArray s 0 0 (fun _ => False)) (F0 m 5 ls []) := by
    intro N
    induction N with
    | zero => intro bf st ls hN; exact absurd hN (Nat.not_lt_zero _)
    | succ N ih3 =>
      intro bf st ls hN4 hI hl
      have v := v23 bf st hI
      refine lv_iload_n hx hb d_Lp_luxHoursBefore_5 rfl (lv_at hl 3 rfl) ?_
      obtain ⟨k5, v⟩ := v
      refine nv_if_le (tgt := 42) hx hb d_Lp_luxHoursBefore_6 (by decide) k5 (fun c6 => ?_) (fun c6 => ?_)
      · replace v := v.1 c6
        refine lv_aload_n hx hb d_Lp_luxHoursBefore_42 rfl (lv_at hl 0 rfl) ?_
        refine va_get (D := D) (ci := 6) (v := .ref h9) (C := "LightDoses$Lamp") (T := T_Lp) (N := 6) hx hb hts in_Lp hown hK hP 0 rfl rfl 4 (by decide) (hts _ wd_515) (fun _ h9 => h9) rfl d_Lp_luxHoursBefore_43 ?_
        refine lv_iload_n hx hb d_Lp_luxHoursBefore_46 rfl (lv_at hl 2 rfl) ?_
        obtain ⟨k7, v⟩ := v
        refine nv_lald (f := pt) hx hb hK 1 (hP 9 _ rfl) rfl (bf).toNat (Int.toNat_of_nonneg k7.1).symm (by omega) (by decide) d_Lp_luxHoursBefore_47 ?_
        refine lv_aload_n hx hb d_Lp_luxHoursBefore_48 rfl (lv_at hl 0 rfl) ?_
        refine va_get (D := D) (ci := 6) (v := .ref h8) (C := "LightDoses$Lamp") (T := T_Lp) (N := 6) hx hb hts in_Lp hown hK hP 0 rfl rfl 3 (by decide) (hts _ wd_514) (fun _ h9 => h9) rfl d_Lp_luxHoursBefore_49 ?_
        refine lv_iload_n hx hb d_Lp_luxHoursBefore_52 rfl (lv_at hl 2 rfl) ?_
        obtain ⟨k8, v⟩ := v
        refine nv_iald (f := pl) hx hb hK 0 (hP 8 _ rfl) rfl (bf).toNat (Int.toNat_of_nonneg k8.1).symm (by omega) (by decide) d_Lp_luxHoursBefore_53 ?_
        obtain ⟨k9, v⟩ := v
        refine nv_i2l hx hb d_Lp_luxHoursBefore_54 k9 ?_
        refine lv_iload_n hx hb d_Lp_luxHoursBefore_55 rfl (lv_at hl 1 rfl) ?_
        refine lv_aload_n hx hb d_Lp_luxHoursBefore_56 rfl (lv_at hl 0 rfl) ?_
        refine va_get (D := D) (ci := 6) (v := .ref h7) (C := "LightDoses$Lamp") (T := T_Lp) (N := 6) hx hb hts in_Lp hown hK hP 0 rfl rfl 2 (by decide) (hts _ wd_513) (fun _ h9 => h9) rfl d_Lp_luxHoursBefore_57 ?_
        refine lv_iload_n hx hb d_Lp_luxHoursBefore_60 rfl (lv_at hl 2 rfl) ?_
        obtain ⟨k10, v⟩ := v
        refine nv_iald (f := ps) hx hb hK 0 (hP 7 _ rfl) rfl (bf).toNat (Int.toNat_of_nonneg k10.1).symm (by omega) (by decide) d_Lp_luxHoursBefore_61 ?_
        refine nv_isub (z := hour - (ps (bf).toNat)) hx hb d_Lp_luxHoursBefore_62 (by first | rfl | omega) ?_
        obtain ⟨k11, v⟩ := v
        refine nv_i2l hx hb d_Lp_luxHoursBefore_63 k11 ?_
        refine nv_lmul (z := (pl (bf).toNat) * (hour - (ps (bf).toNat))) hx hb d_Lp_luxHoursBefore_64 (by first | rfl | omega) ?_
        refine nv_ladd (z := pt (bf).toNat + ((pl (bf).toNat) * (hour - (ps (bf).toNat)))) hx hb d_Lp_luxHoursBefore_65 (by first | rfl | omega) ?_
        exact W.lret hx hb hr (fun t ht hW => ⟨_, rfl, ⟨_, rfl, v⟩, ht⟩) (fun q h => by cases h) d_Lp_luxHoursBefore_66
      · replace v := v.2 c6
        refine lv_iload_n hx hb d_Lp_luxHoursBefore_9 rfl (lv_at hl 2 rfl) ?_
        refine lv_iload_n hx hb d_Lp_luxHoursBefore_10 rfl (lv_at hl 3 rfl) ?_
        refine nv_iadd (z := bf + st) hx hb d_Lp_luxHoursBefore_11 (by first | rfl | omega) ?_
        refine lv_aload_n hx hb d_Lp_luxHoursBefore_12 rfl (lv_at hl 0 rfl) ?_
        refine va_get (D := D) (ci := 6) (v := .int (iI np)) (C := "LightDoses$Lamp") (T := T_Lp) (N := 6) hx hb hts in_Lp hown hK hP 0 rfl rfl 5 (by decide) (hts _ wd_516) (fun _ h9 => h9) rfl d_Lp_luxHoursBefore_13 ?_
        obtain ⟨k12, v⟩ := v
        obtain ⟨k13, v⟩ := v
        refine nv_icmp_ge (tgt := 35) hx hb d_Lp_luxHoursBefore_16 (by decide) k12 k13 (fun c14 => ?_) (fun c14 => ?_)
        · replace v := v.1 c14
          refine lv_iload_n hx hb d_Lp_luxHoursBefore_35 rfl (lv_at hl 3 rfl) ?_
          refine nv_iconst (n := 2) hx hb d_Lp_luxHoursBefore_36 ?_
          obtain ⟨k15, v⟩ := v
          refine nv_idiv (z := st / 2) hx hb d_Lp_luxHoursBefore_37 k5 (by decide) k15 (by decide) rfl ?_
          refine lv_istore_n (lv' := [(3, .int (iI (st / 2))), (0, .ref h0), (1, .int (iI hour)), (2, .int (iI bf))]) hx hb d_Lp_luxHoursBefore_38 rfl hl (by decide) rfl (fun ls hl => ?_)
          refine lv_goto (tgt := 5) hx hb d_Lp_luxHoursBefore_39 (by decide) ?_
          exact ih3 bf (st / 2) ls (Nat.lt_of_lt_of_le v.2 (Nat.le_of_lt_succ hN4)) v.1 (lv_sub hl [1, 2, 3, 0] rfl)
        · replace v := v.2 c14
          refine lv_aload_n hx hb d_Lp_luxHoursBefore_19 rfl (lv_at hl 0 rfl) ?_
          refine va_get (D := D) (ci := 6) (v := .ref h7) (C := "LightDoses$Lamp") (T := T_Lp) (N := 6) hx hb hts in_Lp hown hK hP 0 rfl rfl 2 (by decide) (hts _ wd_513) (fun _ h9 => h9) rfl d_Lp_luxHoursBefore_20 ?_
          refine lv_iload_n hx hb d_Lp_luxHoursBefore_23 rfl (lv_at hl 2 rfl) ?_
          refine lv_iload_n hx hb d_Lp_luxHoursBefore_24 rfl (lv_at hl 3 rfl) ?_
          refine nv_iadd (z := bf + st) hx hb d_Lp_luxHoursBefore_25 (by first | rfl | omega) ?_
          obtain ⟨k16, v⟩ := v
          refine nv_iald (f := ps) hx hb hK 0 (hP 7 _ rfl) rfl (bf + st).toNat (Int.toNat_of_nonneg k16.1).symm (by omega) (by decide) d_Lp_luxHoursBefore_26 ?_
          refine lv_iload_n hx hb d_Lp_luxHoursBefore_27 rfl (lv_at hl 1 rfl) ?_
          obtain ⟨k17, v⟩ := v
          obtain ⟨k18, v⟩ := v
          refine nv_icmp_gt (tgt := 35) hx hb d_Lp_luxHoursBefore_28 (by decide) k17 k18 (fun c19 => ?_) (fun c19 => ?_)
          · replace v := v.1 c19
            refine lv_iload_n hx hb d_Lp_luxHoursBefore_35 rfl (lv_at hl 3 rfl) ?_
            refine nv_iconst (n := 2) hx hb d_Lp_luxHoursBefore_36 ?_
            obtain ⟨k20, v⟩ := v
            refine nv_idiv (z := st / 2) hx hb d_Lp_luxHoursBefore_37 k5 (by decide) k20 (by decide) rfl ?_
            refine lv_istore_n (lv' := [(3, .int (iI (st / 2))), (0, .ref h0), (1, .int (iI hour)), (2, .int (iI bf))]) hx hb d_Lp_luxHoursBefore_38 rfl hl (by decide) rfl (fun ls hl => ?_)
            refine lv_goto (tgt := 5) hx hb d_Lp_luxHoursBefore_39 (by decide) ?_
            exact ih3 bf (st / 2) ls (Nat.lt_of_lt_of_le v.2 (Nat.le_of_lt_succ hN4)) v.1 (lv_sub hl [1, 2, 3, 0] rfl)
          · replace v := v.2 c19
            refine lv_iload_n hx hb d_Lp_luxHoursBefore_31 rfl (lv_at hl 2 rfl) ?_
            refine lv_iload_n hx hb d_Lp_luxHoursBefore_32 rfl (lv_at hl 3 rfl) ?_
            refine nv_iadd (z := bf + st) hx hb d_Lp_luxHoursBefore_33 (by first | rfl | omega) ?_
            refine lv_istore_n (lv' := [(2, .int (iI (bf + st))), (0, .ref h0), (1, .int (iI hour)), (3, .int (iI st))]) hx hb d_Lp_luxHoursBefore_34 rfl hl (by decide) rfl (fun ls hl => ?_)
            refine lv_iload_n hx hb d_Lp_luxHoursBefore_35 rfl (lv_at hl 3 rfl) ?_
            refine nv_iconst (n := 2) hx hb d_Lp_luxHoursBefore_36 ?_
            obtain ⟨k21, v⟩ := v
            refine nv_idiv (z := st / 2) hx hb d_Lp_luxHoursBefore_37 k5 (by decide) k21 (by decide) rfl ?_
            refine lv_istore_n (lv' := [(3, .int (iI (st / 2))), (2, .int (iI (bf + st))), (0, .ref h0), (1, .int (iI hour))]) hx hb d_Lp_luxHoursBefore_38 rfl hl (by decide) rfl (fun ls hl => ?_)
            refine lv_goto (tgt := 5) hx hb d_Lp_luxHoursBefore_39 (by decide) ?_
            exact ih3 (bf + st) (st / 2) ls (Nat.lt_of_lt_of_le v.2 (Nat.le_of_lt_succ hN4)) v.1 (lv_sub hl [2, 3, 1, 0] rfl)
  exact L24 _ 0 32 ls (Nat.lt_succ_self _) v22 (lv_sub hl [2, 3, 1, 0] rfl)

theorem d_Lp_cut_0 : decode prog_8_method_4_code 0 = .ok (.lconst 0, 1) := by decide +kernel
theorem d_Lp_cut_1 : decode prog_8_method_4_code 1 = .ok (.lstore_n 1, 1) := by decide +kernel
theorem d_Lp_cut_2 : decode prog_8_method_4_code 2 = .ok (.iconst 0, 1) := by decide +kernel
theorem d_Lp_cut_3 : decode prog_8_method_4_code 3 = .ok (.istore_n 3, 1) := by decide +kernel
theorem d_Lp_cut_4 : decode prog_8_method_4_code 4 = .ok (.aload_n 0, 1) := by decide +kernel
theorem d_Lp_cut_5 : decode prog_8_method_4_code 5 = .ok (.iconst 0, 1) := by decide +kernel
theorem d_Lp_cut_6 : decode prog_8_method_4_code 6 = .ok (.putfield 34, 3) := by decide +kernel
theorem d_Lp_cut_9 : decode prog_8_method_4_code 9 = .ok (.aload_n 0, 1) := by decide +kernel
theorem d_Lp_cut_10 : decode prog_8_method_4_code 10 = .ok (.getfield 34, 3) := by decide +kernel
theorem d_Lp_cut_13 : decode prog_8_method_4_code 13 = .ok (.bipush 41, 2) := by decide +kernel
theorem d_Lp_cut_15 : decode prog_8_method_4_code 15 = .ok (.if_icmp .ge 119, 3) := by decide +kernel
theorem d_Lp_cut_18 : decode prog_8_method_4_code 18 = .ok (.iload_n 3, 1) := by decide +kernel
theorem d_Lp_cut_19 : decode prog_8_method_4_code 19 = .ok (.sipush 26280, 3) := by decide +kernel
theorem d_Lp_cut_22 : decode prog_8_method_4_code 22 = .ok (.if_icmp .ge 112, 3) := by decide +kernel
theorem d_Lp_cut_25 : decode prog_8_method_4_code 25 = .ok (.aload_n 0, 1) := by decide +kernel
theorem d_Lp_cut_26 : decode prog_8_method_4_code 26 = .ok (.getfield 16, 3) := by decide +kernel
theorem d_Lp_cut_29 : decode prog_8_method_4_code 29 = .ok (.iload_n 3, 1) := by decide +kernel
theorem d_Lp_cut_30 : decode prog_8_method_4_code 30 = .ok (.invokevirtual 45, 3) := by decide +kernel
theorem d_Lp_cut_33 : decode prog_8_method_4_code 33 = .ok (.aload_n 0, 1) := by decide +kernel
theorem d_Lp_cut_34 : decode prog_8_method_4_code 34 = .ok (.getfield 20, 3) := by decide +kernel
theorem d_Lp_cut_37 : decode prog_8_method_4_code 37 = .ok (.iload_n 3, 1) := by decide +kernel
theorem d_Lp_cut_38 : decode prog_8_method_4_code 38 = .ok (.invokevirtual 45, 3) := by decide +kernel
theorem d_Lp_cut_41 : decode prog_8_method_4_code 41 = .ok (.invokestatic 49, 3) := by decide +kernel
theorem d_Lp_cut_44 : decode prog_8_method_4_code 44 = .ok (.istore 4, 2) := by decide +kernel
theorem d_Lp_cut_46 : decode prog_8_method_4_code 46 = .ok (.aload_n 0, 1) := by decide +kernel
theorem d_Lp_cut_47 : decode prog_8_method_4_code 47 = .ok (.getfield 23, 3) := by decide +kernel
theorem d_Lp_cut_50 : decode prog_8_method_4_code 50 = .ok (.aload_n 0, 1) := by decide +kernel
theorem d_Lp_cut_51 : decode prog_8_method_4_code 51 = .ok (.getfield 34, 3) := by decide +kernel
theorem d_Lp_cut_54 : decode prog_8_method_4_code 54 = .ok (.iload_n 3, 1) := by decide +kernel
theorem d_Lp_cut_55 : decode prog_8_method_4_code 55 = .ok (.iastore, 1) := by decide +kernel
theorem d_Lp_cut_56 : decode prog_8_method_4_code 56 = .ok (.aload_n 0, 1) := by decide +kernel
theorem d_Lp_cut_57 : decode prog_8_method_4_code 57 = .ok (.getfield 27, 3) := by decide +kernel
theorem d_Lp_cut_60 : decode prog_8_method_4_code 60 = .ok (.aload_n 0, 1) := by decide +kernel
theorem d_Lp_cut_61 : decode prog_8_method_4_code 61 = .ok (.getfield 34, 3) := by decide +kernel
theorem d_Lp_cut_64 : decode prog_8_method_4_code 64 = .ok (.aload_n 0, 1) := by decide +kernel
theorem d_Lp_cut_65 : decode prog_8_method_4_code 65 = .ok (.getfield 16, 3) := by decide +kernel
theorem d_Lp_cut_68 : decode prog_8_method_4_code 68 = .ok (.iload_n 3, 1) := by decide +kernel
theorem d_Lp_cut_69 : decode prog_8_method_4_code 69 = .ok (.invokevirtual 55, 3) := by decide +kernel
theorem d_Lp_cut_72 : decode prog_8_method_4_code 72 = .ok (.iconst 1, 1) := by decide +kernel
theorem d_Lp_cut_73 : decode prog_8_method_4_code 73 = .ok (.if_icmp .ne 14, 3) := by decide +kernel
theorem d_Lp_cut_76 : decode prog_8_method_4_code 76 = .ok (.aload_n 0, 1) := by decide +kernel
theorem d_Lp_cut_77 : decode prog_8_method_4_code 77 = .ok (.getfield 20, 3) := by decide +kernel
theorem d_Lp_cut_80 : decode prog_8_method_4_code 80 = .ok (.iload_n 3, 1) := by decide +kernel
theorem d_Lp_cut_81 : decode prog_8_method_4_code 81 = .ok (.invokevirtual 55, 3) := by decide +kernel
theorem d_Lp_cut_84 : decode prog_8_method_4_code 84 = .ok (.goto 4, 3) := by decide +kernel
theorem d_Lp_cut_87 : decode prog_8_method_4_code 87 = .ok (.iconst 0, 1) := by decide +kernel
theorem d_Lp_cut_88 : decode prog_8_method_4_code 88 = .ok (.iastore, 1) := by decide +kernel
theorem d_Lp_cut_89 : decode prog_8_method_4_code 89 = .ok (.aload_n 0, 1) := by decide +kernel
theorem d_Lp_cut_90 : decode prog_8_method_4_code 90 = .ok (.getfield 30, 3) := by decide +kernel
theorem d_Lp_cut_93 : decode prog_8_method_4_code 93 = .ok (.aload_n 0, 1) := by decide +kernel
theorem d_Lp_cut_94 : decode prog_8_method_4_code 94 = .ok (.getfield 34, 3) := by decide +kernel
theorem d_Lp_cut_97 : decode prog_8_method_4_code 97 = .ok (.lload_n 1, 1) := by decide +kernel
theorem d_Lp_cut_98 : decode prog_8_method_4_code 98 = .ok (.lastore, 1) := by decide +kernel
theorem d_Lp_cut_99 : decode prog_8_method_4_code 99 = .ok (.lload_n 1, 1) := by decide +kernel
theorem d_Lp_cut_100 : decode prog_8_method_4_code 100 = .ok (.aload_n 0, 1) := by decide +kernel
theorem d_Lp_cut_101 : decode prog_8_method_4_code 101 = .ok (.getfield 27, 3) := by decide +kernel
theorem d_Lp_cut_104 : decode prog_8_method_4_code 104 = .ok (.aload_n 0, 1) := by decide +kernel
theorem d_Lp_cut_105 : decode prog_8_method_4_code 105 = .ok (.getfield 34, 3) := by decide +kernel
theorem d_Lp_cut_108 : decode prog_8_method_4_code 108 = .ok (.iaload, 1) := by decide +kernel
theorem d_Lp_cut_109 : decode prog_8_method_4_code 109 = .ok (.i2l, 1) := by decide +kernel
theorem d_Lp_cut_110 : decode prog_8_method_4_code 110 = .ok (.iload 4, 2) := by decide +kernel
theorem d_Lp_cut_112 : decode prog_8_method_4_code 112 = .ok (.iload_n 3, 1) := by decide +kernel
theorem d_Lp_cut_113 : decode prog_8_method_4_code 113 = .ok (.isub, 1) := by decide +kernel
theorem d_Lp_cut_114 : decode prog_8_method_4_code 114 = .ok (.i2l, 1) := by decide +kernel
theorem d_Lp_cut_115 : decode prog_8_method_4_code 115 = .ok (.lmul, 1) := by decide +kernel
theorem d_Lp_cut_116 : decode prog_8_method_4_code 116 = .ok (.ladd, 1) := by decide +kernel
theorem d_Lp_cut_117 : decode prog_8_method_4_code 117 = .ok (.lstore_n 1, 1) := by decide +kernel
theorem d_Lp_cut_118 : decode prog_8_method_4_code 118 = .ok (.iload 4, 2) := by decide +kernel
theorem d_Lp_cut_120 : decode prog_8_method_4_code 120 = .ok (.istore_n 3, 1) := by decide +kernel
theorem d_Lp_cut_121 : decode prog_8_method_4_code 121 = .ok (.aload_n 0, 1) := by decide +kernel
theorem d_Lp_cut_122 : decode prog_8_method_4_code 122 = .ok (.dup, 1) := by decide +kernel
theorem d_Lp_cut_123 : decode prog_8_method_4_code 123 = .ok (.getfield 34, 3) := by decide +kernel
theorem d_Lp_cut_126 : decode prog_8_method_4_code 126 = .ok (.iconst 1, 1) := by decide +kernel
theorem d_Lp_cut_127 : decode prog_8_method_4_code 127 = .ok (.iadd, 1) := by decide +kernel
theorem d_Lp_cut_128 : decode prog_8_method_4_code 128 = .ok (.putfield 34, 3) := by decide +kernel
theorem d_Lp_cut_131 : decode prog_8_method_4_code 131 = .ok (.goto (-122), 3) := by decide +kernel
theorem d_Lp_cut_134 : decode prog_8_method_4_code 134 = .ok (.return_, 1) := by decide +kernel
def vc_Lp_cut (wfst : Int) (wh : Nat → Int) (wv : Nat → Int) (wn : Int) (mfst : Int) (mh : Nat → Int) (mv : Nat → Int) (mn : Int) (ps : Nat → Int) (pl : Nat → Int) (pt : Nat → Int) (np : Int) (post : (Nat → Int) → (Nat → Int) → (Nat → Int) → Int → Prop) : Prop := ∃ (I1 : Int → Int → (Nat → Int) → (Nat → Int) → (Nat → Int) → Int → Prop) (μ2 : Int → Int → (Nat → Int) → (Nat → Int) → (Nat → Int) → Int → Nat), I1 0 0 ps pl pt 0 ∧ ∀ (gat : Int) (hw_ : Int) (gs : Nat → Int) (gl : Nat → Int) (gt : Nat → Int) (gn : Int), I1 gat hw_ gs gl gt gn → (r32 gn) ∧ ((41 ≤ gn → post gs gl gt gn) ∧ (gn < 41 → (r32 hw_) ∧ ((26280 ≤ hw_ → post gs gl gt gn) ∧ (hw_ < 26280 → ∃ P9 : Int → Prop, vc_Ch_nextBehind wfst wh wv wn hw_ P9 ∧ ∀ z10 : Int, P9 z10 → ∃ P12 : Int → Prop, vc_Ch_nextBehind mfst mh mv mn hw_ P12 ∧ ∀ z13 : Int, P12 z13 → (r32 z10) ∧ ((r32 z13) ∧ ((0 ≤ gn ∧ gn < 41) ∧ (∃ P18 : Int → Prop, vc_Ch_valueAt wfst wh wv wn hw_ P18 ∧ ∀ z19 : Int, P18 z19 → (r32 z19) ∧ ((¬ z19 = 1 → (0 ≤ gn ∧ gn < 41) ∧ ((0 ≤ gn ∧ gn < 41) ∧ ((0 ≤ gn ∧ gn < 41) ∧ ((r32 ((va_up gl (gn).toNat 0) (gn).toNat)) ∧ ((r32 (min z10 z13 - hw_)) ∧ (I1 (gat + (((va_up gl (gn).toNat 0) (gn).toNat) * (min z10 z13 - hw_))) (min z10 z13) (va_up gs (gn).toNat hw_) (va_up gl (gn).toNat 0) (va_up gt (gn).toNat gat) (gn + 1) ∧ μ2 (gat + (((va_up gl (gn).toNat 0) (gn).toNat) * (min z10 z13 - hw_))) (min z10 z13) (va_up gs (gn).toNat hw_) (va_up gl (gn).toNat 0) (va_up gt (gn).toNat gat) (gn + 1) < μ2 gat hw_ gs gl gt gn)))))) ∧ (z19 = 1 → ∃ P28 : Int → Prop, vc_Ch_valueAt mfst mh mv mn hw_ P28 ∧ ∀ z29 : Int, P28 z29 → (0 ≤ gn ∧ gn < 41) ∧ ((0 ≤ gn ∧ gn < 41) ∧ ((0 ≤ gn ∧ gn < 41) ∧ ((r32 ((va_up gl (gn).toNat z29) (gn).toNat)) ∧ ((r32 (min z10 z13 - hw_)) ∧ (I1 (gat + (((va_up gl (gn).toNat z29) (gn).toNat) * (min z10 z13 - hw_))) (min z10 z13) (va_up gs (gn).toNat hw_) (va_up gl (gn).toNat z29) (va_up gt (gn).toNat gat) (gn + 1) ∧ μ2 (gat + (((va_up gl (gn).toNat z29) (gn).toNat) * (min z10 z13 - hw_))) (min z10 z13) (va_up gs (gn).toNat hw_) (va_up gl (gn).toNat z29) (va_up gt (gn).toNat gat) (gn + 1) < μ2 gat hw_ gs gl gt gn))))))))))))))
set_option maxHeartbeats 4000000 in
set_option maxRecDepth 100000 in
theorem m_Lp_cut (l : Launch) (D : va_G) (cI cJ cO cZ : ClassId) (h0 h1 h2 h3 h4 h5 h6 h7 h8 h9 : Nat) (sz : Nat) (wfst : Int) (wh : Nat → Int) (wv : Nat → Int) (wn : Int) (mfst : Int) (mh : Nat → Int) (mv : Nat → Int) (mn : Int) (ps : Nat → Int) (pl : Nat → Int) (pt : Nat → Int) (np : Int) (post : (Nat → Int) → (Nat → Int) → (Nat → Int) → Int → Prop) (v : vc_Lp_cut wfst wh wv wn mfst mh mv mn ps pl pt np post) : Met l ⟨"LightDoses$Lamp", "cut", "()V"⟩ (.code ⟨"LightDoses$Lamp", "cut", "()V"⟩ prog_8_method_4_code 5 none :: TG) { frames := 2, cells := 0, slots := 0, locals := 45 } (va_Pc [.ref h0] (fun U => U.heap.size = sz ∧ va_P D vwCl [(h0, .inr (6, [.ref h1, .ref h4, .ref h7, .ref h8, .ref h9, .int (iI np)])), (h1, .inr (2, [.int (iI wfst), .ref h2, .ref h3, .int (iI wn)])), (h2, .inl (cI, 20, .inl (fun k => iI (wh k)))), (h3, .inl (cI, 20, .inl (fun k => iI (wv k)))), (h4, .inr (2, [.int (iI mfst), .ref h5, .ref h6, .int (iI mn)])), (h5, .inl (cI, 20, .inl (fun k => iI (mh k)))), (h6, .inl (cI, 20, .inl (fun k => iI (mv k)))), (h7, .inl (cI, 41, .inl (fun k => iI (ps k)))), (h8, .inl (cI, 41, .inl (fun k => iI (pl k)))), (h9, .inl (cJ, 41, .inr (.inl (fun k => lI (pt k)))))] U.heap ∧ va_K D vwCl (tyx cI cJ cO cZ) U ∧ va_D (fun _ => True) [(h0, .inr (6, [.ref h1, .ref h4, .ref h7, .ref h8, .ref h9, .int (iI np)])), (h1, .inr (2, [.int (iI wfst), .ref h2, .ref h3, .int (iI wn)])), (h2, .inl (cI, 20, .inl (fun k => iI (wh k)))), (h3, .inl (cI, 20, .inl (fun k => iI (wv k)))), (h4, .inr (2, [.int (iI mfst), .ref h5, .ref h6, .int (iI mn)])), (h5, .inl (cI, 20, .inl (fun k => iI (mh k)))), (h6, .inl (cI, 20, .inl (fun k => iI (mv k)))), (h7, .inl (cI, 41, .inl (fun k => iI (ps k)))), (h8, .inl (cI, 41, .inl (fun k => iI (pl k)))), (h9, .inl (cJ, 41, .inr (.inl (fun k => lI (pt k)))))])) (va_Qv (fun u : (Nat → Int) × (Nat → Int) × (Nat → Int) × Int => post u.1 u.2.1 u.2.2.1 u.2.2.2) (fun u t => va_P D vwCl [(h0, .inr (6, [.ref h1, .ref h4, .ref h7, .ref h8, .ref h9, .int (iI u.2.2.2)])), (h1, .inr (2, [.int (iI wfst), .ref h2, .ref h3, .int (iI wn)])), (h2, .inl (cI, 20, .inl (fun k => iI (wh k)))), (h3, .inl (cI, 20, .inl (fun k => iI (wv k)))), (h4, .inr (2, [.int (iI mfst), .ref h5, .ref h6, .int (iI mn)])), (h5, .inl (cI, 20, .inl (fun k => iI (mh k)))), (h6, .inl (cI, 20, .inl (fun k => iI (mv k)))), (h7, .inl (cI, 41, .inl (fun k => iI (u.1 k)))), (h8, .inl (cI, 41, .inl (fun k => iI (u.2.1 k)))), (h9, .inl (cJ, 41, .inr (.inl (fun k => lI (u.2.2.1 k)))))] t.heap ∧ va_K D vwCl (tyx cI cJ cO cZ) t ∧ va_D (va_A [(h0, .inr (6, [.ref h1, .ref h4, .ref h7, .ref h8, .ref h9, .int (iI np)])), (h1, .inr (2, [.int (iI wfst), .ref h2, .ref h3, .int (iI wn)])), (h2, .inl (cI, 20, .inl (fun k => iI (wh k)))), (h3, .inl (cI, 20, .inl (fun k => iI (wv k)))), (h4, .inr (2, [.int (iI mfst), .ref h5, .ref h6, .int (iI mn)])), (h5, .inl (cI, 20, .inl (fun k => iI (mh k)))), (h6, .inl (cI, 20, .inl (fun k => iI (mv k)))), (h7, .inl (cI, 41, .inl (fun k => iI (ps k)))), (h8, .inl (cI, 41, .inl (fun k => iI (pl k)))), (h9, .inl (cJ, 41, .inr (.inl (fun k => lI (pt k)))))] sz) [(h0, .inr (6, [.ref h1, .ref h4, .ref h7, .ref h8, .ref h9, .int (iI u.2.2.2)])), (h1, .inr (2, [.int (iI wfst), .ref h2, .ref h3, .int (iI wn)])), (h2, .inl (cI, 20, .inl (fun k => iI (wh k)))), (h3, .inl (cI, 20, .inl (fun k => iI (wv k)))), (h4, .inr (2, [.int (iI mfst), .ref h5, .ref h6, .int (iI mn)])), (h5, .inl (cI, 20, .inl (fun k => iI (mh k)))), (h6, .inl (cI, 20, .inl (fun k => iI (mv k)))), (h7, .inl (cI, 41, .inl (fun k => iI (u.1 k)))), (h8, .inl (cI, 41, .inl (fun k => iI (u.2.1 k)))), (h9, .inl (cJ, 41, .inr (.inl (fun k => lI (u.2.2.1 k)))))]) (va_A [(h0, .inr (6, [.ref h1, .ref h4, .ref h7, .ref h8, .ref h9, .int (iI np)])), (h1, .inr (2, [.int (iI wfst), .ref h2, .ref h3, .int (iI wn)])), (h2, .inl (cI, 20, .inl (fun k => iI (wh k)))), (h3, .inl (cI, 20, .inl (fun k => iI (wv k)))), (h4, .inr (2, [.int (iI mfst), .ref h5, .ref h6, .int (iI mn)])), (h5, .inl (cI, 20, .inl (fun k => iI (mh k)))), (h6, .inl (cI, 20, .inl (fun k => iI (mv k)))), (h7, .inl (cI, 41, .inl (fun k => iI (ps k)))), (h8, .inl (cI, 41, .inl (fun k => iI (pl k)))), (h9, .inl (cJ, 41, .inr (.inl (fun k => lI (pt k)))))] sz)) 0 0 (va_A [(h0, .inr (6, [.ref h1, .ref h4, .ref h7, .ref h8, .ref h9, .int (iI np)])), (h1, .inr (2, [.int (iI wfst), .ref h2, .ref h3, .int (iI wn)])), (h2, .inl (cI, 20, .inl (fun k => iI (wh k)))), (h3, .inl (cI, 20, .inl (fun k => iI (wv k)))), (h4, .inr (2, [.int (iI mfst), .ref h5, .ref h6, .int (iI mn)])), (h5, .inl (cI, 20, .inl (fun k => iI (mh k)))), (h6, .inl (cI, 20, .inl (fun k => iI (mv k)))), (h7, .inl (cI, 41, .inl (fun k => iI (ps k)))), (h8, .inl (cI, 41, .inl (fun k => iI (pl k)))), (h9, .inl (cJ, 41, .inr (.inl (fun k => lI (pt k)))))] sz) := by
  refine Met.ofW (cc := prog_8_method_4_code) (maxL := 5) (ret := none) (by decide) rfl ?_
  intro p e s m args below meth c s₁ B hml hv
  obtain ⟨rfl, hsz, hP, hK, hD0⟩ := hv
  have hx := B.exec
  have hb := B.bytes
  have hr := B.returns
  have hts0 := atoms_spec (ws := (.code ⟨"LightDoses$Lamp", "cut", "()V"⟩ prog_8_method_4_code 5 none :: TG)) B.pre
  have hts : ∀ w ∈ TG, w.before _ s = true := fun w h => hts0 w (List.mem_cons_of_mem _ h)
  have hown : s.vm.findClass "LightDoses$Lamp" = some m.cls := findClass_of_methodNamed B.named
  have hlocks := B.notSynchronized
  subst hsz
  have hD := hD0.self (sz := s.heap.size)
  generalize hAe : va_A [(h0, .inr (6, [.ref h1, .ref h4, .ref h7, .ref h8, .ref h9, .int (iI np)])), (h1, .inr (2, [.int (iI wfst), .ref h2, .ref h3, .int (iI wn)])), (h2, .inl (cI, 20, .inl (fun k => iI (wh k)))), (h3, .inl (cI, 20, .inl (fun k => iI (wv k)))), (h4, .inr (2, [.int (iI mfst), .ref h5, .ref h6, .int (iI mn)])), (h5, .inl (cI, 20, .inl (fun k => iI (mh k)))), (h6, .inl (cI, 20, .inl (fun k => iI (mv k)))), (h7, .inl (cI, 41, .inl (fun k => iI (ps k)))), (h8, .inl (cI, 41, .inl (fun k => iI (pl k)))), (h9, .inl (cJ, 41, .inr (.inl (fun k => lI (pt k)))))] s.heap.size = A at hD ⊢
  have hA : ∀ q : Nat, s.heap.size ≤ q → A q := fun q h => by rw [← hAe]; exact Or.inr h
  have hS : va_S A s.heap s.heap [] := va_S.rf
  have hP : va_P D vwCl [(h0, .inr (6, [.ref h1, .ref h4, .ref h7, .ref h8, .ref h9, .int (iI np)])), (h1, .inr (2, [.int (iI wfst), .ref h2, .ref h3, .int (iI wn)])), (h2, .inl (cI, 20, .inl (fun k => iI (wh k)))), (h3, .inl (cI, 20, .inl (fun k => iI (wv k)))), (h4, .inr (2, [.int (iI mfst), .ref h5, .ref h6, .int (iI mn)])), (h5, .inl (cI, 20, .inl (fun k => iI (mh k)))), (h6, .inl (cI, 20, .inl (fun k => iI (mv k)))), (h7, .inl (cI, 41, .inl (fun k => iI (ps k)))), (h8, .inl (cI, 41, .inl (fun k => iI (pl k)))), (h9, .inl (cJ, 41, .inr (.inl (fun k => lI (pt k)))))] s.heap := hP
  have hl := lv_entry ([Value.ref h0]) (n := 5) (Nat.le_of_ble_eq_true rfl)
  rw [lg_entry_eq]
  generalize (lg_sl ([Value.ref h0]) ++ List.replicate (5 - (lg_sl ([Value.ref h0])).length) Slot.unset).toArray = ls at hl ⊢
  have hl : lv_has ls 5 [(0, .ref h0)] := hl
  unfold vc_Lp_cut at v
  obtain ⟨H, hH⟩ : ∃ H, H = s.heap := ⟨_, rfl⟩
  obtain ⟨locs, hlc⟩ : ∃ L : List Loc, L = [] := ⟨_, rfl⟩
  rw [← hlc] at hS ⊢
  have hP : va_P D vwCl [(h0, .inr (6, [.ref h1, .ref h4, .ref h7, .ref h8, .ref h9, .int (iI np)])), (h1, .inr (2, [.int (iI wfst), .ref h2, .ref h3, .int (iI wn)])), (h2, .inl (cI, 20, .inl (fun k => iI (wh k)))), (h3, .inl (cI, 20, .inl (fun k => iI (wv k)))), (h4, .inr (2, [.int (iI mfst), .ref h5, .ref h6, .int (iI mn)])), (h5, .inl (cI, 20, .inl (fun k => iI (mh k)))), (h6, .inl (cI, 20, .inl (fun k => iI (mv k)))), (h7, .inl (cI, 41, .inl (fun k => iI (ps k)))), (h8, .inl (cI, 41, .inl (fun k => iI (pl k)))), (h9, .inl (cJ, 41, .inr (.inl (fun k => lI (pt k)))))] H := by rw [hH]; exact hP
  have hS : va_S A s.heap H locs := by rw [hH]; exact hS
  have hW0 : ∀ {X : Heap → Prop}, X H → X s.heap := fun h => by rw [← hH]; exact h
  refine hW0 (X := fun Z => W p l e _ s m _ below meth c Z locs 0 0 _ _) ?_
  refine lv_lconst (v := lI 0) hx hb d_Lp_cut_0 (by decide) ?_
  refine lv_lstore_n (lv' := [(1, .long (lI 0)), (0, .ref h0)]) hx hb d_Lp_cut_1 rfl hl (by decide) rfl (fun ls hl => ?_)
  refine nv_iconst (n := 0) hx hb d_Lp_cut_2 ?_
  refine lv_istore_n (lv' := [(3, .int (iI 0)), (1, .long (lI 0)), (0, .ref h0)]) hx hb d_Lp_cut_3 rfl hl (by decide) rfl (fun ls hl => ?_)
  refine lv_aload_n hx hb d_Lp_cut_4 rfl (lv_at hl 2 rfl) ?_
  refine nv_iconst (n := 0) hx hb d_Lp_cut_5 ?_
  refine va_put (D := D) (ci := 6) (v := .int (iI 0)) (ty := .int) (C := "LightDoses$Lamp") (T := T_Lp) (N := 6) hx hb hts in_Lp t_Lp tok_Lp n_Lp hown hK hP hD hS 0 rfl rfl 5 (by decide) (hts _ wd_516) (fun _ h9 => h9) rfl (by decide +kernel) rfl rfl (Nat.le_of_ble_eq_true rfl) d_Lp_cut_6 (fun H locs hP hD hS => ?_)
  have hP : va_P D vwCl [(h0, .inr (6, [.ref h1, .ref h4, .ref h7, .ref h8, .ref h9, .int (iI 0)])), (h1, .inr (2, [.int (iI wfst), .ref h2, .ref h3, .int (iI wn)])), (h2, .inl (cI, 20, .inl (fun k => iI (wh k)))), (h3, .inl (cI, 20, .inl (fun k => iI (wv k)))), (h4, .inr (2, [.int (iI mfst), .ref h5, .ref h6, .int (iI mn)])), (h5, .inl (cI, 20, .inl (fun k => iI (mh k)))), (h6, .inl (cI, 20, .inl (fun k => iI (mv k)))), (h7, .inl (cI, 41, .inl (fun k => iI (ps k)))), (h8, .inl (cI, 41, .inl (fun k => iI (pl k)))), (h9, .inl (cJ, 41, .inr (.inl (fun k => lI (pt k)))))] H := hP
  have hD : va_D A [(h0, .inr (6, [.ref h1, .ref h4, .ref h7, .ref h8, .ref h9, .int (iI 0)])), (h1, .inr (2, [.int (iI wfst), .ref h2, .ref h3, .int (iI wn)])), (h2, .inl (cI, 20, .inl (fun k => iI (wh k)))), (h3, .inl (cI, 20, .inl (fun k => iI (wv k)))), (h4, .inr (2, [.int (iI mfst), .ref h5, .ref h6, .int (iI mn)])), (h5, .inl (cI, 20, .inl (fun k => iI (mh k)))), (h6, .inl (cI, 20, .inl (fun k => iI (mv k)))), (h7, .inl (cI, 41, .inl (fun k => iI (ps k)))), (h8, .inl (cI, 41, .inl (fun k => iI (pl k)))), (h9, .inl (cJ, 41, .inr (.inl (fun k => lI (pt k)))))] := hD
  obtain ⟨I1, μ2, v36, v37⟩ := v
  have L38 : ∀ (N : Nat) (gat : Int) (hw_ : Int) (gs : Nat → Int) (gl : Nat → Int) (gt : Nat → Int) (gn : Int) (H : Heap) (locs : List Loc) (ls : Array Slot), μ2 gat hw_ gs gl gt gn < N → I1 gat hw_ gs gl gt gn → va_P D vwCl [(h0, .inr (6, [.ref h1, .ref h4, .ref h7, .ref h8, .ref h9, .int (iI gn)])), (h1, .inr (2, [.int (iI wfst), .ref h2, .ref h3, .int (iI wn)])), (h2, .inl (cI, 20, .inl (fun k => iI (wh k)))), (h3, .inl (cI, 20, .inl (fun k => iI (wv k)))), (h4, .inr (2, [.int (iI mfst), .ref h5, .ref h6, .int (iI mn)])), (h5, .inl (cI, 20, .inl (fun k => iI (mh k)))), (h6, .inl (cI, 20, .inl (fun k => iI (mv k)))), (h7, .inl (cI, 41, .inl (fun k => iI (gs k)))), (h8, .inl (cI, 41, .inl (fun k => iI (gl k)))), (h9, .inl (cJ, 41, .inr (.inl (fun k => lI (gt k)))))] H → va_D A [(h0, .inr (6, [.ref h1, .ref h4, .ref h7, .ref h8, .ref h9, .int (iI gn)])), (h1, .inr (2, [.int (iI wfst), .ref h2, .ref h3, .int (iI wn)])), (h2, .inl (cI, 20, .inl (fun k => iI (wh k)))), (h3, .inl (cI, 20, .inl (fun k => iI (wv k)))), (h4, .inr (2, [.int (iI mfst), .ref h5, .ref h6, .int (iI mn)])), (h5, .inl (cI, 20, .inl (fun k => iI (mh k)))), (h6, .inl (cI, 20, .inl (fun k => iI (mv k)))), (h7, .inl (cI, 41, .inl (fun k => iI (gs k)))), (h8, .inl (cI, 41, .inl (fun k => iI (gl k)))), (h9, .inl (cJ, 41, .inr (.inl (fun k => lI (gt k)))))] → va_S A s.heap H locs → lv_has ls 5 [(0, .ref h0), (1, .long (lI gat)), (3, .int (iI hw_))] → W p l e (headSpec (.code ⟨"LightDoses$Lamp", "cut", "()V"⟩ prog_8_method_4_code 5 none :: TG) { frames := 2, cells := 0, slots := 0, locals := 45 }).room s m ([Value.ref h0] : List Value).toArray below meth c H locs 0 0 (MQ below (va_Qv (fun u : (Nat → Int) × (Nat → Int) × (Nat → Int) × Int => post u.1 u.2.1 u.2.2.1 u.2.2.2) (fun u t => va_P D vwCl [(h0, .inr (6, [.ref h1, .ref h4, .ref h7, .ref h8, .ref h9, .int (iI u.2.2.2)])), (h1, .inr (2, [.int (iI wfst), .ref h2, .ref h3, .int (iI wn)])), (h2, .inl (cI, 20, .inl (fun k => iI (wh k)))), (h3, .inl (cI, 20, .inl (fun k => iI (wv k)))), (h4, .inr (2, [.int (iI mfst), .ref h5, .ref h6, .int (iI mn)])), (h5, .inl (cI, 20, .inl (fun k => iI (mh k)))), (h6, .inl (cI, 20, .inl (fun k => iI (mv k)))), (h7, .inl (cI, 41, .inl (fun k => iI (u.1 k)))), (h8, .inl (cI, 41, .inl (fun k => iI (u.2.1 k)))), (h9, .inl (cJ, 41, .inr (.inl (fun k => lI (u.2.2.1 k)))))] t.heap ∧ va_K D vwCl (tyx cI cJ cO cZ) t ∧ va_D A [(h0, .inr (6, [.ref h1, .ref h4, .ref h7, .ref h8, .ref h9, .int (iI u.2.2.2)])), (h1, .inr (2, [.int (iI wfst), .ref h2, .ref h3, .int (iI wn)])), (h2, .inl (cI, 20, .inl (fun k => iI (wh k)))), (h3, .inl (cI, 20, .inl (fun k => iI (wv k)))), (h4, .inr (2, [.int (iI mfst), .ref h5, .ref h6, .int (iI mn)])), (h5, .inl (cI, 20, .inl (fun k => iI (mh k)))), (h6, .inl (cI, 20, .inl (fun k => iI (mv k)))), (h7, .inl (cI, 41, .inl (fun k => iI (u.1 k)))), (h8, .inl (cI, 41, .inl (fun k => iI (u.2.1 k)))), (h9, .inl (cJ, 41, .inr (.inl (fun k => lI (u.2.2.1 k)))))]) A) ([Value.ref h0] : List Value).toArray s 0 0 A) (F0 m 9 ls []) := by
    intro N
    induction N with
    | zero => intro gat hw_ gs gl gt gn H locs ls hN; exact absurd hN (Nat.not_lt_zero _)
    | succ N ih3 =>
      intro gat hw_ gs gl gt gn H locs ls hN4 hI hP hD hS hl
      have v := v37 gat hw_ gs gl gt gn hI
      refine lv_aload_n hx hb d_Lp_cut_9 rfl (lv_at hl 0 rfl) ?_
      refine va_get (D := D) (ci := 6) (v := .int (iI gn)) (C := "LightDoses$Lamp") (T := T_Lp) (N := 6) hx hb hts in_Lp hown hK hP 0 rfl rfl 5 (by decide) (hts _ wd_516) (fun _ h9 => h9) rfl d_Lp_cut_10 ?_
      refine nv_bipush (z := 41) hx hb d_Lp_cut_13 (by decide) ?_
      obtain ⟨k5, v⟩ := v
      refine nv_icmp_ge (tgt := 134) hx hb d_Lp_cut_15 (by decide) k5 (by decide) (fun c6 => ?_) (fun c6 => ?_)
      · replace v := v.1 c6
        have hP9 := hP.sub (ws' := [(h0, .inr (6, [.ref h1, .ref h4, .ref h7, .ref h8, .ref h9, .int (iI gn)])), (h1, .inr (2, [.int (iI wfst), .ref h2, .ref h3, .int (iI wn)])), (h2, .inl (cI, 20, .inl (fun k => iI (wh k)))), (h3, .inl (cI, 20, .inl (fun k => iI (wv k)))), (h4, .inr (2, [.int (iI mfst), .ref h5, .ref h6, .int (iI mn)])), (h5, .inl (cI, 20, .inl (fun k => iI (mh k)))), (h6, .inl (cI, 20, .inl (fun k => iI (mv k)))), (h7, .inl (cI, 41, .inl (fun k => iI (gs k)))), (h8, .inl (cI, 41, .inl (fun k => iI (gl k)))), (h9, .inl (cJ, 41, .inr (.inl (fun k => lI (gt k)))))]) [0, 1, 2, 3, 4, 5, 6, 7, 8, 9] rfl
        have hD9 := hD.sub (ws' := [(h0, .inr (6, [.ref h1, .ref h4, .ref h7, .ref h8, .ref h9, .int (iI gn)])), (h1, .inr (2, [.int (iI wfst), .ref h2, .ref h3, .int (iI wn)])), (h2, .inl (cI, 20, .inl (fun k => iI (wh k)))), (h3, .inl (cI, 20, .inl (fun k => iI (wv k)))), (h4, .inr (2, [.int (iI mfst), .ref h5, .ref h6, .int (iI mn)])), (h5, .inl (cI, 20, .inl (fun k => iI (mh k)))), (h6, .inl (cI, 20, .inl (fun k => iI (mv k)))), (h7, .inl (cI, 41, .inl (fun k => iI (gs k)))), (h8, .inl (cI, 41, .inl (fun k => iI (gl k)))), (h9, .inl (cJ, 41, .inr (.inl (fun k => lI (gt k)))))]) [0, 1, 2, 3, 4, 5, 6, 7, 8, 9] (by decide) rfl
        exact W.vret hx hb hr (fun t ht hW => ⟨⟨((gs), (gl), (gt), (gn)), rfl, v, by rw [ht]; exact hP9, va_K.moved hW.alike hK, hD9⟩, hS.F ht⟩) hS.2.2 d_Lp_cut_134
      · replace v := v.2 c6
        refine lv_iload_n hx hb d_Lp_cut_18 rfl (lv_at hl 2 rfl) ?_
        refine nv_sipush (z := 26280) hx hb d_Lp_cut_19 (by decide) ?_
        obtain ⟨k7, v⟩ := v
        refine nv_icmp_ge (tgt := 134) hx hb d_Lp_cut_22 (by decide) k7 (by decide) (fun c8 => ?_) (fun c8 => ?_)
        · replace v := v.1 c8
          have hP9 := hP.sub (ws' := [(h0, .inr (6, [.ref h1, .ref h4, .ref h7, .ref h8, .ref h9, .int (iI gn)])), (h1, .inr (2, [.int (iI wfst), .ref h2, .ref h3, .int (iI wn)])), (h2, .inl (cI, 20, .inl (fun k => iI (wh k)))), (h3, .inl (cI, 20, .inl (fun k => iI (wv k)))), (h4, .inr (2, [.int (iI mfst), .ref h5, .ref h6, .int (iI mn)])), (h5, .inl (cI, 20, .inl (fun k => iI (mh k)))), (h6, .inl (cI, 20, .inl (fun k => iI (mv k)))), (h7, .inl (cI, 41, .inl (fun k => iI (gs k)))), (h8, .inl (cI, 41, .inl (fun k => iI (gl k)))), (h9, .inl (cJ, 41, .inr (.inl (fun k => lI (gt k)))))]) [0, 1, 2, 3, 4, 5, 6, 7, 8, 9] rfl
          have hD9 := hD.sub (ws' := [(h0, .inr (6, [.ref h1, .ref h4, .ref h7, .ref h8, .ref h9, .int (iI gn)])), (h1, .inr (2, [.int (iI wfst), .ref h2, .ref h3, .int (iI wn)])), (h2, .inl (cI, 20, .inl (fun k => iI (wh k)))), (h3, .inl (cI, 20, .inl (fun k => iI (wv k)))), (h4, .inr (2, [.int (iI mfst), .ref h5, .ref h6, .int (iI mn)])), (h5, .inl (cI, 20, .inl (fun k => iI (mh k)))), (h6, .inl (cI, 20, .inl (fun k => iI (mv k)))), (h7, .inl (cI, 41, .inl (fun k => iI (gs k)))), (h8, .inl (cI, 41, .inl (fun k => iI (gl k)))), (h9, .inl (cJ, 41, .inr (.inl (fun k => lI (gt k)))))]) [0, 1, 2, 3, 4, 5, 6, 7, 8, 9] (by decide) rfl
          exact W.vret hx hb hr (fun t ht hW => ⟨⟨((gs), (gl), (gt), (gn)), rfl, v, by rw [ht]; exact hP9, va_K.moved hW.alike hK, hD9⟩, hS.F ht⟩) hS.2.2 d_Lp_cut_134
        · replace v := v.2 c8
          refine lv_aload_n hx hb d_Lp_cut_25 rfl (lv_at hl 0 rfl) ?_
          refine va_get (D := D) (ci := 6) (v := .ref h1) (C := "LightDoses$Lamp") (T := T_Lp) (N := 6) hx hb hts in_Lp hown hK hP 0 rfl rfl 0 (by decide) (hts _ wd_509) (fun _ h9 => h9) rfl d_Lp_cut_26 ?_
          refine lv_iload_n hx hb d_Lp_cut_29 rfl (lv_at hl 2 rfl) ?_
          obtain ⟨P9, q11, v⟩ := v
          refine vp_callSi (nv_runV (wc := [(h1, .inr (2, [.int (iI wfst), .ref h2, .ref h3, .int (iI wn)])), (h2, .inl (cI, 20, .inl (fun k => iI (wh k)))), (h3, .inl (cI, 20, .inl (fun k => iI (wv k))))]) (As := [.int (iI hw_)]) (rest := []) ⟨hx, hb, hml, hown, hts⟩ (m_Ch_nextBehind l D cI cJ cO cZ h1 h2 h3 wfst wh wv wn hw_ P9 q11) (nv_cwV (n := 1) hts wd_496 wd_497 wd_498 wd_22 wd_499 (by decide +kernel) ⟨Nat.le_of_ble_eq_true rfl, Nat.le_of_ble_eq_true rfl⟩) hK (hP.sub [1, 2, 3] rfl) (va_recv hK hP (ci := 2) (q0 := 1) rfl rfl) rfl hl.1 rfl (Nat.le_of_ble_eq_true rfl) d_Lp_cut_30 (Nat.le_of_ble_eq_true rfl) (Nat.le_of_ble_eq_true rfl)) (fun r hr => ?_)
          obtain ⟨z10, rfl, hz⟩ := hr
          replace v := v z10 hz
          refine lv_aload_n hx hb d_Lp_cut_33 rfl (lv_at hl 0 rfl) ?_
          refine va_get (D := D) (ci := 6) (v := .ref h4) (C := "LightDoses$Lamp") (T := T_Lp) (N := 6) hx hb hts in_Lp hown hK hP 0 rfl rfl 1 (by decide) (hts _ wd_511) (fun _ h9 => h9) rfl d_Lp_cut_34 ?_
          refine lv_iload_n hx hb d_Lp_cut_37 rfl (lv_at hl 2 rfl) ?_
          obtain ⟨P12, q14, v⟩ := v
          refine vp_callSi (nv_runV (wc := [(h4, .inr (2, [.int (iI mfst), .ref h5, .ref h6, .int (iI mn)])), (h5, .inl (cI, 20, .inl (fun k => iI (mh k)))), (h6, .inl (cI, 20, .inl (fun k => iI (mv k))))]) (As := [.int (iI hw_)]) (rest := [.int (iI z10)]) ⟨hx, hb, hml, hown, hts⟩ (m_Ch_nextBehind l D cI cJ cO cZ h4 h5 h6 mfst mh mv mn hw_ P12 q14) (nv_cwV (n := 1) hts wd_496 wd_497 wd_498 wd_22 wd_499 (by decide +kernel) ⟨Nat.le_of_ble_eq_true rfl, Nat.le_of_ble_eq_true rfl⟩) hK (hP.sub [4, 5, 6] rfl) (va_recv hK hP (ci := 2) (q0 := 4) rfl rfl) rfl hl.1 rfl (Nat.le_of_ble_eq_true rfl) d_Lp_cut_38 (Nat.le_of_ble_eq_true rfl) (Nat.le_of_ble_eq_true rfl)) (fun r hr => ?_)
          obtain ⟨z13, rfl, hz⟩ := hr
          replace v := v z13 hz
          obtain ⟨k15, v⟩ := v
          obtain ⟨k16, v⟩ := v
          refine nv_mmin (a := z10) (b := z13) hx hb (hml.trans hl.1.symm) hown (hts _ wd_504) (hts _ wd_295) (hts _ wd_18) (hts _ wd_296) (Nat.le_of_ble_eq_true rfl) (Nat.le_of_ble_eq_true rfl) (Nat.le_of_ble_eq_true rfl) (Nat.le_of_ble_eq_true rfl) k15 k16 d_Lp_cut_41 ?_
          refine lv_istore (lv' := [(4, .int (iI (min z10 z13))), (0, .ref h0), (1, .long (lI gat)), (3, .int (iI hw_))]) hx hb d_Lp_cut_44 hl (by decide) rfl (fun ls hl => ?_)
          refine lv_aload_n hx hb d_Lp_cut_46 rfl (lv_at hl 1 rfl) ?_
          refine va_get (D := D) (ci := 6) (v := .ref h7) (C := "LightDoses$Lamp") (T := T_Lp) (N := 6) hx hb hts in_Lp hown hK hP 0 rfl rfl 2 (by decide) (hts _ wd_513) (fun _ h9 => h9) rfl d_Lp_cut_47 ?_
          refine lv_aload_n hx hb d_Lp_cut_50 rfl (lv_at hl 1 rfl) ?_
          refine va_get (D := D) (ci := 6) (v := .int (iI gn)) (C := "LightDoses$Lamp") (T := T_Lp) (N := 6) hx hb hts in_Lp hown hK hP 0 rfl rfl 5 (by decide) (hts _ wd_516) (fun _ h9 => h9) rfl d_Lp_cut_51 ?_
          refine lv_iload_n hx hb d_Lp_cut_54 rfl (lv_at hl 3 rfl) ?_
          obtain ⟨k17, v⟩ := v
          refine nv_iast (f := gs) hx hb hK hP hD hS 7 0 rfl rfl (gn).toNat (Int.toNat_of_nonneg k17.1).symm (by omega) (by decide) d_Lp_cut_55 (fun H locs hP hD hS => ?_)
          have hP : va_P D vwCl [(h0, .inr (6, [.ref h1, .ref h4, .ref h7, .ref h8, .ref h9, .int (iI gn)])), (h1, .inr (2, [.int (iI wfst), .ref h2, .ref h3, .int (iI wn)])), (h2, .inl (cI, 20, .inl (fun k => iI (wh k)))), (h3, .inl (cI, 20, .inl (fun k => iI (wv k)))), (h4, .inr (2, [.int (iI mfst), .ref h5, .ref h6, .int (iI mn)])), (h5, .inl (cI, 20, .inl (fun k => iI (mh k)))), (h6, .inl (cI, 20, .inl (fun k => iI (mv k)))), (h7, .inl (cI, 41, .inl (fun k => iI ((va_up gs (gn).toNat hw_) k)))), (h8, .inl (cI, 41, .inl (fun k => iI (gl k)))), (h9, .inl (cJ, 41, .inr (.inl (fun k => lI (gt k)))))] H := hP
          have hD : va_D A [(h0, .inr (6, [.ref h1, .ref h4, .ref h7, .ref h8, .ref h9, .int (iI gn)])), (h1, .inr (2, [.int (iI wfst), .ref h2, .ref h3, .int (iI wn)])), (h2, .inl (cI, 20, .inl (fun k => iI (wh k)))), (h3, .inl (cI, 20, .inl (fun k => iI (wv k)))), (h4, .inr (2, [.int (iI mfst), .ref h5, .ref h6, .int (iI mn)])), (h5, .inl (cI, 20, .inl (fun k => iI (mh k)))), (h6, .inl (cI, 20, .inl (fun k => iI (mv k)))), (h7, .inl (cI, 41, .inl (fun k => iI ((va_up gs (gn).toNat hw_) k)))), (h8, .inl (cI, 41, .inl (fun k => iI (gl k)))), (h9, .inl (cJ, 41, .inr (.inl (fun k => lI (gt k)))))] := hD
          refine lv_aload_n hx hb d_Lp_cut_56 rfl (lv_at hl 1 rfl) ?_
          refine va_get (D := D) (ci := 6) (v := .ref h8) (C := "LightDoses$Lamp") (T := T_Lp) (N := 6) hx hb hts in_Lp hown hK hP 0 rfl rfl 3 (by decide) (hts _ wd_514) (fun _ h9 => h9) rfl d_Lp_cut_57 ?_
          refine lv_aload_n hx hb d_Lp_cut_60 rfl (lv_at hl 1 rfl) ?_
          refine va_get (D := D) (ci := 6) (v := .int (iI gn)) (C := "LightDoses$Lamp") (T := T_Lp) (N := 6) hx hb hts in_Lp hown hK hP 0 rfl rfl 5 (by decide) (hts _ wd_516) (fun _ h9 => h9) rfl d_Lp_cut_61 ?_
          refine lv_aload_n hx hb d_Lp_cut_64 rfl (lv_at hl 1 rfl) ?_
          refine va_get (D := D) (ci := 6) (v := .ref h1) (C := "LightDoses$Lamp") (T := T_Lp) (N := 6) hx hb hts in_Lp hown hK hP 0 rfl rfl 0 (by decide) (hts _ wd_509) (fun _ h9 => h9) rfl d_Lp_cut_65 ?_
          refine lv_iload_n hx hb d_Lp_cut_68 rfl (lv_at hl 3 rfl) ?_
          obtain ⟨P18, q20, v⟩ := v
          refine vp_callSi (nv_runV (wc := [(h1, .inr (2, [.int (iI wfst), .ref h2, .ref h3, .int (iI wn)])), (h2, .inl (cI, 20, .inl (fun k => iI (wh k)))), (h3, .inl (cI, 20, .inl (fun k => iI (wv k))))]) (As := [.int (iI hw_)]) (rest := [.int (iI gn), .ref h8]) ⟨hx, hb, hml, hown, hts⟩ (m_Ch_valueAt l D cI cJ cO cZ h1 h2 h3 wfst wh wv wn hw_ P18 q20) (nv_cwV (n := 1) hts wd_505 wd_506 wd_507 wd_22 wd_508 (by decide +kernel) ⟨Nat.le_of_ble_eq_true rfl, Nat.le_of_ble_eq_true rfl⟩) hK (hP.sub [1, 2, 3] rfl) (va_recv hK hP (ci := 2) (q0 := 1) rfl rfl) rfl hl.1 rfl (Nat.le_of_ble_eq_true rfl) d_Lp_cut_69 (Nat.le_of_ble_eq_true rfl) (Nat.le_of_ble_eq_true rfl)) (fun r hr => ?_)
          obtain ⟨z19, rfl, hz⟩ := hr
          replace v := v z19 hz
          refine nv_iconst (n := 1) hx hb d_Lp_cut_72 ?_
          obtain ⟨k21, v⟩ := v
          refine nv_icmp_ne (tgt := 87) hx hb d_Lp_cut_73 (by decide) k21 (by decide) (fun c22 => ?_) (fun c22 => ?_)
          · replace v := v.1 c22
            refine nv_iconst (n := 0) hx hb d_Lp_cut_87 ?_
            obtain ⟨k23, v⟩ := v
            refine nv_iast (f := gl) hx hb hK hP hD hS 8 0 rfl rfl (gn).toNat (Int.toNat_of_nonneg k23.1).symm (by omega) (by decide) d_Lp_cut_88 (fun H locs hP hD hS => ?_)
            have hP : va_P D vwCl [(h0, .inr (6, [.ref h1, .ref h4, .ref h7, .ref h8, .ref h9, .int (iI gn)])), (h1, .inr (2, [.int (iI wfst), .ref h2, .ref h3, .int (iI wn)])), (h2, .inl (cI, 20, .inl (fun k => iI (wh k)))), (h3, .inl (cI, 20, .inl (fun k => iI (wv k)))), (h4, .inr (2, [.int (iI mfst), .ref h5, .ref h6, .int (iI mn)])), (h5, .inl (cI, 20, .inl (fun k => iI (mh k)))), (h6, .inl (cI, 20, .inl (fun k => iI (mv k)))), (h7, .inl (cI, 41, .inl (fun k => iI ((va_up gs (gn).toNat hw_) k)))), (h8, .inl (cI, 41, .inl (fun k => iI ((va_up gl (gn).toNat 0) k)))), (h9, .inl (cJ, 41, .inr (.inl (fun k => lI (gt k)))))] H := hP
            have hD : va_D A [(h0, .inr (6, [.ref h1, .ref h4, .ref h7, .ref h8, .ref h9, .int (iI gn)])), (h1, .inr (2, [.int (iI wfst), .ref h2, .ref h3, .int (iI wn)])), (h2, .inl (cI, 20, .inl (fun k => iI (wh k)))), (h3, .inl (cI, 20, .inl (fun k => iI (wv k)))), (h4, .inr (2, [.int (iI mfst), .ref h5, .ref h6, .int (iI mn)])), (h5, .inl (cI, 20, .inl (fun k => iI (mh k)))), (h6, .inl (cI, 20, .inl (fun k => iI (mv k)))), (h7, .inl (cI, 41, .inl (fun k => iI ((va_up gs (gn).toNat hw_) k)))), (h8, .inl (cI, 41, .inl (fun k => iI ((va_up gl (gn).toNat 0) k)))), (h9, .inl (cJ, 41, .inr (.inl (fun k => lI (gt k)))))] := hD
            refine lv_aload_n hx hb d_Lp_cut_89 rfl (lv_at hl 1 rfl) ?_
            refine va_get (D := D) (ci := 6) (v := .ref h9) (C := "LightDoses$Lamp") (T := T_Lp) (N := 6) hx hb hts in_Lp hown hK hP 0 rfl rfl 4 (by decide) (hts _ wd_515) (fun _ h9 => h9) rfl d_Lp_cut_90 ?_
            refine lv_aload_n hx hb d_Lp_cut_93 rfl (lv_at hl 1 rfl) ?_
            refine va_get (D := D) (ci := 6) (v := .int (iI gn)) (C := "LightDoses$Lamp") (T := T_Lp) (N := 6) hx hb hts in_Lp hown hK hP 0 rfl rfl 5 (by decide) (hts _ wd_516) (fun _ h9 => h9) rfl d_Lp_cut_94 ?_
            refine lv_lload_n hx hb d_Lp_cut_97 rfl (lv_at hl 2 rfl) ?_
            obtain ⟨k24, v⟩ := v
            refine nv_last (f := gt) hx hb hK hP hD hS 9 1 rfl rfl (gn).toNat (Int.toNat_of_nonneg k24.1).symm (by omega) (by decide) d_Lp_cut_98 (fun H locs hP hD hS => ?_)
            have hP : va_P D vwCl [(h0, .inr (6, [.ref h1, .ref h4, .ref h7, .ref h8, .ref h9, .int (iI gn)])), (h1, .inr (2, [.int (iI wfst), .ref h2, .ref h3, .int (iI wn)])), (h2, .inl (cI, 20, .inl (fun k => iI (wh k)))), (h3, .inl (cI, 20, .inl (fun k => iI (wv k)))), (h4, .inr (2, [.int (iI mfst), .ref h5, .ref h6, .int (iI mn)])), (h5, .inl (cI, 20, .inl (fun k => iI (mh k)))), (h6, .inl (cI, 20, .inl (fun k => iI (mv k)))), (h7, .inl (cI, 41, .inl (fun k => iI ((va_up gs (gn).toNat hw_) k)))), (h8, .inl (cI, 41, .inl (fun k => iI ((va_up gl (gn).toNat 0) k)))), (h9, .inl (cJ, 41, .inr (.inl (fun k => lI ((va_up gt (gn).toNat gat) k)))))] H := hP
            have hD : va_D A [(h0, .inr (6, [.ref h1, .ref h4, .ref h7, .ref h8, .ref h9, .int (iI gn)])), (h1, .inr (2, [.int (iI wfst), .ref h2, .ref h3, .int (iI wn)])), (h2, .inl (cI, 20, .inl (fun k => iI (wh k)))), (h3, .inl (cI, 20, .inl (fun k => iI (wv k)))), (h4, .inr (2, [.int (iI mfst), .ref h5, .ref h6, .int (iI mn)])), (h5, .inl (cI, 20, .inl (fun k => iI (mh k)))), (h6, .inl (cI, 20, .inl (fun k => iI (mv k)))), (h7, .inl (cI, 41, .inl (fun k => iI ((va_up gs (gn).toNat hw_) k)))), (h8, .inl (cI, 41, .inl (fun k => iI ((va_up gl (gn).toNat 0) k)))), (h9, .inl (cJ, 41, .inr (.inl (fun k => lI ((va_up gt (gn).toNat gat) k)))))] := hD
            refine lv_lload_n hx hb d_Lp_cut_99 rfl (lv_at hl 2 rfl) ?_
            refine lv_aload_n hx hb d_Lp_cut_100 rfl (lv_at hl 1 rfl) ?_
            refine va_get (D := D) (ci := 6) (v := .ref h8) (C := "LightDoses$Lamp") (T := T_Lp) (N := 6) hx hb hts in_Lp hown hK hP 0 rfl rfl 3 (by decide) (hts _ wd_514) (fun _ h9 => h9) rfl d_Lp_cut_101 ?_
            refine lv_aload_n hx hb d_Lp_cut_104 rfl (lv_at hl 1 rfl) ?_
            refine va_get (D := D) (ci := 6) (v := .int (iI gn)) (C := "LightDoses$Lamp") (T := T_Lp) (N := 6) hx hb hts in_Lp hown hK hP 0 rfl rfl 5 (by decide) (hts _ wd_516) (fun _ h9 => h9) rfl d_Lp_cut_105 ?_
            obtain ⟨k25, v⟩ := v
            refine nv_iald (f := va_up gl (gn).toNat 0) hx hb hK 0 (hP 8 _ rfl) rfl (gn).toNat (Int.toNat_of_nonneg k25.1).symm (by omega) (by decide) d_Lp_cut_108 ?_
            obtain ⟨k26, v⟩ := v
            refine nv_i2l hx hb d_Lp_cut_109 k26 ?_
            refine lv_iload hx hb d_Lp_cut_110 (lv_at hl 0 rfl) ?_
            refine lv_iload_n hx hb d_Lp_cut_112 rfl (lv_at hl 3 rfl) ?_
            refine nv_isub (z := min z10 z13 - hw_) hx hb d_Lp_cut_113 (by first | rfl | omega) ?_
            obtain ⟨k27, v⟩ := v
            refine nv_i2l hx hb d_Lp_cut_114 k27 ?_
            refine nv_lmul (z := ((va_up gl (gn).toNat 0) (gn).toNat) * (min z10 z13 - hw_)) hx hb d_Lp_cut_115 (by first | rfl | omega) ?_
            refine nv_ladd (z := gat + (((va_up gl (gn).toNat 0) (gn).toNat) * (min z10 z13 - hw_))) hx hb d_Lp_cut_116 (by first | rfl | omega) ?_
            refine lv_lstore_n (lv' := [(1, .long (lI (gat + (((va_up gl (gn).toNat 0) (gn).toNat) * (min z10 z13 - hw_))))), (4, .int (iI (min z10 z13))), (0, .ref h0), (3, .int (iI hw_))]) hx hb d_Lp_cut_117 rfl hl (by decide) rfl (fun ls hl => ?_)
            refine lv_iload hx hb d_Lp_cut_118 (lv_at hl 1 rfl) ?_
            refine lv_istore_n (lv' := [(3, .int (iI (min z10 z13))), (1, .long (lI (gat + (((va_up gl (gn).toNat 0) (gn).toNat) * (min z10 z13 - hw_))))), (4, .int (iI (min z10 z13))), (0, .ref h0)]) hx hb d_Lp_cut_120 rfl hl (by decide) rfl (fun ls hl => ?_)
            refine lv_aload_n hx hb d_Lp_cut_121 rfl (lv_at hl 3 rfl) ?_
            refine lv_dup hx hb d_Lp_cut_122 rfl ?_
            refine va_get (D := D) (ci := 6) (v := .int (iI gn)) (C := "LightDoses$Lamp") (T := T_Lp) (N := 6) hx hb hts in_Lp hown hK hP 0 rfl rfl 5 (by decide) (hts _ wd_516) (fun _ h9 => h9) rfl d_Lp_cut_123 ?_
            refine nv_iconst (n := 1) hx hb d_Lp_cut_126 ?_
            refine nv_iadd (z := gn + 1) hx hb d_Lp_cut_127 (by first | rfl | omega) ?_
            refine va_put (D := D) (ci := 6) (v := .int (iI (gn + 1))) (ty := .int) (C := "LightDoses$Lamp") (T := T_Lp) (N := 6) hx hb hts in_Lp t_Lp tok_Lp n_Lp hown hK hP hD hS 0 rfl rfl 5 (by decide) (hts _ wd_516) (fun _ h9 => h9) rfl (by decide +kernel) rfl rfl (Nat.le_of_ble_eq_true rfl) d_Lp_cut_128 (fun H locs hP hD hS => ?_)
            have hP : va_P D vwCl [(h0, .inr (6, [.ref h1, .ref h4, .ref h7, .ref h8, .ref h9, .int (iI (gn + 1))])), (h1, .inr (2, [.int (iI wfst), .ref h2, .ref h3, .int (iI wn)])), (h2, .inl (cI, 20, .inl (fun k => iI (wh k)))), (h3, .inl (cI, 20, .inl (fun k => iI (wv k)))), (h4, .inr (2, [.int (iI mfst), .ref h5, .ref h6, .int (iI mn)])), (h5, .inl (cI, 20, .inl (fun k => iI (mh k)))), (h6, .inl (cI, 20, .inl (fun k => iI (mv k)))), (h7, .inl (cI, 41, .inl (fun k => iI ((va_up gs (gn).toNat hw_) k)))), (h8, .inl (cI, 41, .inl (fun k => iI ((va_up gl (gn).toNat 0) k)))), (h9, .inl (cJ, 41, .inr (.inl (fun k => lI ((va_up gt (gn).toNat gat) k)))))] H := hP
            have hD : va_D A [(h0, .inr (6, [.ref h1, .ref h4, .ref h7, .ref h8, .ref h9, .int (iI (gn + 1))])), (h1, .inr (2, [.int (iI wfst), .ref h2, .ref h3, .int (iI wn)])), (h2, .inl (cI, 20, .inl (fun k => iI (wh k)))), (h3, .inl (cI, 20, .inl (fun k => iI (wv k)))), (h4, .inr (2, [.int (iI mfst), .ref h5, .ref h6, .int (iI mn)])), (h5, .inl (cI, 20, .inl (fun k => iI (mh k)))), (h6, .inl (cI, 20, .inl (fun k => iI (mv k)))), (h7, .inl (cI, 41, .inl (fun k => iI ((va_up gs (gn).toNat hw_) k)))), (h8, .inl (cI, 41, .inl (fun k => iI ((va_up gl (gn).toNat 0) k)))), (h9, .inl (cJ, 41, .inr (.inl (fun k => lI ((va_up gt (gn).toNat gat) k)))))] := hD
            refine lv_goto (tgt := 9) hx hb d_Lp_cut_131 (by decide) ?_
            exact ih3 (gat + (((va_up gl (gn).toNat 0) (gn).toNat) * (min z10 z13 - hw_))) (min z10 z13) (va_up gs (gn).toNat hw_) (va_up gl (gn).toNat 0) (va_up gt (gn).toNat gat) (gn + 1) H locs ls (Nat.lt_of_lt_of_le v.2 (Nat.le_of_lt_succ hN4)) v.1 hP hD hS (lv_sub hl [3, 1, 0] rfl)
          · replace v := v.2 c22
            refine lv_aload_n hx hb d_Lp_cut_76 rfl (lv_at hl 1 rfl) ?_
            refine va_get (D := D) (ci := 6) (v := .ref h4) (C := "LightDoses$Lamp") (T := T_Lp) (N := 6) hx hb hts in_Lp hown hK hP 0 rfl rfl 1 (by decide) (hts _ wd_511) (fun _ h9 => h9) rfl d_Lp_cut_77 ?_
            refine lv_iload_n hx hb d_Lp_cut_80 rfl (lv_at hl 3 rfl) ?_
            obtain ⟨P28, q30, v⟩ := v
            refine vp_callSi (nv_runV (wc := [(h4, .inr (2, [.int (iI mfst), .ref h5, .ref h6, .int (iI mn)])), (h5, .inl (cI, 20, .inl (fun k => iI (mh k)))), (h6, .inl (cI, 20, .inl (fun k => iI (mv k))))]) (As := [.int (iI hw_)]) (rest := [.int (iI gn), .ref h8]) ⟨hx, hb, hml, hown, hts⟩ (m_Ch_valueAt l D cI cJ cO cZ h4 h5 h6 mfst mh mv mn hw_ P28 q30) (nv_cwV (n := 1) hts wd_505 wd_506 wd_507 wd_22 wd_508 (by decide +kernel) ⟨Nat.le_of_ble_eq_true rfl, Nat.le_of_ble_eq_true rfl⟩) hK (hP.sub [4, 5, 6] rfl) (va_recv hK hP (ci := 2) (q0 := 4) rfl rfl) rfl hl.1 rfl (Nat.le_of_ble_eq_true rfl) d_Lp_cut_81 (Nat.le_of_ble_eq_true rfl) (Nat.le_of_ble_eq_true rfl)) (fun r hr => ?_)
            obtain ⟨z29, rfl, hz⟩ := hr
            replace v := v z29 hz
            refine lv_goto (tgt := 88) hx hb d_Lp_cut_84 (by decide) ?_
            obtain ⟨k31, v⟩ := v
            refine nv_iast (f := gl) hx hb hK hP hD hS 8 0 rfl rfl (gn).toNat (Int.toNat_of_nonneg k31.1).symm (by omega) (by decide) d_Lp_cut_88 (fun H locs hP hD hS => ?_)
            have hP : va_P D vwCl [(h0, .inr (6, [.ref h1, .ref h4, .ref h7, .ref h8, .ref h9, .int (iI gn)])), (h1, .inr (2, [.int (iI wfst), .ref h2, .ref h3, .int (iI wn)])), (h2, .inl (cI, 20, .inl (fun k => iI (wh k)))), (h3, .inl (cI, 20, .inl (fun k => iI (wv k)))), (h4, .inr (2, [.int (iI mfst), .ref h5, .ref h6, .int (iI mn)])), (h5, .inl (cI, 20, .inl (fun k => iI (mh k)))), (h6, .inl (cI, 20, .inl (fun k => iI (mv k)))), (h7, .inl (cI, 41, .inl (fun k => iI ((va_up gs (gn).toNat hw_) k)))), (h8, .inl (cI, 41, .inl (fun k => iI ((va_up gl (gn).toNat z29) k)))), (h9, .inl (cJ, 41, .inr (.inl (fun k => lI (gt k)))))] H := hP
            have hD : va_D A [(h0, .inr (6, [.ref h1, .ref h4, .ref h7, .ref h8, .ref h9, .int (iI gn)])), (h1, .inr (2, [.int (iI wfst), .ref h2, .ref h3, .int (iI wn)])), (h2, .inl (cI, 20, .inl (fun k => iI (wh k)))), (h3, .inl (cI, 20, .inl (fun k => iI (wv k)))), (h4, .inr (2, [.int (iI mfst), .ref h5, .ref h6, .int (iI mn)])), (h5, .inl (cI, 20, .inl (fun k => iI (mh k)))), (h6, .inl (cI, 20, .inl (fun k => iI (mv k)))), (h7, .inl (cI, 41, .inl (fun k => iI ((va_up gs (gn).toNat hw_) k)))), (h8, .inl (cI, 41, .inl (fun k => iI ((va_up gl (gn).toNat z29) k)))), (h9, .inl (cJ, 41, .inr (.inl (fun k => lI (gt k)))))] := hD
            refine lv_aload_n hx hb d_Lp_cut_89 rfl (lv_at hl 1 rfl) ?_
            refine va_get (D := D) (ci := 6) (v := .ref h9) (C := "LightDoses$Lamp") (T := T_Lp) (N := 6) hx hb hts in_Lp hown hK hP 0 rfl rfl 4 (by decide) (hts _ wd_515) (fun _ h9 => h9) rfl d_Lp_cut_90 ?_
            refine lv_aload_n hx hb d_Lp_cut_93 rfl (lv_at hl 1 rfl) ?_
            refine va_get (D := D) (ci := 6) (v := .int (iI gn)) (C := "LightDoses$Lamp") (T := T_Lp) (N := 6) hx hb hts in_Lp hown hK hP 0 rfl rfl 5 (by decide) (hts _ wd_516) (fun _ h9 => h9) rfl d_Lp_cut_94 ?_
            refine lv_lload_n hx hb d_Lp_cut_97 rfl (lv_at hl 2 rfl) ?_
            obtain ⟨k32, v⟩ := v
            refine nv_last (f := gt) hx hb hK hP hD hS 9 1 rfl rfl (gn).toNat (Int.toNat_of_nonneg k32.1).symm (by omega) (by decide) d_Lp_cut_98 (fun H locs hP hD hS => ?_)
            have hP : va_P D vwCl [(h0, .inr (6, [.ref h1, .ref h4, .ref h7, .ref h8, .ref h9, .int (iI gn)])), (h1, .inr (2, [.int (iI wfst), .ref h2, .ref h3, .int (iI wn)])), (h2, .inl (cI, 20, .inl (fun k => iI (wh k)))), (h3, .inl (cI, 20, .inl (fun k => iI (wv k)))), (h4, .inr (2, [.int (iI mfst), .ref h5, .ref h6, .int (iI mn)])), (h5, .inl (cI, 20, .inl (fun k => iI (mh k)))), (h6, .inl (cI, 20, .inl (fun k => iI (mv k)))), (h7, .inl (cI, 41, .inl (fun k => iI ((va_up gs (gn).toNat hw_) k)))), (h8, .inl (cI, 41, .inl (fun k => iI ((va_up gl (gn).toNat z29) k)))), (h9, .inl (cJ, 41, .inr (.inl (fun k => lI ((va_up gt (gn).toNat gat) k)))))] H := hP
            have hD : va_D A [(h0, .inr (6, [.ref h1, .ref h4, .ref h7, .ref h8, .ref h9, .int (iI gn)])), (h1, .inr (2, [.int (iI wfst), .ref h2, .ref h3, .int (iI wn)])), (h2, .inl (cI, 20, .inl (fun k => iI (wh k)))), (h3, .inl (cI, 20, .inl (fun k => iI (wv k)))), (h4, .inr (2, [.int (iI mfst), .ref h5, .ref h6, .int (iI mn)])), (h5, .inl (cI, 20, .inl (fun k => iI (mh k)))), (h6, .inl (cI, 20, .inl (fun k => iI (mv k)))), (h7, .inl (cI, 41, .inl (fun k => iI ((va_up gs (gn).toNat hw_) k)))), (h8, .inl (cI, 41, .inl (fun k => iI ((va_up gl (gn).toNat z29) k)))), (h9, .inl (cJ, 41, .inr (.inl (fun k => lI ((va_up gt (gn).toNat gat) k)))))] := hD
            refine lv_lload_n hx hb d_Lp_cut_99 rfl (lv_at hl 2 rfl) ?_
            refine lv_aload_n hx hb d_Lp_cut_100 rfl (lv_at hl 1 rfl) ?_
            refine va_get (D := D) (ci := 6) (v := .ref h8) (C := "LightDoses$Lamp") (T := T_Lp) (N := 6) hx hb hts in_Lp hown hK hP 0 rfl rfl 3 (by decide) (hts _ wd_514) (fun _ h9 => h9) rfl d_Lp_cut_101 ?_
            refine lv_aload_n hx hb d_Lp_cut_104 rfl (lv_at hl 1 rfl) ?_
            refine va_get (D := D) (ci := 6) (v := .int (iI gn)) (C := "LightDoses$Lamp") (T := T_Lp) (N := 6) hx hb hts in_Lp hown hK hP 0 rfl rfl 5 (by decide) (hts _ wd_516) (fun _ h9 => h9) rfl d_Lp_cut_105 ?_
            obtain ⟨k33, v⟩ := v
            refine nv_iald (f := va_up gl (gn).toNat z29) hx hb hK 0 (hP 8 _ rfl) rfl (gn).toNat (Int.toNat_of_nonneg k33.1).symm (by omega) (by decide) d_Lp_cut_108 ?_
            obtain ⟨k34, v⟩ := v
            refine nv_i2l hx hb d_Lp_cut_109 k34 ?_
            refine lv_iload hx hb d_Lp_cut_110 (lv_at hl 0 rfl) ?_
            refine lv_iload_n hx hb d_Lp_cut_112 rfl (lv_at hl 3 rfl) ?_
            refine nv_isub (z := min z10 z13 - hw_) hx hb d_Lp_cut_113 (by first | rfl | omega) ?_
            obtain ⟨k35, v⟩ := v
            refine nv_i2l hx hb d_Lp_cut_114 k35 ?_
            refine nv_lmul (z := ((va_up gl (gn).toNat z29) (gn).toNat) * (min z10 z13 - hw_)) hx hb d_Lp_cut_115 (by first | rfl | omega) ?_
            refine nv_ladd (z := gat + (((va_up gl (gn).toNat z29) (gn).toNat) * (min z10 z13 - hw_))) hx hb d_Lp_cut_116 (by first | rfl | omega) ?_
            refine lv_lstore_n (lv' := [(1, .long (lI (gat + (((va_up gl (gn).toNat z29) (gn).toNat) * (min z10 z13 - hw_))))), (4, .int (iI (min z10 z13))), (0, .ref h0), (3, .int (iI hw_))]) hx hb d_Lp_cut_117 rfl hl (by decide) rfl (fun ls hl => ?_)
            refine lv_iload hx hb d_Lp_cut_118 (lv_at hl 1 rfl) ?_
            refine lv_istore_n (lv' := [(3, .int (iI (min z10 z13))), (1, .long (lI (gat + (((va_up gl (gn).toNat z29) (gn).toNat) * (min z10 z13 - hw_))))), (4, .int (iI (min z10 z13))), (0, .ref h0)]) hx hb d_Lp_cut_120 rfl hl (by decide) rfl (fun ls hl => ?_)
            refine lv_aload_n hx hb d_Lp_cut_121 rfl (lv_at hl 3 rfl) ?_
            refine lv_dup hx hb d_Lp_cut_122 rfl ?_
            refine va_get (D := D) (ci := 6) (v := .int (iI gn)) (C := "LightDoses$Lamp") (T := T_Lp) (N := 6) hx hb hts in_Lp hown hK hP 0 rfl rfl 5 (by decide) (hts _ wd_516) (fun _ h9 => h9) rfl d_Lp_cut_123 ?_
            refine nv_iconst (n := 1) hx hb d_Lp_cut_126 ?_
            refine nv_iadd (z := gn + 1) hx hb d_Lp_cut_127 (by first | rfl | omega) ?_
            refine va_put (D := D) (ci := 6) (v := .int (iI (gn + 1))) (ty := .int) (C := "LightDoses$Lamp") (T := T_Lp) (N := 6) hx hb hts in_Lp t_Lp tok_Lp n_Lp hown hK hP hD hS 0 rfl rfl 5 (by decide) (hts _ wd_516) (fun _ h9 => h9) rfl (by decide +kernel) rfl rfl (Nat.le_of_ble_eq_true rfl) d_Lp_cut_128 (fun H locs hP hD hS => ?_)
            have hP : va_P D vwCl [(h0, .inr (6, [.ref h1, .ref h4, .ref h7, .ref h8, .ref h9, .int (iI (gn + 1))])), (h1, .inr (2, [.int (iI wfst), .ref h2, .ref h3, .int (iI wn)])), (h2, .inl (cI, 20, .inl (fun k => iI (wh k)))), (h3, .inl (cI, 20, .inl (fun k => iI (wv k)))), (h4, .inr (2, [.int (iI mfst), .ref h5, .ref h6, .int (iI mn)])), (h5, .inl (cI, 20, .inl (fun k => iI (mh k)))), (h6, .inl (cI, 20, .inl (fun k => iI (mv k)))), (h7, .inl (cI, 41, .inl (fun k => iI ((va_up gs (gn).toNat hw_) k)))), (h8, .inl (cI, 41, .inl (fun k => iI ((va_up gl (gn).toNat z29) k)))), (h9, .inl (cJ, 41, .inr (.inl (fun k => lI ((va_up gt (gn).toNat gat) k)))))] H := hP
            have hD : va_D A [(h0, .inr (6, [.ref h1, .ref h4, .ref h7, .ref h8, .ref h9, .int (iI (gn + 1))])), (h1, .inr (2, [.int (iI wfst), .ref h2, .ref h3, .int (iI wn)])), (h2, .inl (cI, 20, .inl (fun k => iI (wh k)))), (h3, .inl (cI, 20, .inl (fun k => iI (wv k)))), (h4, .inr (2, [.int (iI mfst), .ref h5, .ref h6, .int (iI mn)])), (h5, .inl (cI, 20, .inl (fun k => iI (mh k)))), (h6, .inl (cI, 20, .inl (fun k => iI (mv k)))), (h7, .inl (cI, 41, .inl (fun k => iI ((va_up gs (gn).toNat hw_) k)))), (h8, .inl (cI, 41, .inl (fun k => iI ((va_up gl (gn).toNat z29) k)))), (h9, .inl (cJ, 41, .inr (.inl (fun k => lI ((va_up gt (gn).toNat gat) k)))))] := hD
            refine lv_goto (tgt := 9) hx hb d_Lp_cut_131 (by decide) ?_
            exact ih3 (gat + (((va_up gl (gn).toNat z29) (gn).toNat) * (min z10 z13 - hw_))) (min z10 z13) (va_up gs (gn).toNat hw_) (va_up gl (gn).toNat z29) (va_up gt (gn).toNat gat) (gn + 1) H locs ls (Nat.lt_of_lt_of_le v.2 (Nat.le_of_lt_succ hN4)) v.1 hP hD hS (lv_sub hl [3, 1, 0] rfl)
  exact L38 _ 0 0 ps pl pt 0 H locs ls (Nat.lt_succ_self _) v36 hP hD hS (lv_sub hl [2, 1, 0] rfl)

theorem d_Lp_turn_0 : decode prog_8_method_2_code 0 = .ok (.aload_n 0, 1) := by decide +kernel
theorem d_Lp_turn_1 : decode prog_8_method_2_code 1 = .ok (.getfield 16, 3) := by decide +kernel
theorem d_Lp_turn_4 : decode prog_8_method_2_code 4 = .ok (.iload_n 1, 1) := by decide +kernel
theorem d_Lp_turn_5 : decode prog_8_method_2_code 5 = .ok (.iload_n 2, 1) := by decide +kernel
theorem d_Lp_turn_6 : decode prog_8_method_2_code 6 = .ok (.ifCond .eq 7, 3) := by decide +kernel
theorem d_Lp_turn_9 : decode prog_8_method_2_code 9 = .ok (.iconst 1, 1) := by decide +kernel
theorem d_Lp_turn_10 : decode prog_8_method_2_code 10 = .ok (.goto 4, 3) := by decide +kernel
theorem d_Lp_turn_13 : decode prog_8_method_2_code 13 = .ok (.iconst 0, 1) := by decide +kernel
theorem d_Lp_turn_14 : decode prog_8_method_2_code 14 = .ok (.invokevirtual 41, 3) := by decide +kernel
theorem d_Lp_turn_17 : decode prog_8_method_2_code 17 = .ok (.aload_n 0, 1) := by decide +kernel
theorem d_Lp_turn_18 : decode prog_8_method_2_code 18 = .ok (.invokevirtual 38, 3) := by decide +kernel
theorem d_Lp_turn_21 : decode prog_8_method_2_code 21 = .ok (.return_, 1) := by decide +kernel
def vc_Lp_turn (wfst : Int) (wh : Nat → Int) (wv : Nat → Int) (wn : Int) (mfst : Int) (mh : Nat → Int) (mv : Nat → Int) (mn : Int) (ps : Nat → Int) (pl : Nat → Int) (pt : Nat → Int) (np : Int) (hour : Int) (on : Int) (post : (Nat → Int) → (Nat → Int) → Int → (Nat → Int) → (Nat → Int) → (Nat → Int) → Int → Prop) : Prop := (r32 on) ∧ ((on = 0 → ∃ P3 : (Nat → Int) → (Nat → Int) → Int → Prop, vc_Ch_tell wfst wh wv wn hour 0 P3 ∧ ∀ (y5 : Nat → Int) (y6 : Nat → Int) (y7 : Int), P3 y5 y6 y7 → ∃ P8 : (Nat → Int) → (Nat → Int) → (Nat → Int) → Int → Prop, vc_Lp_cut wfst y5 y6 y7 mfst mh mv mn ps pl pt np P8 ∧ ∀ (y10 : Nat → Int) (y11 : Nat → Int) (y12 : Nat → Int) (y13 : Int), P8 y10 y11 y12 y13 → post y5 y6 y7 y10 y11 y12 y13) ∧ (¬ on = 0 → ∃ P14 : (Nat → Int) → (Nat → Int) → Int → Prop, vc_Ch_tell wfst wh wv wn hour 1 P14 ∧ ∀ (y16 : Nat → Int) (y17 : Nat → Int) (y18 : Int), P14 y16 y17 y18 → ∃ P19 : (Nat → Int) → (Nat → Int) → (Nat → Int) → Int → Prop, vc_Lp_cut wfst y16 y17 y18 mfst mh mv mn ps pl pt np P19 ∧ ∀ (y21 : Nat → Int) (y22 : Nat → Int) (y23 : Nat → Int) (y24 : Int), P19 y21 y22 y23 y24 → post y16 y17 y18 y21 y22 y23 y24))
set_option maxHeartbeats 4000000 in
set_option maxRecDepth 100000 in
theorem m_Lp_turn (l : Launch) (D : va_G) (cI cJ cO cZ : ClassId) (h0 h1 h2 h3 h4 h5 h6 h7 h8 h9 : Nat) (sz : Nat) (wfst : Int) (wh : Nat → Int) (wv : Nat → Int) (wn : Int) (mfst : Int) (mh : Nat → Int) (mv : Nat → Int) (mn : Int) (ps : Nat → Int) (pl : Nat → Int) (pt : Nat → Int) (np : Int) (hour : Int) (on : Int) (post : (Nat → Int) → (Nat → Int) → Int → (Nat → Int) → (Nat → Int) → (Nat → Int) → Int → Prop) (v : vc_Lp_turn wfst wh wv wn mfst mh mv mn ps pl pt np hour on post) : Met l ⟨"LightDoses$Lamp", "turn", "(IZ)V"⟩ (.code ⟨"LightDoses$Lamp", "turn", "(IZ)V"⟩ prog_8_method_2_code 3 none :: TG) { frames := 3, cells := 0, slots := 0, locals := 69 } (va_Pc [.ref h0, .int (iI hour), .int (iI on)] (fun U => U.heap.size = sz ∧ va_P D vwCl [(h0, .inr (6, [.ref h1, .ref h4, .ref h7, .ref h8, .ref h9, .int (iI np)])), (h1, .inr (2, [.int (iI wfst), .ref h2, .ref h3, .int (iI wn)])), (h2, .inl (cI, 20, .inl (fun k => iI (wh k)))), (h3, .inl (cI, 20, .inl (fun k => iI (wv k)))), (h4, .inr (2, [.int (iI mfst), .ref h5, .ref h6, .int (iI mn)])), (h5, .inl (cI, 20, .inl (fun k => iI (mh k)))), (h6, .inl (cI, 20, .inl (fun k => iI (mv k)))), (h7, .inl (cI, 41, .inl (fun k => iI (ps k)))), (h8, .inl (cI, 41, .inl (fun k => iI (pl k)))), (h9, .inl (cJ, 41, .inr (.inl (fun k => lI (pt k)))))] U.heap ∧ va_K D vwCl (tyx cI cJ cO cZ) U ∧ va_D (fun _ => True) [(h0, .inr (6, [.ref h1, .ref h4, .ref h7, .ref h8, .ref h9, .int (iI np)])), (h1, .inr (2, [.int (iI wfst), .ref h2, .ref h3, .int (iI wn)])), (h2, .inl (cI, 20, .inl (fun k => iI (wh k)))), (h3, .inl (cI, 20, .inl (fun k => iI (wv k)))), (h4, .inr (2, [.int (iI mfst), .ref h5, .ref h6, .int (iI mn)])), (h5, .inl (cI, 20, .inl (fun k => iI (mh k)))), (h6, .inl (cI, 20, .inl (fun k => iI (mv k)))), (h7, .inl (cI, 41, .inl (fun k => iI (ps k)))), (h8, .inl (cI, 41, .inl (fun k => iI (pl k)))), (h9, .inl (cJ, 41, .inr (.inl (fun k => lI (pt k)))))])) (va_Qv (fun u : (Nat → Int) × (Nat → Int) × Int × (Nat → Int) × (Nat → Int) × (Nat → Int) × Int => post u.1 u.2.1 u.2.2.1 u.2.2.2.1 u.2.2.2.2.1 u.2.2.2.2.2.1 u.2.2.2.2.2.2) (fun u t => va_P D vwCl [(h0, .inr (6, [.ref h1, .ref h4, .ref h7, .ref h8, .ref h9, .int (iI u.2.2.2.2.2.2)])), (h1, .inr (2, [.int (iI wfst), .ref h2, .ref h3, .int (iI u.2.2.1)])), (h2, .inl (cI, 20, .inl (fun k => iI (u.1 k)))), (h3, .inl (cI, 20, .inl (fun k => iI (u.2.1 k)))), (h4, .inr (2, [.int (iI mfst), .ref h5, .ref h6, .int (iI mn)])), (h5, .inl (cI, 20, .inl (fun k => iI (mh k)))), (h6, .inl (cI, 20, .inl (fun k => iI (mv k)))), (h7, .inl (cI, 41, .inl (fun k => iI (u.2.2.2.1 k)))), (h8, .inl (cI, 41, .inl (fun k => iI (u.2.2.2.2.1 k)))), (h9, .inl (cJ, 41, .inr (.inl (fun k => lI (u.2.2.2.2.2.1 k)))))] t.heap ∧ va_K D vwCl (tyx cI cJ cO cZ) t ∧ va_D (va_A [(h0, .inr (6, [.ref h1, .ref h4, .ref h7, .ref h8, .ref h9, .int (iI np)])), (h1, .inr (2, [.int (iI wfst), .ref h2, .ref h3, .int (iI wn)])), (h2, .inl (cI, 20, .inl (fun k => iI (wh k)))), (h3, .inl (cI, 20, .inl (fun k => iI (wv k)))), (h4, .inr (2, [.int (iI mfst), .ref h5, .ref h6, .int (iI mn)])), (h5, .inl (cI, 20, .inl (fun k => iI (mh k)))), (h6, .inl (cI, 20, .inl (fun k => iI (mv k)))), (h7, .inl (cI, 41, .inl (fun k => iI (ps k)))), (h8, .inl (cI, 41, .inl (fun k => iI (pl k)))), (h9, .inl (cJ, 41, .inr (.inl (fun k => lI (pt k)))))] sz) [(h0, .inr (6, [.ref h1, .ref h4, .ref h7, .ref h8, .ref h9, .int (iI u.2.2.2.2.2.2)])), (h1, .inr (2, [.int (iI wfst), .ref h2, .ref h3, .int (iI u.2.2.1)])), (h2, .inl (cI, 20, .inl (fun k => iI (u.1 k)))), (h3, .inl (cI, 20, .inl (fun k => iI (u.2.1 k)))), (h4, .inr (2, [.int (iI mfst), .ref h5, .ref h6, .int (iI mn)])), (h5, .inl (cI, 20, .inl (fun k => iI (mh k)))), (h6, .inl (cI, 20, .inl (fun k => iI (mv k)))), (h7, .inl (cI, 41, .inl (fun k => iI (u.2.2.2.1 k)))), (h8, .inl (cI, 41, .inl (fun k => iI (u.2.2.2.2.1 k)))), (h9, .inl (cJ, 41, .inr (.inl (fun k => lI (u.2.2.2.2.2.1 k)))))]) (va_A [(h0, .inr (6, [.ref h1, .ref h4, .ref h7, .ref h8, .ref h9, .int (iI np)])), (h1, .inr (2, [.int (iI wfst), .ref h2, .ref h3, .int (iI wn)])), (h2, .inl (cI, 20, .inl (fun k => iI (wh k)))), (h3, .inl (cI, 20, .inl (fun k => iI (wv k)))), (h4, .inr (2, [.int (iI mfst), .ref h5, .ref h6, .int (iI mn)])), (h5, .inl (cI, 20, .inl (fun k => iI (mh k)))), (h6, .inl (cI, 20, .inl (fun k => iI (mv k)))), (h7, .inl (cI, 41, .inl (fun k => iI (ps k)))), (h8, .inl (cI, 41, .inl (fun k => iI (pl k)))), (h9, .inl (cJ, 41, .inr (.inl (fun k => lI (pt k)))))] sz)) 0 0 (va_A [(h0, .inr (6, [.ref h1, .ref h4, .ref h7, .ref h8, .ref h9, .int (iI np)])), (h1, .inr (2, [.int (iI wfst), .ref h2, .ref h3, .int (iI wn)])), (h2, .inl (cI, 20, .inl (fun k => iI (wh k)))), (h3, .inl (cI, 20, .inl (fun k => iI (wv k)))), (h4, .inr (2, [.int (iI mfst), .ref h5, .ref h6, .int (iI mn)])), (h5, .inl (cI, 20, .inl (fun k => iI (mh k)))), (h6, .inl (cI, 20, .inl (fun k => iI (mv k)))), (h7, .inl (cI, 41, .inl (fun k => iI (ps k)))), (h8, .inl (cI, 41, .inl (fun k => iI (pl k)))), (h9, .inl (cJ, 41, .inr (.inl (fun k => lI (pt k)))))] sz) := by
  refine Met.ofW (cc := prog_8_method_2_code) (maxL := 3) (ret := none) (by decide) rfl ?_
  intro p e s m args below meth c s₁ B hml hv
  obtain ⟨rfl, hsz, hP, hK, hD0⟩ := hv
  have hx := B.exec
  have hb := B.bytes
  have hr := B.returns
  have hts0 := atoms_spec (ws := (.code ⟨"LightDoses$Lamp", "turn", "(IZ)V"⟩ prog_8_method_2_code 3 none :: TG)) B.pre
  have hts : ∀ w ∈ TG, w.before _ s = true := fun w h => hts0 w (List.mem_cons_of_mem _ h)
  have hown : s.vm.findClass "LightDoses$Lamp" = some m.cls := findClass_of_methodNamed B.named
  have hlocks := B.notSynchronized
  subst hsz
  have hD := hD0.self (sz := s.heap.size)
  generalize hAe : va_A [(h0, .inr (6, [.ref h1, .ref h4, .ref h7, .ref h8, .ref h9, .int (iI np)])), (h1, .inr (2, [.int (iI wfst), .ref h2, .ref h3, .int (iI wn)])), (h2, .inl (cI, 20, .inl (fun k => iI (wh k)))), (h3, .inl (cI, 20, .inl (fun k => iI (wv k)))), (h4, .inr (2, [.int (iI mfst), .ref h5, .ref h6, .int (iI mn)])), (h5, .inl (cI, 20, .inl (fun k => iI (mh k)))), (h6, .inl (cI, 20, .inl (fun k => iI (mv k)))), (h7, .inl (cI, 41, .inl (fun k => iI (ps k)))), (h8, .inl (cI, 41, .inl (fun k => iI (pl k)))), (h9, .inl (cJ, 41, .inr (.inl (fun k => lI (pt k)))))] s.heap.size = A at hD ⊢
  have hA : ∀ q : Nat, s.heap.size ≤ q → A q := fun q h => by rw [← hAe]; exact Or.inr h
  have hS : va_S A s.heap s.heap [] := va_S.rf
  have hP : va_P D vwCl [(h0, .inr (6, [.ref h1, .ref h4, .ref h7, .ref h8, .ref h9, .int (iI np)])), (h1, .inr (2, [.int (iI wfst), .ref h2, .ref h3, .int (iI wn)])), (h2, .inl (cI, 20, .inl (fun k => iI (wh k)))), (h3, .inl (cI, 20, .inl (fun k => iI (wv k)))), (h4, .inr (2, [.int (iI mfst), .ref h5, .ref h6, .int (iI mn)])), (h5, .inl (cI, 20, .inl (fun k => iI (mh k)))), (h6, .inl (cI, 20, .inl (fun k => iI (mv k)))), (h7, .inl (cI, 41, .inl (fun k => iI (ps k)))), (h8, .inl (cI, 41, .inl (fun k => iI (pl k)))), (h9, .inl (cJ, 41, .inr (.inl (fun k => lI (pt k)))))] s.heap := hP
  have hl := lv_entry ([Value.ref h0, Value.int (iI hour), Value.int (iI on)]) (n := 3) (Nat.le_of_ble_eq_true rfl)
  rw [lg_entry_eq]
  generalize (lg_sl ([Value.ref h0, Value.int (iI hour), Value.int (iI on)]) ++ List.replicate (3 - (lg_sl ([Value.ref h0, Value.int (iI hour), Value.int (iI on)])).length) Slot.unset).toArray = ls at hl ⊢
  have hl : lv_has ls 3 [(0, .ref h0), (1, .int (iI hour)), (2, .int (iI on))] := hl
  unfold vc_Lp_turn at v
  obtain ⟨H, hH⟩ : ∃ H, H = s.heap := ⟨_, rfl⟩
  obtain ⟨locs, hlc⟩ : ∃ L : List Loc, L = [] := ⟨_, rfl⟩
  rw [← hlc] at hS ⊢
  have hP : va_P D vwCl [(h0, .inr (6, [.ref h1, .ref h4, .ref h7, .ref h8, .ref h9, .int (iI np)])), (h1, .inr (2, [.int (iI wfst), .ref h2, .ref h3, .int (iI wn)])), (h2, .inl (cI, 20, .inl (fun k => iI (wh k)))), (h3, .inl (cI, 20, .inl (fun k => iI (wv k)))), (h4, .inr (2, [.int (iI mfst), .ref h5, .ref h6, .int (iI mn)])), (h5, .inl (cI, 20, .inl (fun k => iI (mh k)))), (h6, .inl (cI, 20, .inl (fun k => iI (mv k)))), (h7, .inl (cI, 41, .inl (fun k => iI (ps k)))), (h8, .inl (cI, 41, .inl (fun k => iI (pl k)))), (h9, .inl (cJ, 41, .inr (.inl (fun k => lI (pt k)))))] H := by rw [hH]; exact hP
  have hS : va_S A s.heap H locs := by rw [hH]; exact hS
  have hW0 : ∀ {X : Heap → Prop}, X H → X s.heap := fun h => by rw [← hH]; exact h
  refine hW0 (X := fun Z => W p l e _ s m _ below meth c Z locs 0 0 _ _) ?_
  refine lv_aload_n hx hb d_Lp_turn_0 rfl (lv_at hl 0 rfl) ?_
  refine va_get (D := D) (ci := 6) (v := .ref h1) (C := "LightDoses$Lamp") (T := T_Lp) (N := 6) hx hb hts in_Lp hown hK hP 0 rfl rfl 0 (by decide) (hts _ wd_509) (fun _ h9 => h9) rfl d_Lp_turn_1 ?_
  refine lv_iload_n hx hb d_Lp_turn_4 rfl (lv_at hl 1 rfl) ?_
  refine lv_iload_n hx hb d_Lp_turn_5 rfl (lv_at hl 2 rfl) ?_
  obtain ⟨k1, v⟩ := v
  refine nv_if_eq (tgt := 13) hx hb d_Lp_turn_6 (by decide) k1 (fun c2 => ?_) (fun c2 => ?_)
  · replace v := v.1 c2
    refine nv_iconst (n := 0) hx hb d_Lp_turn_13 ?_
    obtain ⟨P3, q4, v⟩ := v
    have hPc := hP.sub (ws' := [(h1, .inr (2, [.int (iI wfst), .ref h2, .ref h3, .int (iI wn)])), (h2, .inl (cI, 20, .inl (fun k => iI (wh k)))), (h3, .inl (cI, 20, .inl (fun k => iI (wv k))))]) [1, 2, 3] rfl
    have hDc := hD.sub (ws' := [(h1, .inr (2, [.int (iI wfst), .ref h2, .ref h3, .int (iI wn)])), (h2, .inl (cI, 20, .inl (fun k => iI (wh k)))), (h3, .inl (cI, 20, .inl (fun k => iI (wv k))))]) [1, 2, 3] (by decide) rfl
    have hFc := va_free (wc := [(h1, .inr (2, [.int (iI wfst), .ref h2, .ref h3, .int (iI wn)])), (h2, .inl (cI, 20, .inl (fun k => iI (wh k)))), (h3, .inl (cI, 20, .inl (fun k => iI (wv k))))]) hD hS hA [1, 2, 3] rfl
    refine va_callv (va_runV (As := [.int (iI hour), .int (iI 0)]) (rest := []) ⟨hx, hb, hml, hown, hts⟩ (m_Ch_tell l D cI cJ cO cZ h1 h2 h3 H.size wfst wh wv wn hour 0 P3 q4) (nv_cwV (n := 2) hts wd_587 wd_588 wd_589 wd_22 wd_590 (by decide +kernel) ⟨Nat.le_of_ble_eq_true rfl, Nat.le_of_ble_eq_true rfl⟩) ⟨blW, va_recv hK hPc (ci := 2) (q0 := 0) rfl rfl, fun U hU hW => ⟨rfl, by rw [hU], by rw [hU]; exact hPc, va_K.moved hW.alike hK, hDc.weaken (fun _ _ _ _ => trivial)⟩⟩ rfl rfl hl.1 rfl (lv_room (Nat.le_of_ble_eq_true rfl)) d_Lp_turn_14 ⟨Nat.le_of_ble_eq_true rfl, Nat.le_of_ble_eq_true rfl⟩) hS (fun q _ h => hFc q h) hFc (fun u t H1 locs ht hvm hw hB hz1 hk1 hS => ?_)
    obtain ⟨y5, y6, y7⟩ := u
    obtain ⟨hP1, hK1, hD1⟩ := hB
    rw [ht] at hP1
    obtain ⟨hP, hD⟩ := va_join (wr := [(h0, .inr (6, [.ref h1, .ref h4, .ref h7, .ref h8, .ref h9, .int (iI np)])), (h4, .inr (2, [.int (iI mfst), .ref h5, .ref h6, .int (iI mn)])), (h5, .inl (cI, 20, .inl (fun k => iI (mh k)))), (h6, .inl (cI, 20, .inl (fun k => iI (mv k)))), (h7, .inl (cI, 41, .inl (fun k => iI (ps k)))), (h8, .inl (cI, 41, .inl (fun k => iI (pl k)))), (h9, .inl (cJ, 41, .inr (.inl (fun k => lI (pt k)))))]) (w1 := [(h1, .inr (2, [.int (iI wfst), .ref h2, .ref h3, .int (iI y7)])), (h2, .inl (cI, 20, .inl (fun k => iI (y5 k)))), (h3, .inl (cI, 20, .inl (fun k => iI (y6 k))))]) hP hD [1, 2, 3] [0, 4, 5, 6, 7, 8, 9] rfl rfl (by decide) (by decide) hk1 hFc hP1 hD1
    generalize H1 = H at hP hS ⊢
    have hP : va_P D vwCl [(h0, .inr (6, [.ref h1, .ref h4, .ref h7, .ref h8, .ref h9, .int (iI np)])), (h4, .inr (2, [.int (iI mfst), .ref h5, .ref h6, .int (iI mn)])), (h5, .inl (cI, 20, .inl (fun k => iI (mh k)))), (h6, .inl (cI, 20, .inl (fun k => iI (mv k)))), (h7, .inl (cI, 41, .inl (fun k => iI (ps k)))), (h8, .inl (cI, 41, .inl (fun k => iI (pl k)))), (h9, .inl (cJ, 41, .inr (.inl (fun k => lI (pt k))))), (h1, .inr (2, [.int (iI wfst), .ref h2, .ref h3, .int (iI y7)])), (h2, .inl (cI, 20, .inl (fun k => iI (y5 k)))), (h3, .inl (cI, 20, .inl (fun k => iI (y6 k))))] H := hP
    have hD : va_D A [(h0, .inr (6, [.ref h1, .ref h4, .ref h7, .ref h8, .ref h9, .int (iI np)])), (h4, .inr (2, [.int (iI mfst), .ref h5, .ref h6, .int (iI mn)])), (h5, .inl (cI, 20, .inl (fun k => iI (mh k)))), (h6, .inl (cI, 20, .inl (fun k => iI (mv k)))), (h7, .inl (cI, 41, .inl (fun k => iI (ps k)))), (h8, .inl (cI, 41, .inl (fun k => iI (pl k)))), (h9, .inl (cJ, 41, .inr (.inl (fun k => lI (pt k))))), (h1, .inr (2, [.int (iI wfst), .ref h2, .ref h3, .int (iI y7)])), (h2, .inl (cI, 20, .inl (fun k => iI (y5 k)))), (h3, .inl (cI, 20, .inl (fun k => iI (y6 k))))] := hD
    refine W.widen (k := 0) (n := 0) (Nat.le_of_ble_eq_true rfl) (Nat.le_of_ble_eq_true rfl) ?_
    replace v := v y5 y6 y7 hw
    refine lv_aload_n hx hb d_Lp_turn_17 rfl (lv_at hl 0 rfl) ?_
    obtain ⟨P8, q9, v⟩ := v
    have hPc := hP.sub (ws' := [(h0, .inr (6, [.ref h1, .ref h4, .ref h7, .ref h8, .ref h9, .int (iI np)])), (h1, .inr (2, [.int (iI wfst), .ref h2, .ref h3, .int (iI y7)])), (h2, .inl (cI, 20, .inl (fun k => iI (y5 k)))), (h3, .inl (cI, 20, .inl (fun k => iI (y6 k)))), (h4, .inr (2, [.int (iI mfst), .ref h5, .ref h6, .int (iI mn)])), (h5, .inl (cI, 20, .inl (fun k => iI (mh k)))), (h6, .inl (cI, 20, .inl (fun k => iI (mv k)))), (h7, .inl (cI, 41, .inl (fun k => iI (ps k)))), (h8, .inl (cI, 41, .inl (fun k => iI (pl k)))), (h9, .inl (cJ, 41, .inr (.inl (fun k => lI (pt k)))))]) [0, 7, 8, 9, 1, 2, 3, 4, 5, 6] rfl
    have hDc := hD.sub (ws' := [(h0, .inr (6, [.ref h1, .ref h4, .ref h7, .ref h8, .ref h9, .int (iI np)])), (h1, .inr (2, [.int (iI wfst), .ref h2, .ref h3, .int (iI y7)])), (h2, .inl (cI, 20, .inl (fun k => iI (y5 k)))), (h3, .inl (cI, 20, .inl (fun k => iI (y6 k)))), (h4, .inr (2, [.int (iI mfst), .ref h5, .ref h6, .int (iI mn)])), (h5, .inl (cI, 20, .inl (fun k => iI (mh k)))), (h6, .inl (cI, 20, .inl (fun k => iI (mv k)))), (h7, .inl (cI, 41, .inl (fun k => iI (ps k)))), (h8, .inl (cI, 41, .inl (fun k => iI (pl k)))), (h9, .inl (cJ, 41, .inr (.inl (fun k => lI (pt k)))))]) [0, 7, 8, 9, 1, 2, 3, 4, 5, 6] (by decide) rfl
    have hFc := va_free (wc := [(h0, .inr (6, [.ref h1, .ref h4, .ref h7, .ref h8, .ref h9, .int (iI np)])), (h1, .inr (2, [.int (iI wfst), .ref h2, .ref h3, .int (iI y7)])), (h2, .inl (cI, 20, .inl (fun k => iI (y5 k)))), (h3, .inl (cI, 20, .inl (fun k => iI (y6 k)))), (h4, .inr (2, [.int (iI mfst), .ref h5, .ref h6, .int (iI mn)])), (h5, .inl (cI, 20, .inl (fun k => iI (mh k)))), (h6, .inl (cI, 20, .inl (fun k => iI (mv k)))), (h7, .inl (cI, 41, .inl (fun k => iI (ps k)))), (h8, .inl (cI, 41, .inl (fun k => iI (pl k)))), (h9, .inl (cJ, 41, .inr (.inl (fun k => lI (pt k)))))]) hD hS hA [0, 7, 8, 9, 1, 2, 3, 4, 5, 6] rfl
    refine va_callv (va_runV (As := []) (rest := []) ⟨hx, hb, hml, hown, hts⟩ (m_Lp_cut l D cI cJ cO cZ h0 h1 h2 h3 h4 h5 h6 h7 h8 h9 H.size wfst y5 y6 y7 mfst mh mv mn ps pl pt np P8 q9) (nv_cwV (n := 0) hts wd_492 wd_494 sl_12 wd_21 wd_495 (by decide +kernel) ⟨Nat.le_of_ble_eq_true rfl, Nat.le_of_ble_eq_true rfl⟩) ⟨blW, va_recv hK hPc (ci := 6) (q0 := 0) rfl rfl, fun U hU hW => ⟨rfl, by rw [hU], by rw [hU]; exact hPc, va_K.moved hW.alike hK, hDc.weaken (fun _ _ _ _ => trivial)⟩⟩ rfl rfl hl.1 rfl (lv_room (Nat.le_of_ble_eq_true rfl)) d_Lp_turn_18 ⟨Nat.le_of_ble_eq_true rfl, Nat.le_of_ble_eq_true rfl⟩) hS (fun q _ h => hFc q h) hFc (fun u t H1 locs ht hvm hw hB hz1 hk1 hS => ?_)
    obtain ⟨y10, y11, y12, y13⟩ := u
    obtain ⟨hP1, hK1, hD1⟩ := hB
    rw [ht] at hP1
    obtain ⟨hP, hD⟩ := va_join (wr := []) (w1 := [(h0, .inr (6, [.ref h1, .ref h4, .ref h7, .ref h8, .ref h9, .int (iI y13)])), (h1, .inr (2, [.int (iI wfst), .ref h2, .ref h3, .int (iI y7)])), (h2, .inl (cI, 20, .inl (fun k => iI (y5 k)))), (h3, .inl (cI, 20, .inl (fun k => iI (y6 k)))), (h4, .inr (2, [.int (iI mfst), .ref h5, .ref h6, .int (iI mn)])), (h5, .inl (cI, 20, .inl (fun k => iI (mh k)))), (h6, .inl (cI, 20, .inl (fun k => iI (mv k)))), (h7, .inl (cI, 41, .inl (fun k => iI (y10 k)))), (h8, .inl (cI, 41, .inl (fun k => iI (y11 k)))), (h9, .inl (cJ, 41, .inr (.inl (fun k => lI (y12 k)))))]) hP hD [0, 7, 8, 9, 1, 2, 3, 4, 5, 6] [] rfl rfl (by decide) (by decide) hk1 hFc hP1 hD1
    generalize H1 = H at hP hS ⊢
    have hP : va_P D vwCl [(h0, .inr (6, [.ref h1, .ref h4, .ref h7, .ref h8, .ref h9, .int (iI y13)])), (h1, .inr (2, [.int (iI wfst), .ref h2, .ref h3, .int (iI y7)])), (h2, .inl (cI, 20, .inl (fun k => iI (y5 k)))), (h3, .inl (cI, 20, .inl (fun k => iI (y6 k)))), (h4, .inr (2, [.int (iI mfst), .ref h5, .ref h6, .int (iI mn)])), (h5, .inl (cI, 20, .inl (fun k => iI (mh k)))), (h6, .inl (cI, 20, .inl (fun k => iI (mv k)))), (h7, .inl (cI, 41, .inl (fun k => iI (y10 k)))), (h8, .inl (cI, 41, .inl (fun k => iI (y11 k)))), (h9, .inl (cJ, 41, .inr (.inl (fun k => lI (y12 k)))))] H := hP
    have hD : va_D A [(h0, .inr (6, [.ref h1, .ref h4, .ref h7, .ref h8, .ref h9, .int (iI y13)])), (h1, .inr (2, [.int (iI wfst), .ref h2, .ref h3, .int (iI y7)])), (h2, .inl (cI, 20, .inl (fun k => iI (y5 k)))), (h3, .inl (cI, 20, .inl (fun k => iI (y6 k)))), (h4, .inr (2, [.int (iI mfst), .ref h5, .ref h6, .int (iI mn)])), (h5, .inl (cI, 20, .inl (fun k => iI (mh k)))), (h6, .inl (cI, 20, .inl (fun k => iI (mv k)))), (h7, .inl (cI, 41, .inl (fun k => iI (y10 k)))), (h8, .inl (cI, 41, .inl (fun k => iI (y11 k)))), (h9, .inl (cJ, 41, .inr (.inl (fun k => lI (y12 k)))))] := hD
    refine W.widen (k := 0) (n := 0) (Nat.le_of_ble_eq_true rfl) (Nat.le_of_ble_eq_true rfl) ?_
    replace v := v y10 y11 y12 y13 hw
    have hP9 := hP.sub (ws' := [(h0, .inr (6, [.ref h1, .ref h4, .ref h7, .ref h8, .ref h9, .int (iI y13)])), (h1, .inr (2, [.int (iI wfst), .ref h2, .ref h3, .int (iI y7)])), (h2, .inl (cI, 20, .inl (fun k => iI (y5 k)))), (h3, .inl (cI, 20, .inl (fun k => iI (y6 k)))), (h4, .inr (2, [.int (iI mfst), .ref h5, .ref h6, .int (iI mn)])), (h5, .inl (cI, 20, .inl (fun k => iI (mh k)))), (h6, .inl (cI, 20, .inl (fun k => iI (mv k)))), (h7, .inl (cI, 41, .inl (fun k => iI (y10 k)))), (h8, .inl (cI, 41, .inl (fun k => iI (y11 k)))), (h9, .inl (cJ, 41, .inr (.inl (fun k => lI (y12 k)))))]) [0, 1, 2, 3, 4, 5, 6, 7, 8, 9] rfl
    have hD9 := hD.sub (ws' := [(h0, .inr (6, [.ref h1, .ref h4, .ref h7, .ref h8, .ref h9, .int (iI y13)])), (h1, .inr (2, [.int (iI wfst), .ref h2, .ref h3, .int (iI y7)])), (h2, .inl (cI, 20, .inl (fun k => iI (y5 k)))), (h3, .inl (cI, 20, .inl (fun k => iI (y6 k)))), (h4, .inr (2, [.int (iI mfst), .ref h5, .ref h6, .int (iI mn)])), (h5, .inl (cI, 20, .inl (fun k => iI (mh k)))), (h6, .inl (cI, 20, .inl (fun k => iI (mv k)))), (h7, .inl (cI, 41, .inl (fun k => iI (y10 k)))), (h8, .inl (cI, 41, .inl (fun k => iI (y11 k)))), (h9, .inl (cJ, 41, .inr (.inl (fun k => lI (y12 k)))))]) [0, 1, 2, 3, 4, 5, 6, 7, 8, 9] (by decide) rfl
    exact W.vret hx hb hr (fun t ht hW => ⟨⟨((y5), (y6), (y7), (y10), (y11), (y12), (y13)), rfl, v, by rw [ht]; exact hP9, va_K.moved hW.alike hK, hD9⟩, hS.F ht⟩) hS.2.2 d_Lp_turn_21
  · replace v := v.2 c2
    refine nv_iconst (n := 1) hx hb d_Lp_turn_9 ?_
    refine lv_goto (tgt := 14) hx hb d_Lp_turn_10 (by decide) ?_
    obtain ⟨P14, q15, v⟩ := v
    have hPc := hP.sub (ws' := [(h1, .inr (2, [.int (iI wfst), .ref h2, .ref h3, .int (iI wn)])), (h2, .inl (cI, 20, .inl (fun k => iI (wh k)))), (h3, .inl (cI, 20, .inl (fun k => iI (wv k))))]) [1, 2, 3] rfl
    have hDc := hD.sub (ws' := [(h1, .inr (2, [.int (iI wfst), .ref h2, .ref h3, .int (iI wn)])), (h2, .inl (cI, 20, .inl (fun k => iI (wh k)))), (h3, .inl (cI, 20, .inl (fun k => iI (wv k))))]) [1, 2, 3] (by decide) rfl
    have hFc := va_free (wc := [(h1, .inr (2, [.int (iI wfst), .ref h2, .ref h3, .int (iI wn)])), (h2, .inl (cI, 20, .inl (fun k => iI (wh k)))), (h3, .inl (cI, 20, .inl (fun k => iI (wv k))))]) hD hS hA [1, 2, 3] rfl
    refine va_callv (va_runV (As := [.int (iI hour), .int (iI 1)]) (rest := []) ⟨hx, hb, hml, hown, hts⟩ (m_Ch_tell l D cI cJ cO cZ h1 h2 h3 H.size wfst wh wv wn hour 1 P14 q15) (nv_cwV (n := 2) hts wd_587 wd_588 wd_589 wd_22 wd_590 (by decide +kernel) ⟨Nat.le_of_ble_eq_true rfl, Nat.le_of_ble_eq_true rfl⟩) ⟨blW, va_recv hK hPc (ci := 2) (q0 := 0) rfl rfl, fun U hU hW => ⟨rfl, by rw [hU], by rw [hU]; exact hPc, va_K.moved hW.alike hK, hDc.weaken (fun _ _ _ _ => trivial)⟩⟩ rfl rfl hl.1 rfl (lv_room (Nat.le_of_ble_eq_true rfl)) d_Lp_turn_14 ⟨Nat.le_of_ble_eq_true rfl, Nat.le_of_ble_eq_true rfl⟩) hS (fun q _ h => hFc q h) hFc (fun u t H1 locs ht hvm hw hB hz1 hk1 hS => ?_)
    obtain ⟨y16, y17, y18⟩ := u
    obtain ⟨hP1, hK1, hD1⟩ := hB
    rw [ht] at hP1
    obtain ⟨hP, hD⟩ := va_join (wr := [(h0, .inr (6, [.ref h1, .ref h4, .ref h7, .ref h8, .ref h9, .int (iI np)])), (h4, .inr (2, [.int (iI mfst), .ref h5, .ref h6, .int (iI mn)])), (h5, .inl (cI, 20, .inl (fun k => iI (mh k)))), (h6, .inl (cI, 20, .inl (fun k => iI (mv k)))), (h7, .inl (cI, 41, .inl (fun k => iI (ps k)))), (h8, .inl (cI, 41, .inl (fun k => iI (pl k)))), (h9, .inl (cJ, 41, .inr (.inl (fun k => lI (pt k)))))]) (w1 := [(h1, .inr (2, [.int (iI wfst), .ref h2, .ref h3, .int (iI y18)])), (h2, .inl (cI, 20, .inl (fun k => iI (y16 k)))), (h3, .inl (cI, 20, .inl (fun k => iI (y17 k))))]) hP hD [1, 2, 3] [0, 4, 5, 6, 7, 8, 9] rfl rfl (by decide) (by decide) hk1 hFc hP1 hD1
    generalize H1 = H at hP hS ⊢
    have hP : va_P D vwCl [(h0, .inr (6, [.ref h1, .ref h4, .ref h7, .ref h8, .ref h9, .int (iI np)])), (h4, .inr (2, [.int (iI mfst), .ref h5, .ref h6, .int (iI mn)])), (h5, .inl (cI, 20, .inl (fun k => iI (mh k)))), (h6, .inl (cI, 20, .inl (fun k => iI (mv k)))), (h7, .inl (cI, 41, .inl (fun k => iI (ps k)))), (h8, .inl (cI, 41, .inl (fun k => iI (pl k)))), (h9, .inl (cJ, 41, .inr (.inl (fun k => lI (pt k))))), (h1, .inr (2, [.int (iI wfst), .ref h2, .ref h3, .int (iI y18)])), (h2, .inl (cI, 20, .inl (fun k => iI (y16 k)))), (h3, .inl (cI, 20, .inl (fun k => iI (y17 k))))] H := hP
    have hD : va_D A [(h0, .inr (6, [.ref h1, .ref h4, .ref h7, .ref h8, .ref h9, .int (iI np)])), (h4, .inr (2, [.int (iI mfst), .ref h5, .ref h6, .int (iI mn)])), (h5, .inl (cI, 20, .inl (fun k => iI (mh k)))), (h6, .inl (cI, 20, .inl (fun k => iI (mv k)))), (h7, .inl (cI, 41, .inl (fun k => iI (ps k)))), (h8, .inl (cI, 41, .inl (fun k => iI (pl k)))), (h9, .inl (cJ, 41, .inr (.inl (fun k => lI (pt k))))), (h1, .inr (2, [.int (iI wfst), .ref h2, .ref h3, .int (iI y18)])), (h2, .inl (cI, 20, .inl (fun k => iI (y16 k)))), (h3, .inl (cI, 20, .inl (fun k => iI (y17 k))))] := hD
    refine W.widen (k := 0) (n := 0) (Nat.le_of_ble_eq_true rfl) (Nat.le_of_ble_eq_true rfl) ?_
    replace v := v y16 y17 y18 hw
    refine lv_aload_n hx hb d_Lp_turn_17 rfl (lv_at hl 0 rfl) ?_
    obtain ⟨P19, q20, v⟩ := v
    have hPc := hP.sub (ws' := [(h0, .inr (6, [.ref h1, .ref h4, .ref h7, .ref h8, .ref h9, .int (iI np)])), (h1, .inr (2, [.int (iI wfst), .ref h2, .ref h3, .int (iI y18)])), (h2, .inl (cI, 20, .inl (fun k => iI (y16 k)))), (h3, .inl (cI, 20, .inl (fun k => iI (y17 k)))), (h4, .inr (2, [.int (iI mfst), .ref h5, .ref h6, .int (iI mn)])), (h5, .inl (cI, 20, .inl (fun k => iI (mh k)))), (h6, .inl (cI, 20, .inl (fun k => iI (mv k)))), (h7, .inl (cI, 41, .inl (fun k => iI (ps k)))), (h8, .inl (cI, 41, .inl (fun k => iI (pl k)))), (h9, .inl (cJ, 41, .inr (.inl (fun k => lI (pt k)))))]) [0, 7, 8, 9, 1, 2, 3, 4, 5, 6] rfl
    have hDc := hD.sub (ws' := [(h0, .inr (6, [.ref h1, .ref h4, .ref h7, .ref h8, .ref h9, .int (iI np)])), (h1, .inr (2, [.int (iI wfst), .ref h2, .ref h3, .int (iI y18)])), (h2, .inl (cI, 20, .inl (fun k => iI (y16 k)))), (h3, .inl (cI, 20, .inl (fun k => iI (y17 k)))), (h4, .inr (2, [.int (iI mfst), .ref h5, .ref h6, .int (iI mn)])), (h5, .inl (cI, 20, .inl (fun k => iI (mh k)))), (h6, .inl (cI, 20, .inl (fun k => iI (mv k)))), (h7, .inl (cI, 41, .inl (fun k => iI (ps k)))), (h8, .inl (cI, 41, .inl (fun k => iI (pl k)))), (h9, .inl (cJ, 41, .inr (.inl (fun k => lI (pt k)))))]) [0, 7, 8, 9, 1, 2, 3, 4, 5, 6] (by decide) rfl
    have hFc := va_free (wc := [(h0, .inr (6, [.ref h1, .ref h4, .ref h7, .ref h8, .ref h9, .int (iI np)])), (h1, .inr (2, [.int (iI wfst), .ref h2, .ref h3, .int (iI y18)])), (h2, .inl (cI, 20, .inl (fun k => iI (y16 k)))), (h3, .inl (cI, 20, .inl (fun k => iI (y17 k)))), (h4, .inr (2, [.int (iI mfst), .ref h5, .ref h6, .int (iI mn)])), (h5, .inl (cI, 20, .inl (fun k => iI (mh k)))), (h6, .inl (cI, 20, .inl (fun k => iI (mv k)))), (h7, .inl (cI, 41, .inl (fun k => iI (ps k)))), (h8, .inl (cI, 41, .inl (fun k => iI (pl k)))), (h9, .inl (cJ, 41, .inr (.inl (fun k => lI (pt k)))))]) hD hS hA [0, 7, 8, 9, 1, 2, 3, 4, 5, 6] rfl
    refine va_callv (va_runV (As := []) (rest := []) ⟨hx, hb, hml, hown, hts⟩ (m_Lp_cut l D cI cJ cO cZ h0 h1 h2 h3 h4 h5 h6 h7 h8 h9 H.size wfst y16 y17 y18 mfst mh mv mn ps pl pt np P19 q20) (nv_cwV (n := 0) hts wd_492 wd_494 sl_12 wd_21 wd_495 (by decide +kernel) ⟨Nat.le_of_ble_eq_true rfl, Nat.le_of_ble_eq_true rfl⟩) ⟨blW, va_recv hK hPc (ci := 6) (q0 := 0) rfl rfl, fun U hU hW => ⟨rfl, by rw [hU], by rw [hU]; exact hPc, va_K.moved hW.alike hK, hDc.weaken (fun _ _ _ _ => trivial)⟩⟩ rfl rfl hl.1 rfl (lv_room (Nat.le_of_ble_eq_true rfl)) d_Lp_turn_18 ⟨Nat.le_of_ble_eq_true rfl, Nat.le_of_ble_eq_true rfl⟩) hS (fun q _ h => hFc q h) hFc (fun u t H1 locs ht hvm hw hB hz1 hk1 hS => ?_)
    obtain ⟨y21, y22, y23, y24⟩ := u
    obtain ⟨hP1, hK1, hD1⟩ := hB
    rw [ht] at hP1
    obtain ⟨hP, hD⟩ := va_join (wr := []) (w1 := [(h0, .inr (6, [.ref h1, .ref h4, .ref h7, .ref h8, .ref h9, .int (iI y24)])), (h1, .inr (2, [.int (iI wfst), .ref h2, .ref h3, .int (iI y18)])), (h2, .inl (cI, 20, .inl (fun k => iI (y16 k)))), (h3, .inl (cI, 20, .inl (fun k => iI (y17 k)))), (h4, .inr (2, [.int (iI mfst), .ref h5, .ref h6, .int (iI mn)])), (h5, .inl (cI, 20, .inl (fun k => iI (mh k)))), (h6, .inl (cI, 20, .inl (fun k => iI (mv k)))), (h7, .inl (cI, 41, .inl (fun k => iI (y21 k)))), (h8, .inl (cI, 41, .inl (fun k => iI (y22 k)))), (h9, .inl (cJ, 41, .inr (.inl (fun k => lI (y23 k)))))]) hP hD [0, 7, 8, 9, 1, 2, 3, 4, 5, 6] [] rfl rfl (by decide) (by decide) hk1 hFc hP1 hD1
    generalize H1 = H at hP hS ⊢
    have hP : va_P D vwCl [(h0, .inr (6, [.ref h1, .ref h4, .ref h7, .ref h8, .ref h9, .int (iI y24)])), (h1, .inr (2, [.int (iI wfst), .ref h2, .ref h3, .int (iI y18)])), (h2, .inl (cI, 20, .inl (fun k => iI (y16 k)))), (h3, .inl (cI, 20, .inl (fun k => iI (y17 k)))), (h4, .inr (2, [.int (iI mfst), .ref h5, .ref h6, .int (iI mn)])), (h5, .inl (cI, 20, .inl (fun k => iI (mh k)))), (h6, .inl (cI, 20, .inl (fun k => iI (mv k)))), (h7, .inl (cI, 41, .inl (fun k => iI (y21 k)))), (h8, .inl (cI, 41, .inl (fun k => iI (y22 k)))), (h9, .inl (cJ, 41, .inr (.inl (fun k => lI (y23 k)))))] H := hP
    have hD : va_D A [(h0, .inr (6, [.ref h1, .ref h4, .ref h7, .ref h8, .ref h9, .int (iI y24)])), (h1, .inr (2, [.int (iI wfst), .ref h2, .ref h3, .int (iI y18)])), (h2, .inl (cI, 20, .inl (fun k => iI (y16 k)))), (h3, .inl (cI, 20, .inl (fun k => iI (y17 k)))), (h4, .inr (2, [.int (iI mfst), .ref h5, .ref h6, .int (iI mn)])), (h5, .inl (cI, 20, .inl (fun k => iI (mh k)))), (h6, .inl (cI, 20, .inl (fun k => iI (mv k)))), (h7, .inl (cI, 41, .inl (fun k => iI (y21 k)))), (h8, .inl (cI, 41, .inl (fun k => iI (y22 k)))), (h9, .inl (cJ, 41, .inr (.inl (fun k => lI (y23 k)))))] := hD
    refine W.widen (k := 0) (n := 0) (Nat.le_of_ble_eq_true rfl) (Nat.le_of_ble_eq_true rfl) ?_
    replace v := v y21 y22 y23 y24 hw
    have hP9 := hP.sub (ws' := [(h0, .inr (6, [.ref h1, .ref h4, .ref h7, .ref h8, .ref h9, .int (iI y24)])), (h1, .inr (2, [.int (iI wfst), .ref h2, .ref h3, .int (iI y18)])), (h2, .inl (cI, 20, .inl (fun k => iI (y16 k)))), (h3, .inl (cI, 20, .inl (fun k => iI (y17 k)))), (h4, .inr (2, [.int (iI mfst), .ref h5, .ref h6, .int (iI mn)])), (h5, .inl (cI, 20, .inl (fun k => iI (mh k)))), (h6, .inl (cI, 20, .inl (fun k => iI (mv k)))), (h7, .inl (cI, 41, .inl (fun k => iI (y21 k)))), (h8, .inl (cI, 41, .inl (fun k => iI (y22 k)))), (h9, .inl (cJ, 41, .inr (.inl (fun k => lI (y23 k)))))]) [0, 1, 2, 3, 4, 5, 6, 7, 8, 9] rfl
    have hD9 := hD.sub (ws' := [(h0, .inr (6, [.ref h1, .ref h4, .ref h7, .ref h8, .ref h9, .int (iI y24)])), (h1, .inr (2, [.int (iI wfst), .ref h2, .ref h3, .int (iI y18)])), (h2, .inl (cI, 20, .inl (fun k => iI (y16 k)))), (h3, .inl (cI, 20, .inl (fun k => iI (y17 k)))), (h4, .inr (2, [.int (iI mfst), .ref h5, .ref h6, .int (iI mn)])), (h5, .inl (cI, 20, .inl (fun k => iI (mh k)))), (h6, .inl (cI, 20, .inl (fun k => iI (mv k)))), (h7, .inl (cI, 41, .inl (fun k => iI (y21 k)))), (h8, .inl (cI, 41, .inl (fun k => iI (y22 k)))), (h9, .inl (cJ, 41, .inr (.inl (fun k => lI (y23 k)))))]) [0, 1, 2, 3, 4, 5, 6, 7, 8, 9] (by decide) rfl
    exact W.vret hx hb hr (fun t ht hW => ⟨⟨((y16), (y17), (y18), (y21), (y22), (y23), (y24)), rfl, v, by rw [ht]; exact hP9, va_K.moved hW.alike hK, hD9⟩, hS.F ht⟩) hS.2.2 d_Lp_turn_21

theorem d_Lp_measure_0 : decode prog_8_method_3_code 0 = .ok (.aload_n 0, 1) := by decide +kernel
theorem d_Lp_measure_1 : decode prog_8_method_3_code 1 = .ok (.getfield 20, 3) := by decide +kernel
theorem d_Lp_measure_4 : decode prog_8_method_3_code 4 = .ok (.iload_n 1, 1) := by decide +kernel
theorem d_Lp_measure_5 : decode prog_8_method_3_code 5 = .ok (.iload_n 2, 1) := by decide +kernel
theorem d_Lp_measure_6 : decode prog_8_method_3_code 6 = .ok (.invokevirtual 41, 3) := by decide +kernel
theorem d_Lp_measure_9 : decode prog_8_method_3_code 9 = .ok (.aload_n 0, 1) := by decide +kernel
theorem d_Lp_measure_10 : decode prog_8_method_3_code 10 = .ok (.invokevirtual 38, 3) := by decide +kernel
theorem d_Lp_measure_13 : decode prog_8_method_3_code 13 = .ok (.return_, 1) := by decide +kernel
def vc_Lp_measure (wfst : Int) (wh : Nat → Int) (wv : Nat → Int) (wn : Int) (mfst : Int) (mh : Nat → Int) (mv : Nat → Int) (mn : Int) (ps : Nat → Int) (pl : Nat → Int) (pt : Nat → Int) (np : Int) (hour : Int) (lux : Int) (post : (Nat → Int) → (Nat → Int) → Int → (Nat → Int) → (Nat → Int) → (Nat → Int) → Int → Prop) : Prop := ∃ P1 : (Nat → Int) → (Nat → Int) → Int → Prop, vc_Ch_tell mfst mh mv mn hour lux P1 ∧ ∀ (y3 : Nat → Int) (y4 : Nat → Int) (y5 : Int), P1 y3 y4 y5 → ∃ P6 : (Nat → Int) → (Nat → Int) → (Nat → Int) → Int → Prop, vc_Lp_cut wfst wh wv wn mfst y3 y4 y5 ps pl pt np P6 ∧ ∀ (y8 : Nat → Int) (y9 : Nat → Int) (y10 : Nat → Int) (y11 : Int), P6 y8 y9 y10 y11 → post y3 y4 y5 y8 y9 y10 y11
set_option maxHeartbeats 4000000 in
set_option maxRecDepth 100000 in
theorem m_Lp_measure (l : Launch) (D : va_G) (cI cJ cO cZ : ClassId) (h0 h1 h2 h3 h4 h5 h6 h7 h8 h9 : Nat) (sz : Nat) (wfst : Int) (wh : Nat → Int) (wv : Nat → Int) (wn : Int) (mfst : Int) (mh : Nat → Int) (mv : Nat → Int) (mn : Int) (ps : Nat → Int) (pl : Nat → Int) (pt : Nat → Int) (np : Int) (hour : Int) (lux : Int) (post : (Nat → Int) → (Nat → Int) → Int → (Nat → Int) → (Nat → Int) → (Nat → Int) → Int → Prop) (v : vc_Lp_measure wfst wh wv wn mfst mh mv mn ps pl pt np hour lux post) : Met l ⟨"LightDoses$Lamp", "measure", "(II)V"⟩ (.code ⟨"LightDoses$Lamp", "measure", "(II)V"⟩ prog_8_method_3_code 3 none :: TG) { frames := 3, cells := 0, slots := 0, locals := 69 } (va_Pc [.ref h0, .int (iI hour), .int (iI lux)] (fun U => U.heap.size = sz ∧ va_P D vwCl [(h0, .inr (6, [.ref h1, .ref h4, .ref h7, .ref h8, .ref h9, .int (iI np)])), (h1, .inr (2, [.int (iI wfst), .ref h2, .ref h3, .int (iI wn)])), (h2, .inl (cI, 20, .inl (fun k => iI (wh k)))), (h3, .inl (cI, 20, .inl (fun k => iI (wv k)))), (h4, .inr (2, [.int (iI mfst), .ref h5, .ref h6, .int (iI mn)])), (h5, .inl (cI, 20, .inl (fun k => iI (mh k)))), (h6, .inl (cI, 20, .inl (fun k => iI (mv k)))), (h7, .inl (cI, 41, .inl (fun k => iI (ps k)))), (h8, .inl (cI, 41, .inl (fun k => iI (pl k)))), (h9, .inl (cJ, 41, .inr (.inl (fun k => lI (pt k)))))] U.heap ∧ va_K D vwCl (tyx cI cJ cO cZ) U ∧ va_D (fun _ => True) [(h0, .inr (6, [.ref h1, .ref h4, .ref h7, .ref h8, .ref h9, .int (iI np)])), (h1, .inr (2, [.int (iI wfst), .ref h2, .ref h3, .int (iI wn)])), (h2, .inl (cI, 20, .inl (fun k => iI (wh k)))), (h3, .inl (cI, 20, .inl (fun k => iI (wv k)))), (h4, .inr (2, [.int (iI mfst), .ref h5, .ref h6, .int (iI mn)])), (h5, .inl (cI, 20, .inl (fun k => iI (mh k)))), (h6, .inl (cI, 20, .inl (fun k => iI (mv k)))), (h7, .inl (cI, 41, .inl (fun k => iI (ps k)))), (h8, .inl (cI, 41, .inl (fun k => iI (pl k)))), (h9, .inl (cJ, 41, .inr (.inl (fun k => lI (pt k)))))])) (va_Qv (fun u : (Nat → Int) × (Nat → Int) × Int × (Nat → Int) × (Nat → Int) × (Nat → Int) × Int => post u.1 u.2.1 u.2.2.1 u.2.2.2.1 u.2.2.2.2.1 u.2.2.2.2.2.1 u.2.2.2.2.2.2) (fun u t => va_P D vwCl [(h0, .inr (6, [.ref h1, .ref h4, .ref h7, .ref h8, .ref h9, .int (iI u.2.2.2.2.2.2)])), (h1, .inr (2, [.int (iI wfst), .ref h2, .ref h3, .int (iI wn)])), (h2, .inl (cI, 20, .inl (fun k => iI (wh k)))), (h3, .inl (cI, 20, .inl (fun k => iI (wv k)))), (h4, .inr (2, [.int (iI mfst), .ref h5, .ref h6, .int (iI u.2.2.1)])), (h5, .inl (cI, 20, .inl (fun k => iI (u.1 k)))), (h6, .inl (cI, 20, .inl (fun k => iI (u.2.1 k)))), (h7, .inl (cI, 41, .inl (fun k => iI (u.2.2.2.1 k)))), (h8, .inl (cI, 41, .inl (fun k => iI (u.2.2.2.2.1 k)))), (h9, .inl (cJ, 41, .inr (.inl (fun k => lI (u.2.2.2.2.2.1 k)))))] t.heap ∧ va_K D vwCl (tyx cI cJ cO cZ) t ∧ va_D (va_A [(h0, .inr (6, [.ref h1, .ref h4, .ref h7, .ref h8, .ref h9, .int (iI np)])), (h1, .inr (2, [.int (iI wfst), .ref h2, .ref h3, .int (iI wn)])), (h2, .inl (cI, 20, .inl (fun k => iI (wh k)))), (h3, .inl (cI, 20, .inl (fun k => iI (wv k)))), (h4, .inr (2, [.int (iI mfst), .ref h5, .ref h6, .int (iI mn)])), (h5, .inl (cI, 20, .inl (fun k => iI (mh k)))), (h6, .inl (cI, 20, .inl (fun k => iI (mv k)))), (h7, .inl (cI, 41, .inl (fun k => iI (ps k)))), (h8, .inl (cI, 41, .inl (fun k => iI (pl k)))), (h9, .inl (cJ, 41, .inr (.inl (fun k => lI (pt k)))))] sz) [(h0, .inr (6, [.ref h1, .ref h4, .ref h7, .ref h8, .ref h9, .int (iI u.2.2.2.2.2.2)])), (h1, .inr (2, [.int (iI wfst), .ref h2, .ref h3, .int (iI wn)])), (h2, .inl (cI, 20, .inl (fun k => iI (wh k)))), (h3, .inl (cI, 20, .inl (fun k => iI (wv k)))), (h4, .inr (2, [.int (iI mfst), .ref h5, .ref h6, .int (iI u.2.2.1)])), (h5, .inl (cI, 20, .inl (fun k => iI (u.1 k)))), (h6, .inl (cI, 20, .inl (fun k => iI (u.2.1 k)))), (h7, .inl (cI, 41, .inl (fun k => iI (u.2.2.2.1 k)))), (h8, .inl (cI, 41, .inl (fun k => iI (u.2.2.2.2.1 k)))), (h9, .inl (cJ, 41, .inr (.inl (fun k => lI (u.2.2.2.2.2.1 k)))))]) (va_A [(h0, .inr (6, [.ref h1, .ref h4, .ref h7, .ref h8, .ref h9, .int (iI np)])), (h1, .inr (2, [.int (iI wfst), .ref h2, .ref h3, .int (iI wn)])), (h2, .inl (cI, 20, .inl (fun k => iI (wh k)))), (h3, .inl (cI, 20, .inl (fun k => iI (wv k)))), (h4, .inr (2, [.int (iI mfst), .ref h5, .ref h6, .int (iI mn)])), (h5, .inl (cI, 20, .inl (fun k => iI (mh k)))), (h6, .inl (cI, 20, .inl (fun k => iI (mv k)))), (h7, .inl (cI, 41, .inl (fun k => iI (ps k)))), (h8, .inl (cI, 41, .inl (fun k => iI (pl k)))), (h9, .inl (cJ, 41, .inr (.inl (fun k => lI (pt k)))))] sz)) 0 0 (va_A [(h0, .inr (6, [.ref h1, .ref h4, .ref h7, .ref h8, .ref h9, .int (iI np)])), (h1, .inr (2, [.int (iI wfst), .ref h2, .ref h3, .int (iI wn)])), (h2, .inl (cI, 20, .inl (fun k => iI (wh k)))), (h3, .inl (cI, 20, .inl (fun k => iI (wv k)))), (h4, .inr (2, [.int (iI mfst), .ref h5, .ref h6, .int (iI mn)])), (h5, .inl (cI, 20, .inl (fun k => iI (mh k)))), (h6, .inl (cI, 20, .inl (fun k => iI (mv k)))), (h7, .inl (cI, 41, .inl (fun k => iI (ps k)))), (h8, .inl (cI, 41, .inl (fun k => iI (pl k)))), (h9, .inl (cJ, 41, .inr (.inl (fun k => lI (pt k)))))] sz) := by
  refine Met.ofW (cc := prog_8_method_3_code) (maxL := 3) (ret := none) (by decide) rfl ?_
  intro p e s m args below meth c s₁ B hml hv
  obtain ⟨rfl, hsz, hP, hK, hD0⟩ := hv
  have hx := B.exec
  have hb := B.bytes
  have hr := B.returns
  have hts0 := atoms_spec (ws := (.code ⟨"LightDoses$Lamp", "measure", "(II)V"⟩ prog_8_method_3_code 3 none :: TG)) B.pre
  have hts : ∀ w ∈ TG, w.before _ s = true := fun w h => hts0 w (List.mem_cons_of_mem _ h)
  have hown : s.vm.findClass "LightDoses$Lamp" = some m.cls := findClass_of_methodNamed B.named
  have hlocks := B.notSynchronized
  subst hsz
  have hD := hD0.self (sz := s.heap.size)
  generalize hAe : va_A [(h0, .inr (6, [.ref h1, .ref h4, .ref h7, .ref h8, .ref h9, .int (iI np)])), (h1, .inr (2, [.int (iI wfst), .ref h2, .ref h3, .int (iI wn)])), (h2, .inl (cI, 20, .inl (fun k => iI (wh k)))), (h3, .inl (cI, 20, .inl (fun k => iI (wv k)))), (h4, .inr (2, [.int (iI mfst), .ref h5, .ref h6, .int (iI mn)])), (h5, .inl (cI, 20, .inl (fun k => iI (mh k)))), (h6, .inl (cI, 20, .inl (fun k => iI (mv k)))), (h7, .inl (cI, 41, .inl (fun k => iI (ps k)))), (h8, .inl (cI, 41, .inl (fun k => iI (pl k)))), (h9, .inl (cJ, 41, .inr (.inl (fun k => lI (pt k)))))] s.heap.size = A at hD ⊢
  have hA : ∀ q : Nat, s.heap.size ≤ q → A q := fun q h => by rw [← hAe]; exact Or.inr h
  have hS : va_S A s.heap s.heap [] := va_S.rf
  have hP : va_P D vwCl [(h0, .inr (6, [.ref h1, .ref h4, .ref h7, .ref h8, .ref h9, .int (iI np)])), (h1, .inr (2, [.int (iI wfst), .ref h2, .ref h3, .int (iI wn)])), (h2, .inl (cI, 20, .inl (fun k => iI (wh k)))), (h3, .inl (cI, 20, .inl (fun k => iI (wv k)))), (h4, .inr (2, [.int (iI mfst), .ref h5, .ref h6, .int (iI mn)])), (h5, .inl (cI, 20, .inl (fun k => iI (mh k)))), (h6, .inl (cI, 20, .inl (fun k => iI (mv k)))), (h7, .inl (cI, 41, .inl (fun k => iI (ps k)))), (h8, .inl (cI, 41, .inl (fun k => iI (pl k)))), (h9, .inl (cJ, 41, .inr (.inl (fun k => lI (pt k)))))] s.heap := hP
  have hl := lv_entry ([Value.ref h0, Value.int (iI hour), Value.int (iI lux)]) (n := 3) (Nat.le_of_ble_eq_true rfl)
  rw [lg_entry_eq]
  generalize (lg_sl ([Value.ref h0, Value.int (iI hour), Value.int (iI lux)]) ++ List.replicate (3 - (lg_sl ([Value.ref h0, Value.int (iI hour), Value.int (iI lux)])).length) Slot.unset).toArray = ls at hl ⊢
  have hl : lv_has ls 3 [(0, .ref h0), (1, .int (iI hour)), (2, .int (iI lux))] := hl
  unfold vc_Lp_measure at v
  obtain ⟨H, hH⟩ : ∃ H, H = s.heap := ⟨_, rfl⟩
  obtain ⟨locs, hlc⟩ : ∃ L : List Loc, L = [] := ⟨_, rfl⟩
  rw [← hlc] at hS ⊢
  have hP : va_P D vwCl [(h0, .inr (6, [.ref h1, .ref h4, .ref h7, .ref h8, .ref h9, .int (iI np)])), (h1, .inr (2, [.int (iI wfst), .ref h2, .ref h3, .int (iI wn)])), (h2, .inl (cI, 20, .inl (fun k => iI (wh k)))), (h3, .inl (cI, 20, .inl (fun k => iI (wv k)))), (h4, .inr (2, [.int (iI mfst), .ref h5, .ref h6, .int (iI mn)])), (h5, .inl (cI, 20, .inl (fun k => iI (mh k)))), (h6, .inl (cI, 20, .inl (fun k => iI (mv k)))), (h7, .inl (cI, 41, .inl (fun k => iI (ps k)))), (h8, .inl (cI, 41, .inl (fun k => iI (pl k)))), (h9, .inl (cJ, 41, .inr (.inl (fun k => lI (pt k)))))] H := by rw [hH]; exact hP
  have hS : va_S A s.heap H locs := by rw [hH]; exact hS
  have hW0 : ∀ {X : Heap → Prop}, X H → X s.heap := fun h => by rw [← hH]; exact h
  refine hW0 (X := fun Z => W p l e _ s m _ below meth c Z locs 0 0 _ _) ?_
  refine lv_aload_n hx hb d_Lp_measure_0 rfl (lv_at hl 0 rfl) ?_
  refine va_get (D := D) (ci := 6) (v := .ref h4) (C := "LightDoses$Lamp") (T := T_Lp) (N := 6) hx hb hts in_Lp hown hK hP 0 rfl rfl 1 (by decide) (hts _ wd_511) (fun _ h9 => h9) rfl d_Lp_measure_1 ?_
  refine lv_iload_n hx hb d_Lp_measure_4 rfl (lv_at hl 1 rfl) ?_
  refine lv_iload_n hx hb d_Lp_measure_5 rfl (lv_at hl 2 rfl) ?_
  obtain ⟨P1, q2, v⟩ := v
  have hPc := hP.sub (ws' := [(h4, .inr (2, [.int (iI mfst), .ref h5, .ref h6, .int (iI mn)])), (h5, .inl (cI, 20, .inl (fun k => iI (mh k)))), (h6, .inl (cI, 20, .inl (fun k => iI (mv k))))]) [4, 5, 6] rfl
  have hDc := hD.sub (ws' := [(h4, .inr (2, [.int (iI mfst), .ref h5, .ref h6, .int (iI mn)])), (h5, .inl (cI, 20, .inl (fun k => iI (mh k)))), (h6, .inl (cI, 20, .inl (fun k => iI (mv k))))]) [4, 5, 6] (by decide) rfl
  have hFc := va_free (wc := [(h4, .inr (2, [.int (iI mfst), .ref h5, .ref h6, .int (iI mn)])), (h5, .inl (cI, 20, .inl (fun k => iI (mh k)))), (h6, .inl (cI, 20, .inl (fun k => iI (mv k))))]) hD hS hA [4, 5, 6] rfl
  refine va_callv (va_runV (As := [.int (iI hour), .int (iI lux)]) (rest := []) ⟨hx, hb, hml, hown, hts⟩ (m_Ch_tell l D cI cJ cO cZ h4 h5 h6 H.size mfst mh mv mn hour lux P1 q2) (nv_cwV (n := 2) hts wd_587 wd_588 wd_589 wd_22 wd_590 (by decide +kernel) ⟨Nat.le_of_ble_eq_true rfl, Nat.le_of_ble_eq_true rfl⟩) ⟨blW, va_recv hK hPc (ci := 2) (q0 := 0) rfl rfl, fun U hU hW => ⟨rfl, by rw [hU], by rw [hU]; exact hPc, va_K.moved hW.alike hK, hDc.weaken (fun _ _ _ _ => trivial)⟩⟩ rfl rfl hl.1 rfl (lv_room (Nat.le_of_ble_eq_true rfl)) d_Lp_measure_6 ⟨Nat.le_of_ble_eq_true rfl, Nat.le_of_ble_eq_true rfl⟩) hS (fun q _ h => hFc q h) hFc (fun u t H1 locs ht hvm hw hB hz1 hk1 hS => ?_)
  obtain ⟨y3, y4, y5⟩ := u
  obtain ⟨hP1, hK1, hD1⟩ := hB
  rw [ht] at hP1
  obtain ⟨hP, hD⟩ := va_join (wr := [(h0, .inr (6, [.ref h1, .ref h4, .ref h7, .ref h8, .ref h9, .int (iI np)])), (h1, .inr (2, [.int (iI wfst), .ref h2, .ref h3, .int (iI wn)])), (h2, .inl (cI, 20, .inl (fun k => iI (wh k)))), (h3, .inl (cI, 20, .inl (fun k => iI (wv k)))), (h7, .inl (cI, 41, .inl (fun k => iI (ps k)))), (h8, .inl (cI, 41, .inl (fun k => iI (pl k)))), (h9, .inl (cJ, 41, .inr (.inl (fun k => lI (pt k)))))]) (w1 := [(h4, .inr (2, [.int (iI mfst), .ref h5, .ref h6, .int (iI y5)])), (h5, .inl (cI, 20, .inl (fun k => iI (y3 k)))), (h6, .inl (cI, 20, .inl (fun k => iI (y4 k))))]) hP hD [4, 5, 6] [0, 1, 2, 3, 7, 8, 9] rfl rfl (by decide) (by decide) hk1 hFc hP1 hD1
  generalize H1 = H at hP hS ⊢
  have hP : va_P D vwCl [(h0, .inr (6, [.ref h1, .ref h4, .ref h7, .ref h8, .ref h9, .int (iI np)])), (h1, .inr (2, [.int (iI wfst), .ref h2, .ref h3, .int (iI wn)])), (h2, .inl (cI, 20, .inl (fun k => iI (wh k)))), (h3, .inl (cI, 20, .inl (fun k => iI (wv k)))), (h7, .inl (cI, 41, .inl (fun k => iI (ps k)))), (h8, .inl (cI, 41, .inl (fun k => iI (pl k)))), (h9, .inl (cJ, 41, .inr (.inl (fun k => lI (pt k))))), (h4, .inr (2, [.int (iI mfst), .ref h5, .ref h6, .int (iI y5)])), (h5, .inl (cI, 20, .inl (fun k => iI (y3 k)))), (h6, .inl (cI, 20, .inl (fun k => iI (y4 k))))] H := hP
  have hD : va_D A [(h0, .inr (6, [.ref h1, .ref h4, .ref h7, .ref h8, .ref h9, .int (iI np)])), (h1, .inr (2, [.int (iI wfst), .ref h2, .ref h3, .int (iI wn)])), (h2, .inl (cI, 20, .inl (fun k => iI (wh k)))), (h3, .inl (cI, 20, .inl (fun k => iI (wv k)))), (h7, .inl (cI, 41, .inl (fun k => iI (ps k)))), (h8, .inl (cI, 41, .inl (fun k => iI (pl k)))), (h9, .inl (cJ, 41, .inr (.inl (fun k => lI (pt k))))), (h4, .inr (2, [.int (iI mfst), .ref h5, .ref h6, .int (iI y5)])), (h5, .inl (cI, 20, .inl (fun k => iI (y3 k)))), (h6, .inl (cI, 20, .inl (fun k => iI (y4 k))))] := hD
  refine W.widen (k := 0) (n := 0) (Nat.le_of_ble_eq_true rfl) (Nat.le_of_ble_eq_true rfl) ?_
  replace v := v y3 y4 y5 hw
  refine lv_aload_n hx hb d_Lp_measure_9 rfl (lv_at hl 0 rfl) ?_
  obtain ⟨P6, q7, v⟩ := v
  have hPc := hP.sub (ws' := [(h0, .inr (6, [.ref h1, .ref h4, .ref h7, .ref h8, .ref h9, .int (iI np)])), (h1, .inr (2, [.int (iI wfst), .ref h2, .ref h3, .int (iI wn)])), (h2, .inl (cI, 20, .inl (fun k => iI (wh k)))), (h3, .inl (cI, 20, .inl (fun k => iI (wv k)))), (h4, .inr (2, [.int (iI mfst), .ref h5, .ref h6, .int (iI y5)])), (h5, .inl (cI, 20, .inl (fun k => iI (y3 k)))), (h6, .inl (cI, 20, .inl (fun k => iI (y4 k)))), (h7, .inl (cI, 41, .inl (fun k => iI (ps k)))), (h8, .inl (cI, 41, .inl (fun k => iI (pl k)))), (h9, .inl (cJ, 41, .inr (.inl (fun k => lI (pt k)))))]) [0, 1, 2, 3, 7, 8, 9, 4, 5, 6] rfl
  have hDc := hD.sub (ws' := [(h0, .inr (6, [.ref h1, .ref h4, .ref h7, .ref h8, .ref h9, .int (iI np)])), (h1, .inr (2, [.int (iI wfst), .ref h2, .ref h3, .int (iI wn)])), (h2, .inl (cI, 20, .inl (fun k => iI (wh k)))), (h3, .inl (cI, 20, .inl (fun k => iI (wv k)))), (h4, .inr (2, [.int (iI mfst), .ref h5, .ref h6, .int (iI y5)])), (h5, .inl (cI, 20, .inl (fun k => iI (y3 k)))), (h6, .inl (cI, 20, .inl (fun k => iI (y4 k)))), (h7, .inl (cI, 41, .inl (fun k => iI (ps k)))), (h8, .inl (cI, 41, .inl (fun k => iI (pl k)))), (h9, .inl (cJ, 41, .inr (.inl (fun k => lI (pt k)))))]) [0, 1, 2, 3, 7, 8, 9, 4, 5, 6] (by decide) rfl
  have hFc := va_free (wc := [(h0, .inr (6, [.ref h1, .ref h4, .ref h7, .ref h8, .ref h9, .int (iI np)])), (h1, .inr (2, [.int (iI wfst), .ref h2, .ref h3, .int (iI wn)])), (h2, .inl (cI, 20, .inl (fun k => iI (wh k)))), (h3, .inl (cI, 20, .inl (fun k => iI (wv k)))), (h4, .inr (2, [.int (iI mfst), .ref h5, .ref h6, .int (iI y5)])), (h5, .inl (cI, 20, .inl (fun k => iI (y3 k)))), (h6, .inl (cI, 20, .inl (fun k => iI (y4 k)))), (h7, .inl (cI, 41, .inl (fun k => iI (ps k)))), (h8, .inl (cI, 41, .inl (fun k => iI (pl k)))), (h9, .inl (cJ, 41, .inr (.inl (fun k => lI (pt k)))))]) hD hS hA [0, 1, 2, 3, 7, 8, 9, 4, 5, 6] rfl
  refine va_callv (va_runV (As := []) (rest := []) ⟨hx, hb, hml, hown, hts⟩ (m_Lp_cut l D cI cJ cO cZ h0 h1 h2 h3 h4 h5 h6 h7 h8 h9 H.size wfst wh wv wn mfst y3 y4 y5 ps pl pt np P6 q7) (nv_cwV (n := 0) hts wd_492 wd_494 sl_12 wd_21 wd_495 (by decide +kernel) ⟨Nat.le_of_ble_eq_true rfl, Nat.le_of_ble_eq_true rfl⟩) ⟨blW, va_recv hK hPc (ci := 6) (q0 := 0) rfl rfl, fun U hU hW => ⟨rfl, by rw [hU], by rw [hU]; exact hPc, va_K.moved hW.alike hK, hDc.weaken (fun _ _ _ _ => trivial)⟩⟩ rfl rfl hl.1 rfl (lv_room (Nat.le_of_ble_eq_true rfl)) d_Lp_measure_10 ⟨Nat.le_of_ble_eq_true rfl, Nat.le_of_ble_eq_true rfl⟩) hS (fun q _ h => hFc q h) hFc (fun u t H1 locs ht hvm hw hB hz1 hk1 hS => ?_)
  obtain ⟨y8, y9, y10, y11⟩ := u
  obtain ⟨hP1, hK1, hD1⟩ := hB
  rw [ht] at hP1
  obtain ⟨hP, hD⟩ := va_join (wr := []) (w1 := [(h0, .inr (6, [.ref h1, .ref h4, .ref h7, .ref h8, .ref h9, .int (iI y11)])), (h1, .inr (2, [.int (iI wfst), .ref h2, .ref h3, .int (iI wn)])), (h2, .inl (cI, 20, .inl (fun k => iI (wh k)))), (h3, .inl (cI, 20, .inl (fun k => iI (wv k)))), (h4, .inr (2, [.int (iI mfst), .ref h5, .ref h6, .int (iI y5)])), (h5, .inl (cI, 20, .inl (fun k => iI (y3 k)))), (h6, .inl (cI, 20, .inl (fun k => iI (y4 k)))), (h7, .inl (cI, 41, .inl (fun k => iI (y8 k)))), (h8, .inl (cI, 41, .inl (fun k => iI (y9 k)))), (h9, .inl (cJ, 41, .inr (.inl (fun k => lI (y10 k)))))]) hP hD [0, 1, 2, 3, 7, 8, 9, 4, 5, 6] [] rfl rfl (by decide) (by decide) hk1 hFc hP1 hD1
  generalize H1 = H at hP hS ⊢
  have hP : va_P D vwCl [(h0, .inr (6, [.ref h1, .ref h4, .ref h7, .ref h8, .ref h9, .int (iI y11)])), (h1, .inr (2, [.int (iI wfst), .ref h2, .ref h3, .int (iI wn)])), (h2, .inl (cI, 20, .inl (fun k => iI (wh k)))), (h3, .inl (cI, 20, .inl (fun k => iI (wv k)))), (h4, .inr (2, [.int (iI mfst), .ref h5, .ref h6, .int (iI y5)])), (h5, .inl (cI, 20, .inl (fun k => iI (y3 k)))), (h6, .inl (cI, 20, .inl (fun k => iI (y4 k)))), (h7, .inl (cI, 41, .inl (fun k => iI (y8 k)))), (h8, .inl (cI, 41, .inl (fun k => iI (y9 k)))), (h9, .inl (cJ, 41, .inr (.inl (fun k => lI (y10 k)))))] H := hP
  have hD : va_D A [(h0, .inr (6, [.ref h1, .ref h4, .ref h7, .ref h8, .ref h9, .int (iI y11)])), (h1, .inr (2, [.int (iI wfst), .ref h2, .ref h3, .int (iI wn)])), (h2, .inl (cI, 20, .inl (fun k => iI (wh k)))), (h3, .inl (cI, 20, .inl (fun k => iI (wv k)))), (h4, .inr (2, [.int (iI mfst), .ref h5, .ref h6, .int (iI y5)])), (h5, .inl (cI, 20, .inl (fun k => iI (y3 k)))), (h6, .inl (cI, 20, .inl (fun k => iI (y4 k)))), (h7, .inl (cI, 41, .inl (fun k => iI (y8 k)))), (h8, .inl (cI, 41, .inl (fun k => iI (y9 k)))), (h9, .inl (cJ, 41, .inr (.inl (fun k => lI (y10 k)))))] := hD
  refine W.widen (k := 0) (n := 0) (Nat.le_of_ble_eq_true rfl) (Nat.le_of_ble_eq_true rfl) ?_
  replace v := v y8 y9 y10 y11 hw
  have hP9 := hP.sub (ws' := [(h0, .inr (6, [.ref h1, .ref h4, .ref h7, .ref h8, .ref h9, .int (iI y11)])), (h1, .inr (2, [.int (iI wfst), .ref h2, .ref h3, .int (iI wn)])), (h2, .inl (cI, 20, .inl (fun k => iI (wh k)))), (h3, .inl (cI, 20, .inl (fun k => iI (wv k)))), (h4, .inr (2, [.int (iI mfst), .ref h5, .ref h6, .int (iI y5)])), (h5, .inl (cI, 20, .inl (fun k => iI (y3 k)))), (h6, .inl (cI, 20, .inl (fun k => iI (y4 k)))), (h7, .inl (cI, 41, .inl (fun k => iI (y8 k)))), (h8, .inl (cI, 41, .inl (fun k => iI (y9 k)))), (h9, .inl (cJ, 41, .inr (.inl (fun k => lI (y10 k)))))]) [0, 1, 2, 3, 4, 5, 6, 7, 8, 9] rfl
  have hD9 := hD.sub (ws' := [(h0, .inr (6, [.ref h1, .ref h4, .ref h7, .ref h8, .ref h9, .int (iI y11)])), (h1, .inr (2, [.int (iI wfst), .ref h2, .ref h3, .int (iI wn)])), (h2, .inl (cI, 20, .inl (fun k => iI (wh k)))), (h3, .inl (cI, 20, .inl (fun k => iI (wv k)))), (h4, .inr (2, [.int (iI mfst), .ref h5, .ref h6, .int (iI y5)])), (h5, .inl (cI, 20, .inl (fun k => iI (y3 k)))), (h6, .inl (cI, 20, .inl (fun k => iI (y4 k)))), (h7, .inl (cI, 41, .inl (fun k => iI (y8 k)))), (h8, .inl (cI, 41, .inl (fun k => iI (y9 k)))), (h9, .inl (cJ, 41, .inr (.inl (fun k => lI (y10 k)))))]) [0, 1, 2, 3, 4, 5, 6, 7, 8, 9] (by decide) rfl
  exact W.vret hx hb hr (fun t ht hW => ⟨⟨((y3), (y4), (y5), (y8), (y9), (y10), (y11)), rfl, v, by rw [ht]; exact hP9, va_K.moved hW.alike hK, hD9⟩, hS.F ht⟩) hS.2.2 d_Lp_measure_13

theorem d_Lp_init_0 : decode prog_8_method_1_code 0 = .ok (.aload_n 0, 1) := by decide +kernel
theorem d_Lp_init_1 : decode prog_8_method_1_code 1 = .ok (.invokespecial 3, 3) := by decide +kernel
theorem d_Lp_init_4 : decode prog_8_method_1_code 4 = .ok (.aload_n 0, 1) := by decide +kernel
theorem d_Lp_init_5 : decode prog_8_method_1_code 5 = .ok (.new 9, 3) := by decide +kernel
theorem d_Lp_init_8 : decode prog_8_method_1_code 8 = .ok (.dup, 1) := by decide +kernel
theorem d_Lp_init_9 : decode prog_8_method_1_code 9 = .ok (.iconst 1, 1) := by decide +kernel
theorem d_Lp_init_10 : decode prog_8_method_1_code 10 = .ok (.invokespecial 13, 3) := by decide +kernel
theorem d_Lp_init_13 : decode prog_8_method_1_code 13 = .ok (.putfield 16, 3) := by decide +kernel
theorem d_Lp_init_16 : decode prog_8_method_1_code 16 = .ok (.aload_n 0, 1) := by decide +kernel
theorem d_Lp_init_17 : decode prog_8_method_1_code 17 = .ok (.new 9, 3) := by decide +kernel
theorem d_Lp_init_20 : decode prog_8_method_1_code 20 = .ok (.dup, 1) := by decide +kernel
theorem d_Lp_init_21 : decode prog_8_method_1_code 21 = .ok (.iload_n 1, 1) := by decide +kernel
theorem d_Lp_init_22 : decode prog_8_method_1_code 22 = .ok (.invokespecial 13, 3) := by decide +kernel
theorem d_Lp_init_25 : decode prog_8_method_1_code 25 = .ok (.putfield 20, 3) := by decide +kernel
theorem d_Lp_init_28 : decode prog_8_method_1_code 28 = .ok (.aload_n 0, 1) := by decide +kernel
theorem d_Lp_init_29 : decode prog_8_method_1_code 29 = .ok (.bipush 41, 2) := by decide +kernel
theorem d_Lp_init_31 : decode prog_8_method_1_code 31 = .ok (.newarray .int, 2) := by decide +kernel
theorem d_Lp_init_33 : decode prog_8_method_1_code 33 = .ok (.putfield 23, 3) := by decide +kernel
theorem d_Lp_init_36 : decode prog_8_method_1_code 36 = .ok (.aload_n 0, 1) := by decide +kernel
theorem d_Lp_init_37 : decode prog_8_method_1_code 37 = .ok (.bipush 41, 2) := by decide +kernel
theorem d_Lp_init_39 : decode prog_8_method_1_code 39 = .ok (.newarray .int, 2) := by decide +kernel
theorem d_Lp_init_41 : decode prog_8_method_1_code 41 = .ok (.putfield 27, 3) := by decide +kernel
theorem d_Lp_init_44 : decode prog_8_method_1_code 44 = .ok (.aload_n 0, 1) := by decide +kernel
theorem d_Lp_init_45 : decode prog_8_method_1_code 45 = .ok (.bipush 41, 2) := by decide +kernel
theorem d_Lp_init_47 : decode prog_8_method_1_code 47 = .ok (.newarray .long, 2) := by decide +kernel
theorem d_Lp_init_49 : decode prog_8_method_1_code 49 = .ok (.putfield 30, 3) := by decide +kernel
theorem d_Lp_init_52 : decode prog_8_method_1_code 52 = .ok (.aload_n 0, 1) := by decide +kernel
theorem d_Lp_init_53 : decode prog_8_method_1_code 53 = .ok (.iconst 0, 1) := by decide +kernel
theorem d_Lp_init_54 : decode prog_8_method_1_code 54 = .ok (.putfield 34, 3) := by decide +kernel
theorem d_Lp_init_57 : decode prog_8_method_1_code 57 = .ok (.aload_n 0, 1) := by decide +kernel
theorem d_Lp_init_58 : decode prog_8_method_1_code 58 = .ok (.invokevirtual 38, 3) := by decide +kernel
theorem d_Lp_init_61 : decode prog_8_method_1_code 61 = .ok (.return_, 1) := by decide +kernel
def vc_Lp_init (lux0 : Int) (post : Int → (Nat → Int) → (Nat → Int) → Int → Int → (Nat → Int) → (Nat → Int) → Int → (Nat → Int) → (Nat → Int) → (Nat → Int) → Int → Prop) : Prop := ∃ P2 : Int → (Nat → Int) → (Nat → Int) → Int → Prop, vc_Ch_init 1 P2 ∧ ∀ (y4 : Int) (y5 : Nat → Int) (y6 : Nat → Int) (y7 : Int), P2 y4 y5 y6 y7 → ∃ P11 : Int → (Nat → Int) → (Nat → Int) → Int → Prop, vc_Ch_init lux0 P11 ∧ ∀ (y13 : Int) (y14 : Nat → Int) (y15 : Nat → Int) (y16 : Int), P11 y13 y14 y15 y16 → ∃ P22 : (Nat → Int) → (Nat → Int) → (Nat → Int) → Int → Prop, vc_Lp_cut y4 y5 y6 y7 y13 y14 y15 y16 (fun _ => 0) (fun _ => 0) (fun _ => 0) 0 P22 ∧ ∀ (y24 : Nat → Int) (y25 : Nat → Int) (y26 : Nat → Int) (y27 : Int), P22 y24 y25 y26 y27 → post y4 y5 y6 y7 y13 y14 y15 y16 y24 y25 y26 y27
set_option maxHeartbeats 4000000 in
set_option maxRecDepth 100000 in
theorem m_Lp_init (l : Launch) (D : va_G) (cI cJ cO cZ : ClassId) (h0 : Nat) (sz : Nat) (lux0 : Int) (post : Int → (Nat → Int) → (Nat → Int) → Int → Int → (Nat → Int) → (Nat → Int) → Int → (Nat → Int) → (Nat → Int) → (Nat → Int) → Int → Prop) (v : vc_Lp_init lux0 post) : Met l ⟨"LightDoses$Lamp", "<init>", "(I)V"⟩ (.code ⟨"LightDoses$Lamp", "<init>", "(I)V"⟩ prog_8_method_1_code 2 none :: TG) { frames := 3, cells := 9, slots := 211, locals := 69 } (va_Pc [.ref h0, .int (iI lux0)] (fun U => U.heap.size = sz ∧ va_P D vwCl [(h0, .inr (6, [.null, .null, .null, .null, .null, .int (iI 0)]))] U.heap ∧ va_K D vwCl (tyx cI cJ cO cZ) U ∧ va_D (fun _ => True) [(h0, .inr (6, [.null, .null, .null, .null, .null, .int (iI 0)]))])) (va_Qv (fun u : Int × (Nat → Int) × (Nat → Int) × Int × Int × (Nat → Int) × (Nat → Int) × Int × (Nat → Int) × (Nat → Int) × (Nat → Int) × Int => post u.1 u.2.1 u.2.2.1 u.2.2.2.1 u.2.2.2.2.1 u.2.2.2.2.2.1 u.2.2.2.2.2.2.1 u.2.2.2.2.2.2.2.1 u.2.2.2.2.2.2.2.2.1 u.2.2.2.2.2.2.2.2.2.1 u.2.2.2.2.2.2.2.2.2.2.1 u.2.2.2.2.2.2.2.2.2.2.2) (fun u t => ∃ (h1 h2 h3 h4 h5 h6 h7 h8 h9 : Nat), va_P D vwCl [(h0, .inr (6, [.ref h1, .ref h4, .ref h7, .ref h8, .ref h9, .int (iI u.2.2.2.2.2.2.2.2.2.2.2)])), (h1, .inr (2, [.int (iI u.1), .ref h2, .ref h3, .int (iI u.2.2.2.1)])), (h2, .inl (cI, 20, .inl (fun k => iI (u.2.1 k)))), (h3, .inl (cI, 20, .inl (fun k => iI (u.2.2.1 k)))), (h4, .inr (2, [.int (iI u.2.2.2.2.1), .ref h5, .ref h6, .int (iI u.2.2.2.2.2.2.2.1)])), (h5, .inl (cI, 20, .inl (fun k => iI (u.2.2.2.2.2.1 k)))), (h6, .inl (cI, 20, .inl (fun k => iI (u.2.2.2.2.2.2.1 k)))), (h7, .inl (cI, 41, .inl (fun k => iI (u.2.2.2.2.2.2.2.2.1 k)))), (h8, .inl (cI, 41, .inl (fun k => iI (u.2.2.2.2.2.2.2.2.2.1 k)))), (h9, .inl (cJ, 41, .inr (.inl (fun k => lI (u.2.2.2.2.2.2.2.2.2.2.1 k)))))] t.heap ∧ va_K D vwCl (tyx cI cJ cO cZ) t ∧ va_D (va_A [(h0, .inr (6, [.null, .null, .null, .null, .null, .int (iI 0)]))] sz) [(h0, .inr (6, [.ref h1, .ref h4, .ref h7, .ref h8, .ref h9, .int (iI u.2.2.2.2.2.2.2.2.2.2.2)])), (h1, .inr (2, [.int (iI u.1), .ref h2, .ref h3, .int (iI u.2.2.2.1)])), (h2, .inl (cI, 20, .inl (fun k => iI (u.2.1 k)))), (h3, .inl (cI, 20, .inl (fun k => iI (u.2.2.1 k)))), (h4, .inr (2, [.int (iI u.2.2.2.2.1), .ref h5, .ref h6, .int (iI u.2.2.2.2.2.2.2.1)])), (h5, .inl (cI, 20, .inl (fun k => iI (u.2.2.2.2.2.1 k)))), (h6, .inl (cI, 20, .inl (fun k => iI (u.2.2.2.2.2.2.1 k)))), (h7, .inl (cI, 41, .inl (fun k => iI (u.2.2.2.2.2.2.2.2.1 k)))), (h8, .inl (cI, 41, .inl (fun k => iI (u.2.2.2.2.2.2.2.2.2.1 k)))), (h9, .inl (cJ, 41, .inr (.inl (fun k => lI (u.2.2.2.2.2.2.2.2.2.2.1 k)))))]) (va_A [(h0, .inr (6, [.null, .null, .null, .null, .null, .int (iI 0)]))] sz)) 9 211 (va_A [(h0, .inr (6, [.null, .null, .null, .null, .null, .int (iI 0)]))] sz) := by
  refine Met.ofW (cc := prog_8_method_1_code) (maxL := 2) (ret := none) (by decide) rfl ?_
  intro p e s m args below meth c s₁ B hml hv
  obtain ⟨rfl, hsz, hP, hK, hD0⟩ := hv
  have hx := B.exec
  have hb := B.bytes
  have hr := B.returns
  have hts0 := atoms_spec (ws := (.code ⟨"LightDoses$Lamp", "<init>", "(I)V"⟩ prog_8_method_1_code 2 none :: TG)) B.pre
  have hts : ∀ w ∈ TG, w.before _ s = true := fun w h => hts0 w (List.mem_cons_of_mem _ h)
  have hown : s.vm.findClass "LightDoses$Lamp" = some m.cls := findClass_of_methodNamed B.named
  have hlocks := B.notSynchronized
  have hin : meth.name = "<init>" := (name_of_methodNamed B.named B.method).1
  subst hsz
  have hD := hD0.self (sz := s.heap.size)
  generalize hAe : va_A [(h0, .inr (6, [.null, .null, .null, .null, .null, .int (iI 0)]))] s.heap.size = A at hD ⊢
  have hA : ∀ q : Nat, s.heap.size ≤ q → A q := fun q h => by rw [← hAe]; exact Or.inr h
  have hS : va_S A s.heap s.heap [] := va_S.rf
  have hP : va_P D vwCl [(h0, .inr (6, [.null, .null, .null, .null, .null, .int (iI 0)]))] s.heap := hP
  have hl := lv_entry ([Value.ref h0, Value.int (iI lux0)]) (n := 2) (Nat.le_of_ble_eq_true rfl)
  rw [lg_entry_eq]
  generalize (lg_sl ([Value.ref h0, Value.int (iI lux0)]) ++ List.replicate (2 - (lg_sl ([Value.ref h0, Value.int (iI lux0)])).length) Slot.unset).toArray = ls at hl ⊢
  have hl : lv_has ls 2 [(0, .ref h0), (1, .int (iI lux0))] := hl
  unfold vc_Lp_init at v
  obtain ⟨H, hH⟩ : ∃ H, H = s.heap := ⟨_, rfl⟩
  obtain ⟨locs, hlc⟩ : ∃ L : List Loc, L = [] := ⟨_, rfl⟩
  rw [← hlc] at hS ⊢
  have hP : va_P D vwCl [(h0, .inr (6, [.null, .null, .null, .null, .null, .int (iI 0)]))] H := by rw [hH]; exact hP
  have hS : va_S A s.heap H locs := by rw [hH]; exact hS
  have hW0 : ∀ {X : Heap → Prop}, X H → X s.heap := fun h => by rw [← hH]; exact h
  refine hW0 (X := fun Z => W p l e _ s m _ below meth c Z locs 0 0 _ _) ?_
  refine lv_aload_n hx hb d_Lp_init_0 rfl (lv_at hl 0 rfl) ?_
  refine W.objInit hx hb hown (hts _ wd_471) (hts _ wd_31) (hts _ wd_32) rfl (by rw [hml]; exact hl.1) rfl d_Lp_init_1 (Nat.le_of_ble_eq_true rfl) (Nat.le_of_ble_eq_true rfl) ?_
  refine W.eq (g2 := F0 m 4 ls []) rfl ?_
  refine lv_aload_n hx hb d_Lp_init_4 rfl (lv_at hl 0 rfl) ?_
  refine va_new (ci := 2) (fs := [.int (iI 0), .null, .null, .int (iI 0)]) (C := "LightDoses$Changes") (T := T_Ch) (N := 4) hx hb hts in_Ch t_Ch tok_Ch hown (hts _ wd_472) (hts _ wd_473) (hts _ wd_22) hK hP hD hS hA rfl (fun j hj => match j, hj with | 0, _ => rfl | 1, _ => rfl | 2, _ => rfl | 3, _ => rfl) (Nat.le_of_ble_eq_true rfl) (Nat.le_of_ble_eq_true rfl) d_Lp_init_5 (fun q1 H hP hD hS => ?_)
  have hP : va_P D vwCl [(h0, .inr (6, [.null, .null, .null, .null, .null, .int (iI 0)])), (q1, .inr (2, [.int (iI 0), .null, .null, .int (iI 0)]))] H := hP
  have hD : va_D A [(h0, .inr (6, [.null, .null, .null, .null, .null, .int (iI 0)])), (q1, .inr (2, [.int (iI 0), .null, .null, .int (iI 0)]))] := hD
  refine W.widen (k := 1) (n := 4) (Nat.le_of_ble_eq_true rfl) (Nat.le_of_ble_eq_true rfl) ?_
  refine lv_dup hx hb d_Lp_init_8 rfl ?_
  refine nv_iconst (n := 1) hx hb d_Lp_init_9 ?_
  obtain ⟨P2, q3, v⟩ := v
  have hPc := hP.sub (ws' := [(q1, .inr (2, [.int (iI 0), .null, .null, .int (iI 0)]))]) [1] rfl
  have hDc := hD.sub (ws' := [(q1, .inr (2, [.int (iI 0), .null, .null, .int (iI 0)]))]) [1] (by decide) rfl
  have hFc := va_free (wc := [(q1, .inr (2, [.int (iI 0), .null, .null, .int (iI 0)]))]) hD hS hA [1] rfl
  refine va_callv (va_runI (As := [.int (iI 1)]) (rest := [.ref q1, .ref h0]) ⟨hx, hb, hml, hown, hts⟩ (m_Ch_init l D cI cJ cO cZ q1 H.size 1 P2 q3) (cwI 1 hts (tg_good wd_476) rfl rfl rfl (hts _ wd_22) (hts _ wd_474) (hts _ wd_475) rfl (by decide +kernel) ⟨Nat.le_of_ble_eq_true rfl, Nat.le_of_ble_eq_true rfl⟩) ⟨blW, fun U hU hW => ⟨rfl, by rw [hU], by rw [hU]; exact hPc, va_K.moved hW.alike hK, hDc.weaken (fun _ _ _ _ => trivial)⟩⟩ rfl rfl hl.1 rfl (lv_room (Nat.le_of_ble_eq_true rfl)) d_Lp_init_10 ⟨Nat.le_of_ble_eq_true rfl, Nat.le_of_ble_eq_true rfl⟩) hS (fun q _ h => hFc q h) hFc (fun u t H1 locs ht hvm hw hB hz1 hk1 hS => ?_)
  obtain ⟨y4, y5, y6, y7⟩ := u
  obtain ⟨a8, a9, hP1, hK1, hD1⟩ := hB
  rw [ht] at hP1
  obtain ⟨hP, hD⟩ := va_join (wr := [(h0, .inr (6, [.null, .null, .null, .null, .null, .int (iI 0)]))]) (w1 := [(q1, .inr (2, [.int (iI y4), .ref a8, .ref a9, .int (iI y7)])), (a8, .inl (cI, 20, .inl (fun k => iI (y5 k)))), (a9, .inl (cI, 20, .inl (fun k => iI (y6 k))))]) hP hD [1] [0] rfl rfl (by decide) (by decide) hk1 hFc hP1 hD1
  generalize H1 = H at hP hS ⊢
  have hP : va_P D vwCl [(h0, .inr (6, [.null, .null, .null, .null, .null, .int (iI 0)])), (q1, .inr (2, [.int (iI y4), .ref a8, .ref a9, .int (iI y7)])), (a8, .inl (cI, 20, .inl (fun k => iI (y5 k)))), (a9, .inl (cI, 20, .inl (fun k => iI (y6 k))))] H := hP
  have hD : va_D A [(h0, .inr (6, [.null, .null, .null, .null, .null, .int (iI 0)])), (q1, .inr (2, [.int (iI y4), .ref a8, .ref a9, .int (iI y7)])), (a8, .inl (cI, 20, .inl (fun k => iI (y5 k)))), (a9, .inl (cI, 20, .inl (fun k => iI (y6 k))))] := hD
  refine W.widen (k := 3) (n := 44) (Nat.le_of_ble_eq_true rfl) (Nat.le_of_ble_eq_true rfl) ?_
  replace v := v y4 y5 y6 y7 hw
  refine va_putF (D := D) (ci := 6) (v := .ref q1) (ty := .object "LightDoses$Changes") (C := "LightDoses$Lamp") (T := T_Lp) (N := 6) hx hb hts in_Lp t_Lp tok_Lp n_Lp hown hK hP hD hS 0 rfl rfl 0 (by decide) (hts _ wd_509) (fun _ h9 => h9) rfl hin rfl (by decide +kernel) rfl rfl (Nat.le_of_ble_eq_true rfl) d_Lp_init_13 (fun H locs hP hD hS => ?_)
  have hP : va_P D vwCl [(h0, .inr (6, [.ref q1, .null, .null, .null, .null, .int (iI 0)])), (q1, .inr (2, [.int (iI y4), .ref a8, .ref a9, .int (iI y7)])), (a8, .inl (cI, 20, .inl (fun k => iI (y5 k)))), (a9, .inl (cI, 20, .inl (fun k => iI (y6 k))))] H := hP
  have hD : va_D A [(h0, .inr (6, [.ref q1, .null, .null, .null, .null, .int (iI 0)])), (q1, .inr (2, [.int (iI y4), .ref a8, .ref a9, .int (iI y7)])), (a8, .inl (cI, 20, .inl (fun k => iI (y5 k)))), (a9, .inl (cI, 20, .inl (fun k => iI (y6 k))))] := hD
  refine lv_aload_n hx hb d_Lp_init_16 rfl (lv_at hl 0 rfl) ?_
  refine va_new (ci := 2) (fs := [.int (iI 0), .null, .null, .int (iI 0)]) (C := "LightDoses$Changes") (T := T_Ch) (N := 4) hx hb hts in_Ch t_Ch tok_Ch hown (hts _ wd_472) (hts _ wd_473) (hts _ wd_22) hK hP hD hS hA rfl (fun j hj => match j, hj with | 0, _ => rfl | 1, _ => rfl | 2, _ => rfl | 3, _ => rfl) (Nat.le_of_ble_eq_true rfl) (Nat.le_of_ble_eq_true rfl) d_Lp_init_17 (fun q10 H hP hD hS => ?_)
  have hP : va_P D vwCl [(h0, .inr (6, [.ref q1, .null, .null, .null, .null, .int (iI 0)])), (q1, .inr (2, [.int (iI y4), .ref a8, .ref a9, .int (iI y7)])), (a8, .inl (cI, 20, .inl (fun k => iI (y5 k)))), (a9, .inl (cI, 20, .inl (fun k => iI (y6 k)))), (q10, .inr (2, [.int (iI 0), .null, .null, .int (iI 0)]))] H := hP
  have hD : va_D A [(h0, .inr (6, [.ref q1, .null, .null, .null, .null, .int (iI 0)])), (q1, .inr (2, [.int (iI y4), .ref a8, .ref a9, .int (iI y7)])), (a8, .inl (cI, 20, .inl (fun k => iI (y5 k)))), (a9, .inl (cI, 20, .inl (fun k => iI (y6 k)))), (q10, .inr (2, [.int (iI 0), .null, .null, .int (iI 0)]))] := hD
  refine W.widen (k := 4) (n := 48) (Nat.le_of_ble_eq_true rfl) (Nat.le_of_ble_eq_true rfl) ?_
  refine lv_dup hx hb d_Lp_init_20 rfl ?_
  refine lv_iload_n hx hb d_Lp_init_21 rfl (lv_at hl 1 rfl) ?_
  obtain ⟨P11, q12, v⟩ := v
  have hPc := hP.sub (ws' := [(q10, .inr (2, [.int (iI 0), .null, .null, .int (iI 0)]))]) [4] rfl
  have hDc := hD.sub (ws' := [(q10, .inr (2, [.int (iI 0), .null, .null, .int (iI 0)]))]) [4] (by decide) rfl
  have hFc := va_free (wc := [(q10, .inr (2, [.int (iI 0), .null, .null, .int (iI 0)]))]) hD hS hA [4] rfl
  refine va_callv (va_runI (As := [.int (iI lux0)]) (rest := [.ref q10, .ref h0]) ⟨hx, hb, hml, hown, hts⟩ (m_Ch_init l D cI cJ cO cZ q10 H.size lux0 P11 q12) (cwI 1 hts (tg_good wd_476) rfl rfl rfl (hts _ wd_22) (hts _ wd_474) (hts _ wd_475) rfl (by decide +kernel) ⟨Nat.le_of_ble_eq_true rfl, Nat.le_of_ble_eq_true rfl⟩) ⟨blW, fun U hU hW => ⟨rfl, by rw [hU], by rw [hU]; exact hPc, va_K.moved hW.alike hK, hDc.weaken (fun _ _ _ _ => trivial)⟩⟩ rfl rfl hl.1 rfl (lv_room (Nat.le_of_ble_eq_true rfl)) d_Lp_init_22 ⟨Nat.le_of_ble_eq_true rfl, Nat.le_of_ble_eq_true rfl⟩) hS (fun q _ h => hFc q h) hFc (fun u t H1 locs ht hvm hw hB hz1 hk1 hS => ?_)
  obtain ⟨y13, y14, y15, y16⟩ := u
  obtain ⟨a17, a18, hP1, hK1, hD1⟩ := hB
  rw [ht] at hP1
  obtain ⟨hP, hD⟩ := va_join (wr := [(h0, .inr (6, [.ref q1, .null, .null, .null, .null, .int (iI 0)])), (q1, .inr (2, [.int (iI y4), .ref a8, .ref a9, .int (iI y7)])), (a8, .inl (cI, 20, .inl (fun k => iI (y5 k)))), (a9, .inl (cI, 20, .inl (fun k => iI (y6 k))))]) (w1 := [(q10, .inr (2, [.int (iI y13), .ref a17, .ref a18, .int (iI y16)])), (a17, .inl (cI, 20, .inl (fun k => iI (y14 k)))), (a18, .inl (cI, 20, .inl (fun k => iI (y15 k))))]) hP hD [4] [0, 1, 2, 3] rfl rfl (by decide) (by decide) hk1 hFc hP1 hD1
  generalize H1 = H at hP hS ⊢
  have hP : va_P D vwCl [(h0, .inr (6, [.ref q1, .null, .null, .null, .null, .int (iI 0)])), (q1, .inr (2, [.int (iI y4), .ref a8, .ref a9, .int (iI y7)])), (a8, .inl (cI, 20, .inl (fun k => iI (y5 k)))), (a9, .inl (cI, 20, .inl (fun k => iI (y6 k)))), (q10, .inr (2, [.int (iI y13), .ref a17, .ref a18, .int (iI y16)])), (a17, .inl (cI, 20, .inl (fun k => iI (y14 k)))), (a18, .inl (cI, 20, .inl (fun k => iI (y15 k))))] H := hP
  have hD : va_D A [(h0, .inr (6, [.ref q1, .null, .null, .null, .null, .int (iI 0)])), (q1, .inr (2, [.int (iI y4), .ref a8, .ref a9, .int (iI y7)])), (a8, .inl (cI, 20, .inl (fun k => iI (y5 k)))), (a9, .inl (cI, 20, .inl (fun k => iI (y6 k)))), (q10, .inr (2, [.int (iI y13), .ref a17, .ref a18, .int (iI y16)])), (a17, .inl (cI, 20, .inl (fun k => iI (y14 k)))), (a18, .inl (cI, 20, .inl (fun k => iI (y15 k))))] := hD
  refine W.widen (k := 6) (n := 88) (Nat.le_of_ble_eq_true rfl) (Nat.le_of_ble_eq_true rfl) ?_
  replace v := v y13 y14 y15 y16 hw
  refine va_putF (D := D) (ci := 6) (v := .ref q10) (ty := .object "LightDoses$Changes") (C := "LightDoses$Lamp") (T := T_Lp) (N := 6) hx hb hts in_Lp t_Lp tok_Lp n_Lp hown hK hP hD hS 0 rfl rfl 1 (by decide) (hts _ wd_511) (fun _ h9 => h9) rfl hin rfl (by decide +kernel) rfl rfl (Nat.le_of_ble_eq_true rfl) d_Lp_init_25 (fun H locs hP hD hS => ?_)
  have hP : va_P D vwCl [(h0, .inr (6, [.ref q1, .ref q10, .null, .null, .null, .int (iI 0)])), (q1, .inr (2, [.int (iI y4), .ref a8, .ref a9, .int (iI y7)])), (a8, .inl (cI, 20, .inl (fun k => iI (y5 k)))), (a9, .inl (cI, 20, .inl (fun k => iI (y6 k)))), (q10, .inr (2, [.int (iI y13), .ref a17, .ref a18, .int (iI y16)])), (a17, .inl (cI, 20, .inl (fun k => iI (y14 k)))), (a18, .inl (cI, 20, .inl (fun k => iI (y15 k))))] H := hP
  have hD : va_D A [(h0, .inr (6, [.ref q1, .ref q10, .null, .null, .null, .int (iI 0)])), (q1, .inr (2, [.int (iI y4), .ref a8, .ref a9, .int (iI y7)])), (a8, .inl (cI, 20, .inl (fun k => iI (y5 k)))), (a9, .inl (cI, 20, .inl (fun k => iI (y6 k)))), (q10, .inr (2, [.int (iI y13), .ref a17, .ref a18, .int (iI y16)])), (a17, .inl (cI, 20, .inl (fun k => iI (y14 k)))), (a18, .inl (cI, 20, .inl (fun k => iI (y15 k))))] := hD
  refine lv_aload_n hx hb d_Lp_init_28 rfl (lv_at hl 0 rfl) ?_
  refine nv_bipush (z := 41) hx hb d_Lp_init_29 (by decide) ?_
  refine nv_newi hx hb (hts _ wd_76) hK hP hD hS hA 0 rfl 41 rfl (by decide) (Nat.le_of_ble_eq_true rfl) (Nat.le_of_ble_eq_true rfl) d_Lp_init_31 (fun q19 H hP hD hS => ?_)
  have hP : va_P D vwCl [(h0, .inr (6, [.ref q1, .ref q10, .null, .null, .null, .int (iI 0)])), (q1, .inr (2, [.int (iI y4), .ref a8, .ref a9, .int (iI y7)])), (a8, .inl (cI, 20, .inl (fun k => iI (y5 k)))), (a9, .inl (cI, 20, .inl (fun k => iI (y6 k)))), (q10, .inr (2, [.int (iI y13), .ref a17, .ref a18, .int (iI y16)])), (a17, .inl (cI, 20, .inl (fun k => iI (y14 k)))), (a18, .inl (cI, 20, .inl (fun k => iI (y15 k)))), (q19, .inl (cI, 41, .inl (fun k => iI ((fun _ => 0) k))))] H := hP
  have hD : va_D A [(h0, .inr (6, [.ref q1, .ref q10, .null, .null, .null, .int (iI 0)])), (q1, .inr (2, [.int (iI y4), .ref a8, .ref a9, .int (iI y7)])), (a8, .inl (cI, 20, .inl (fun k => iI (y5 k)))), (a9, .inl (cI, 20, .inl (fun k => iI (y6 k)))), (q10, .inr (2, [.int (iI y13), .ref a17, .ref a18, .int (iI y16)])), (a17, .inl (cI, 20, .inl (fun k => iI (y14 k)))), (a18, .inl (cI, 20, .inl (fun k => iI (y15 k)))), (q19, .inl (cI, 41, .inl (fun k => iI ((fun _ => 0) k))))] := hD
  refine W.widen (k := 7) (n := 129) (Nat.le_of_ble_eq_true rfl) (Nat.le_of_ble_eq_true rfl) ?_
  refine va_putF (D := D) (ci := 6) (v := .ref q19) (ty := .array .int) (C := "LightDoses$Lamp") (T := T_Lp) (N := 6) hx hb hts in_Lp t_Lp tok_Lp n_Lp hown hK hP hD hS 0 rfl rfl 2 (by decide) (hts _ wd_513) (fun _ h9 => h9) rfl hin rfl (by decide +kernel) rfl rfl (Nat.le_of_ble_eq_true rfl) d_Lp_init_33 (fun H locs hP hD hS => ?_)
  have hP : va_P D vwCl [(h0, .inr (6, [.ref q1, .ref q10, .ref q19, .null, .null, .int (iI 0)])), (q1, .inr (2, [.int (iI y4), .ref a8, .ref a9, .int (iI y7)])), (a8, .inl (cI, 20, .inl (fun k => iI (y5 k)))), (a9, .inl (cI, 20, .inl (fun k => iI (y6 k)))), (q10, .inr (2, [.int (iI y13), .ref a17, .ref a18, .int (iI y16)])), (a17, .inl (cI, 20, .inl (fun k => iI (y14 k)))), (a18, .inl (cI, 20, .inl (fun k => iI (y15 k)))), (q19, .inl (cI, 41, .inl (fun k => iI ((fun _ => 0) k))))] H := hP
  have hD : va_D A [(h0, .inr (6, [.ref q1, .ref q10, .ref q19, .null, .null, .int (iI 0)])), (q1, .inr (2, [.int (iI y4), .ref a8, .ref a9, .int (iI y7)])), (a8, .inl (cI, 20, .inl (fun k => iI (y5 k)))), (a9, .inl (cI, 20, .inl (fun k => iI (y6 k)))), (q10, .inr (2, [.int (iI y13), .ref a17, .ref a18, .int (iI y16)])), (a17, .inl (cI, 20, .inl (fun k => iI (y14 k)))), (a18, .inl (cI, 20, .inl (fun k => iI (y15 k)))), (q19, .inl (cI, 41, .inl (fun k => iI ((fun _ => 0) k))))] := hD
  refine lv_aload_n hx hb d_Lp_init_36 rfl (lv_at hl 0 rfl) ?_
  refine nv_bipush (z := 41) hx hb d_Lp_init_37 (by decide) ?_
  refine nv_newi hx hb (hts _ wd_76) hK hP hD hS hA 0 rfl 41 rfl (by decide) (Nat.le_of_ble_eq_true rfl) (Nat.le_of_ble_eq_true rfl) d_Lp_init_39 (fun q20 H hP hD hS => ?_)
  have hP : va_P D vwCl [(h0, .inr (6, [.ref q1, .ref q10, .ref q19, .null, .null, .int (iI 0)])), (q1, .inr (2, [.int (iI y4), .ref a8, .ref a9, .int (iI y7)])), (a8, .inl (cI, 20, .inl (fun k => iI (y5 k)))), (a9, .inl (cI, 20, .inl (fun k => iI (y6 k)))), (q10, .inr (2, [.int (iI y13), .ref a17, .ref a18, .int (iI y16)])), (a17, .inl (cI, 20, .inl (fun k => iI (y14 k)))), (a18, .inl (cI, 20, .inl (fun k => iI (y15 k)))), (q19, .inl (cI, 41, .inl (fun k => iI ((fun _ => 0) k)))), (q20, .inl (cI, 41, .inl (fun k => iI ((fun _ => 0) k))))] H := hP
  have hD : va_D A [(h0, .inr (6, [.ref q1, .ref q10, .ref q19, .null, .null, .int (iI 0)])), (q1, .inr (2, [.int (iI y4), .ref a8, .ref a9, .int (iI y7)])), (a8, .inl (cI, 20, .inl (fun k => iI (y5 k)))), (a9, .inl (cI, 20, .inl (fun k => iI (y6 k)))), (q10, .inr (2, [.int (iI y13), .ref a17, .ref a18, .int (iI y16)])), (a17, .inl (cI, 20, .inl (fun k => iI (y14 k)))), (a18, .inl (cI, 20, .inl (fun k => iI (y15 k)))), (q19, .inl (cI, 41, .inl (fun k => iI ((fun _ => 0) k)))), (q20, .inl (cI, 41, .inl (fun k => iI ((fun _ => 0) k))))] := hD
  refine W.widen (k := 8) (n := 170) (Nat.le_of_ble_eq_true rfl) (Nat.le_of_ble_eq_true rfl) ?_
  refine va_putF (D := D) (ci := 6) (v := .ref q20) (ty := .array .int) (C := "LightDoses$Lamp") (T := T_Lp) (N := 6) hx hb hts in_Lp t_Lp tok_Lp n_Lp hown hK hP hD hS 0 rfl rfl 3 (by decide) (hts _ wd_514) (fun _ h9 => h9) rfl hin rfl (by decide +kernel) rfl rfl (Nat.le_of_ble_eq_true rfl) d_Lp_init_41 (fun H locs hP hD hS => ?_)
  have hP : va_P D vwCl [(h0, .inr (6, [.ref q1, .ref q10, .ref q19, .ref q20, .null, .int (iI 0)])), (q1, .inr (2, [.int (iI y4), .ref a8, .ref a9, .int (iI y7)])), (a8, .inl (cI, 20, .inl (fun k => iI (y5 k)))), (a9, .inl (cI, 20, .inl (fun k => iI (y6 k)))), (q10, .inr (2, [.int (iI y13), .ref a17, .ref a18, .int (iI y16)])), (a17, .inl (cI, 20, .inl (fun k => iI (y14 k)))), (a18, .inl (cI, 20, .inl (fun k => iI (y15 k)))), (q19, .inl (cI, 41, .inl (fun k => iI ((fun _ => 0) k)))), (q20, .inl (cI, 41, .inl (fun k => iI ((fun _ => 0) k))))] H := hP
  have hD : va_D A [(h0, .inr (6, [.ref q1, .ref q10, .ref q19, .ref q20, .null, .int (iI 0)])), (q1, .inr (2, [.int (iI y4), .ref a8, .ref a9, .int (iI y7)])), (a8, .inl (cI, 20, .inl (fun k => iI (y5 k)))), (a9, .inl (cI, 20, .inl (fun k => iI (y6 k)))), (q10, .inr (2, [.int (iI y13), .ref a17, .ref a18, .int (iI y16)])), (a17, .inl (cI, 20, .inl (fun k => iI (y14 k)))), (a18, .inl (cI, 20, .inl (fun k => iI (y15 k)))), (q19, .inl (cI, 41, .inl (fun k => iI ((fun _ => 0) k)))), (q20, .inl (cI, 41, .inl (fun k => iI ((fun _ => 0) k))))] := hD
  refine lv_aload_n hx hb d_Lp_init_44 rfl (lv_at hl 0 rfl) ?_
  refine nv_bipush (z := 41) hx hb d_Lp_init_45 (by decide) ?_
  refine nv_newl hx hb (hts _ wd_77) hK hP hD hS hA 1 rfl 41 rfl (by decide) (Nat.le_of_ble_eq_true rfl) (Nat.le_of_ble_eq_true rfl) d_Lp_init_47 (fun q21 H hP hD hS => ?_)
  have hP : va_P D vwCl [(h0, .inr (6, [.ref q1, .ref q10, .ref q19, .ref q20, .null, .int (iI 0)])), (q1, .inr (2, [.int (iI y4), .ref a8, .ref a9, .int (iI y7)])), (a8, .inl (cI, 20, .inl (fun k => iI (y5 k)))), (a9, .inl (cI, 20, .inl (fun k => iI (y6 k)))), (q10, .inr (2, [.int (iI y13), .ref a17, .ref a18, .int (iI y16)])), (a17, .inl (cI, 20, .inl (fun k => iI (y14 k)))), (a18, .inl (cI, 20, .inl (fun k => iI (y15 k)))), (q19, .inl (cI, 41, .inl (fun k => iI ((fun _ => 0) k)))), (q20, .inl (cI, 41, .inl (fun k => iI ((fun _ => 0) k)))), (q21, .inl (cJ, 41, .inr (.inl (fun k => lI ((fun _ => 0) k)))))] H := hP
  have hD : va_D A [(h0, .inr (6, [.ref q1, .ref q10, .ref q19, .ref q20, .null, .int (iI 0)])), (q1, .inr (2, [.int (iI y4), .ref a8, .ref a9, .int (iI y7)])), (a8, .inl (cI, 20, .inl (fun k => iI (y5 k)))), (a9, .inl (cI, 20, .inl (fun k => iI (y6 k)))), (q10, .inr (2, [.int (iI y13), .ref a17, .ref a18, .int (iI y16)])), (a17, .inl (cI, 20, .inl (fun k => iI (y14 k)))), (a18, .inl (cI, 20, .inl (fun k => iI (y15 k)))), (q19, .inl (cI, 41, .inl (fun k => iI ((fun _ => 0) k)))), (q20, .inl (cI, 41, .inl (fun k => iI ((fun _ => 0) k)))), (q21, .inl (cJ, 41, .inr (.inl (fun k => lI ((fun _ => 0) k)))))] := hD
  refine W.widen (k := 9) (n := 211) (Nat.le_of_ble_eq_true rfl) (Nat.le_of_ble_eq_true rfl) ?_
  refine va_putF (D := D) (ci := 6) (v := .ref q21) (ty := .array .long) (C := "LightDoses$Lamp") (T := T_Lp) (N := 6) hx hb hts in_Lp t_Lp tok_Lp n_Lp hown hK hP hD hS 0 rfl rfl 4 (by decide) (hts _ wd_515) (fun _ h9 => h9) rfl hin rfl (by decide +kernel) rfl rfl (Nat.le_of_ble_eq_true rfl) d_Lp_init_49 (fun H locs hP hD hS => ?_)
  have hP : va_P D vwCl [(h0, .inr (6, [.ref q1, .ref q10, .ref q19, .ref q20, .ref q21, .int (iI 0)])), (q1, .inr (2, [.int (iI y4), .ref a8, .ref a9, .int (iI y7)])), (a8, .inl (cI, 20, .inl (fun k => iI (y5 k)))), (a9, .inl (cI, 20, .inl (fun k => iI (y6 k)))), (q10, .inr (2, [.int (iI y13), .ref a17, .ref a18, .int (iI y16)])), (a17, .inl (cI, 20, .inl (fun k => iI (y14 k)))), (a18, .inl (cI, 20, .inl (fun k => iI (y15 k)))), (q19, .inl (cI, 41, .inl (fun k => iI ((fun _ => 0) k)))), (q20, .inl (cI, 41, .inl (fun k => iI ((fun _ => 0) k)))), (q21, .inl (cJ, 41, .inr (.inl (fun k => lI ((fun _ => 0) k)))))] H := hP
  have hD : va_D A [(h0, .inr (6, [.ref q1, .ref q10, .ref q19, .ref q20, .ref q21, .int (iI 0)])), (q1, .inr (2, [.int (iI y4), .ref a8, .ref a9, .int (iI y7)])), (a8, .inl (cI, 20, .inl (fun k => iI (y5 k)))), (a9, .inl (cI, 20, .inl (fun k => iI (y6 k)))), (q10, .inr (2, [.int (iI y13), .ref a17, .ref a18, .int (iI y16)])), (a17, .inl (cI, 20, .inl (fun k => iI (y14 k)))), (a18, .inl (cI, 20, .inl (fun k => iI (y15 k)))), (q19, .inl (cI, 41, .inl (fun k => iI ((fun _ => 0) k)))), (q20, .inl (cI, 41, .inl (fun k => iI ((fun _ => 0) k)))), (q21, .inl (cJ, 41, .inr (.inl (fun k => lI ((fun _ => 0) k)))))] := hD
  refine lv_aload_n hx hb d_Lp_init_52 rfl (lv_at hl 0 rfl) ?_
  refine nv_iconst (n := 0) hx hb d_Lp_init_53 ?_
  refine va_put (D := D) (ci := 6) (v := .int (iI 0)) (ty := .int) (C := "LightDoses$Lamp") (T := T_Lp) (N := 6) hx hb hts in_Lp t_Lp tok_Lp n_Lp hown hK hP hD hS 0 rfl rfl 5 (by decide) (hts _ wd_516) (fun _ h9 => h9) rfl (by decide +kernel) rfl rfl (Nat.le_of_ble_eq_true rfl) d_Lp_init_54 (fun H locs hP hD hS => ?_)
  have hP : va_P D vwCl [(h0, .inr (6, [.ref q1, .ref q10, .ref q19, .ref q20, .ref q21, .int (iI 0)])), (q1, .inr (2, [.int (iI y4), .ref a8, .ref a9, .int (iI y7)])), (a8, .inl (cI, 20, .inl (fun k => iI (y5 k)))), (a9, .inl (cI, 20, .inl (fun k => iI (y6 k)))), (q10, .inr (2, [.int (iI y13), .ref a17, .ref a18, .int (iI y16)])), (a17, .inl (cI, 20, .inl (fun k => iI (y14 k)))), (a18, .inl (cI, 20, .inl (fun k => iI (y15 k)))), (q19, .inl (cI, 41, .inl (fun k => iI ((fun _ => 0) k)))), (q20, .inl (cI, 41, .inl (fun k => iI ((fun _ => 0) k)))), (q21, .inl (cJ, 41, .inr (.inl (fun k => lI ((fun _ => 0) k)))))] H := hP
  have hD : va_D A [(h0, .inr (6, [.ref q1, .ref q10, .ref q19, .ref q20, .ref q21, .int (iI 0)])), (q1, .inr (2, [.int (iI y4), .ref a8, .ref a9, .int (iI y7)])), (a8, .inl (cI, 20, .inl (fun k => iI (y5 k)))), (a9, .inl (cI, 20, .inl (fun k => iI (y6 k)))), (q10, .inr (2, [.int (iI y13), .ref a17, .ref a18, .int (iI y16)])), (a17, .inl (cI, 20, .inl (fun k => iI (y14 k)))), (a18, .inl (cI, 20, .inl (fun k => iI (y15 k)))), (q19, .inl (cI, 41, .inl (fun k => iI ((fun _ => 0) k)))), (q20, .inl (cI, 41, .inl (fun k => iI ((fun _ => 0) k)))), (q21, .inl (cJ, 41, .inr (.inl (fun k => lI ((fun _ => 0) k)))))] := hD
  refine lv_aload_n hx hb d_Lp_init_57 rfl (lv_at hl 0 rfl) ?_
  obtain ⟨P22, q23, v⟩ := v
  have hPc := hP.sub (ws' := [(h0, .inr (6, [.ref q1, .ref q10, .ref q19, .ref q20, .ref q21, .int (iI 0)])), (q1, .inr (2, [.int (iI y4), .ref a8, .ref a9, .int (iI y7)])), (a8, .inl (cI, 20, .inl (fun k => iI (y5 k)))), (a9, .inl (cI, 20, .inl (fun k => iI (y6 k)))), (q10, .inr (2, [.int (iI y13), .ref a17, .ref a18, .int (iI y16)])), (a17, .inl (cI, 20, .inl (fun k => iI (y14 k)))), (a18, .inl (cI, 20, .inl (fun k => iI (y15 k)))), (q19, .inl (cI, 41, .inl (fun k => iI ((fun _ => 0) k)))), (q20, .inl (cI, 41, .inl (fun k => iI ((fun _ => 0) k)))), (q21, .inl (cJ, 41, .inr (.inl (fun k => lI ((fun _ => 0) k)))))]) [0, 1, 2, 3, 4, 5, 6, 7, 8, 9] rfl
  have hDc := hD.sub (ws' := [(h0, .inr (6, [.ref q1, .ref q10, .ref q19, .ref q20, .ref q21, .int (iI 0)])), (q1, .inr (2, [.int (iI y4), .ref a8, .ref a9, .int (iI y7)])), (a8, .inl (cI, 20, .inl (fun k => iI (y5 k)))), (a9, .inl (cI, 20, .inl (fun k => iI (y6 k)))), (q10, .inr (2, [.int (iI y13), .ref a17, .ref a18, .int (iI y16)])), (a17, .inl (cI, 20, .inl (fun k => iI (y14 k)))), (a18, .inl (cI, 20, .inl (fun k => iI (y15 k)))), (q19, .inl (cI, 41, .inl (fun k => iI ((fun _ => 0) k)))), (q20, .inl (cI, 41, .inl (fun k => iI ((fun _ => 0) k)))), (q21, .inl (cJ, 41, .inr (.inl (fun k => lI ((fun _ => 0) k)))))]) [0, 1, 2, 3, 4, 5, 6, 7, 8, 9] (by decide) rfl
  have hFc := va_free (wc := [(h0, .inr (6, [.ref q1, .ref q10, .ref q19, .ref q20, .ref q21, .int (iI 0)])), (q1, .inr (2, [.int (iI y4), .ref a8, .ref a9, .int (iI y7)])), (a8, .inl (cI, 20, .inl (fun k => iI (y5 k)))), (a9, .inl (cI, 20, .inl (fun k => iI (y6 k)))), (q10, .inr (2, [.int (iI y13), .ref a17, .ref a18, .int (iI y16)])), (a17, .inl (cI, 20, .inl (fun k => iI (y14 k)))), (a18, .inl (cI, 20, .inl (fun k => iI (y15 k)))), (q19, .inl (cI, 41, .inl (fun k => iI ((fun _ => 0) k)))), (q20, .inl (cI, 41, .inl (fun k => iI ((fun _ => 0) k)))), (q21, .inl (cJ, 41, .inr (.inl (fun k => lI ((fun _ => 0) k)))))]) hD hS hA [0, 1, 2, 3, 4, 5, 6, 7, 8, 9] rfl
  refine va_callv (va_runV (As := []) (rest := []) ⟨hx, hb, hml, hown, hts⟩ (m_Lp_cut l D cI cJ cO cZ h0 q1 a8 a9 q10 a17 a18 q19 q20 q21 H.size y4 y5 y6 y7 y13 y14 y15 y16 (fun _ => 0) (fun _ => 0) (fun _ => 0) 0 P22 q23) (nv_cwV (n := 0) hts wd_492 wd_494 sl_12 wd_21 wd_495 (by decide +kernel) ⟨Nat.le_of_ble_eq_true rfl, Nat.le_of_ble_eq_true rfl⟩) ⟨blW, va_recv hK hPc (ci := 6) (q0 := 0) rfl rfl, fun U hU hW => ⟨rfl, by rw [hU], by rw [hU]; exact hPc, va_K.moved hW.alike hK, hDc.weaken (fun _ _ _ _ => trivial)⟩⟩ rfl rfl hl.1 rfl (lv_room (Nat.le_of_ble_eq_true rfl)) d_Lp_init_58 ⟨Nat.le_of_ble_eq_true rfl, Nat.le_of_ble_eq_true rfl⟩) hS (fun q _ h => hFc q h) hFc (fun u t H1 locs ht hvm hw hB hz1 hk1 hS => ?_)
  obtain ⟨y24, y25, y26, y27⟩ := u
  obtain ⟨hP1, hK1, hD1⟩ := hB
  rw [ht] at hP1
  obtain ⟨hP, hD⟩ := va_join (wr := []) (w1 := [(h0, .inr (6, [.ref q1, .ref q10, .ref q19, .ref q20, .ref q21, .int (iI y27)])), (q1, .inr (2, [.int (iI y4), .ref a8, .ref a9, .int (iI y7)])), (a8, .inl (cI, 20, .inl (fun k => iI (y5 k)))), (a9, .inl (cI, 20, .inl (fun k => iI (y6 k)))), (q10, .inr (2, [.int (iI y13), .ref a17, .ref a18, .int (iI y16)])), (a17, .inl (cI, 20, .inl (fun k => iI (y14 k)))), (a18, .inl (cI, 20, .inl (fun k => iI (y15 k)))), (q19, .inl (cI, 41, .inl (fun k => iI (y24 k)))), (q20, .inl (cI, 41, .inl (fun k => iI (y25 k)))), (q21, .inl (cJ, 41, .inr (.inl (fun k => lI (y26 k)))))]) hP hD [0, 1, 2, 3, 4, 5, 6, 7, 8, 9] [] rfl rfl (by decide) (by decide) hk1 hFc hP1 hD1
  generalize H1 = H at hP hS ⊢
  have hP : va_P D vwCl [(h0, .inr (6, [.ref q1, .ref q10, .ref q19, .ref q20, .ref q21, .int (iI y27)])), (q1, .inr (2, [.int (iI y4), .ref a8, .ref a9, .int (iI y7)])), (a8, .inl (cI, 20, .inl (fun k => iI (y5 k)))), (a9, .inl (cI, 20, .inl (fun k => iI (y6 k)))), (q10, .inr (2, [.int (iI y13), .ref a17, .ref a18, .int (iI y16)])), (a17, .inl (cI, 20, .inl (fun k => iI (y14 k)))), (a18, .inl (cI, 20, .inl (fun k => iI (y15 k)))), (q19, .inl (cI, 41, .inl (fun k => iI (y24 k)))), (q20, .inl (cI, 41, .inl (fun k => iI (y25 k)))), (q21, .inl (cJ, 41, .inr (.inl (fun k => lI (y26 k)))))] H := hP
  have hD : va_D A [(h0, .inr (6, [.ref q1, .ref q10, .ref q19, .ref q20, .ref q21, .int (iI y27)])), (q1, .inr (2, [.int (iI y4), .ref a8, .ref a9, .int (iI y7)])), (a8, .inl (cI, 20, .inl (fun k => iI (y5 k)))), (a9, .inl (cI, 20, .inl (fun k => iI (y6 k)))), (q10, .inr (2, [.int (iI y13), .ref a17, .ref a18, .int (iI y16)])), (a17, .inl (cI, 20, .inl (fun k => iI (y14 k)))), (a18, .inl (cI, 20, .inl (fun k => iI (y15 k)))), (q19, .inl (cI, 41, .inl (fun k => iI (y24 k)))), (q20, .inl (cI, 41, .inl (fun k => iI (y25 k)))), (q21, .inl (cJ, 41, .inr (.inl (fun k => lI (y26 k)))))] := hD
  refine W.widen (k := 9) (n := 211) (Nat.le_of_ble_eq_true rfl) (Nat.le_of_ble_eq_true rfl) ?_
  replace v := v y24 y25 y26 y27 hw
  have hP9 := hP.sub (ws' := [(h0, .inr (6, [.ref q1, .ref q10, .ref q19, .ref q20, .ref q21, .int (iI y27)])), (q1, .inr (2, [.int (iI y4), .ref a8, .ref a9, .int (iI y7)])), (a8, .inl (cI, 20, .inl (fun k => iI (y5 k)))), (a9, .inl (cI, 20, .inl (fun k => iI (y6 k)))), (q10, .inr (2, [.int (iI y13), .ref a17, .ref a18, .int (iI y16)])), (a17, .inl (cI, 20, .inl (fun k => iI (y14 k)))), (a18, .inl (cI, 20, .inl (fun k => iI (y15 k)))), (q19, .inl (cI, 41, .inl (fun k => iI (y24 k)))), (q20, .inl (cI, 41, .inl (fun k => iI (y25 k)))), (q21, .inl (cJ, 41, .inr (.inl (fun k => lI (y26 k)))))]) [0, 1, 2, 3, 4, 5, 6, 7, 8, 9] rfl
  have hD9 := hD.sub (ws' := [(h0, .inr (6, [.ref q1, .ref q10, .ref q19, .ref q20, .ref q21, .int (iI y27)])), (q1, .inr (2, [.int (iI y4), .ref a8, .ref a9, .int (iI y7)])), (a8, .inl (cI, 20, .inl (fun k => iI (y5 k)))), (a9, .inl (cI, 20, .inl (fun k => iI (y6 k)))), (q10, .inr (2, [.int (iI y13), .ref a17, .ref a18, .int (iI y16)])), (a17, .inl (cI, 20, .inl (fun k => iI (y14 k)))), (a18, .inl (cI, 20, .inl (fun k => iI (y15 k)))), (q19, .inl (cI, 41, .inl (fun k => iI (y24 k)))), (q20, .inl (cI, 41, .inl (fun k => iI (y25 k)))), (q21, .inl (cJ, 41, .inr (.inl (fun k => lI (y26 k)))))]) [0, 1, 2, 3, 4, 5, 6, 7, 8, 9] (by decide) rfl
  exact W.vret hx hb hr (fun t ht hW => ⟨⟨((y4), (y5), (y6), (y7), (y13), (y14), (y15), (y16), (y24), (y25), (y26), (y27)), rfl, v, q1, a8, a9, q10, a17, a18, q19, q20, q21, by rw [ht]; exact hP9, va_K.moved hW.alike hK, hD9⟩, hS.F ht⟩) hS.2.2 d_Lp_init_61
