/-! MODULE Flashes -/
theorem d_Fl_luxSeconds_0 : decode prog_7_method_3_code 0 = .ok (.lconst 0, 1) := by decide +kernel
theorem d_Fl_luxSeconds_1 : decode prog_7_method_3_code 1 = .ok (.lstore 4, 2) := by decide +kernel
theorem d_Fl_luxSeconds_3 : decode prog_7_method_3_code 3 = .ok (.iconst 0, 1) := by decide +kernel
theorem d_Fl_luxSeconds_4 : decode prog_7_method_3_code 4 = .ok (.istore 6, 2) := by decide +kernel
theorem d_Fl_luxSeconds_6 : decode prog_7_method_3_code 6 = .ok (.iload 6, 2) := by decide +kernel
theorem d_Fl_luxSeconds_8 : decode prog_7_method_3_code 8 = .ok (.aload_n 0, 1) := by decide +kernel
theorem d_Fl_luxSeconds_9 : decode prog_7_method_3_code 9 = .ok (.getfield 21, 3) := by decide +kernel
theorem d_Fl_luxSeconds_12 : decode prog_7_method_3_code 12 = .ok (.if_icmp .ge 55, 3) := by decide +kernel
theorem d_Fl_luxSeconds_15 : decode prog_7_method_3_code 15 = .ok (.aload_n 0, 1) := by decide +kernel
theorem d_Fl_luxSeconds_16 : decode prog_7_method_3_code 16 = .ok (.getfield 9, 3) := by decide +kernel
theorem d_Fl_luxSeconds_19 : decode prog_7_method_3_code 19 = .ok (.iload 6, 2) := by decide +kernel
theorem d_Fl_luxSeconds_21 : decode prog_7_method_3_code 21 = .ok (.iaload, 1) := by decide +kernel
theorem d_Fl_luxSeconds_22 : decode prog_7_method_3_code 22 = .ok (.iload_n 1, 1) := by decide +kernel
theorem d_Fl_luxSeconds_23 : decode prog_7_method_3_code 23 = .ok (.if_icmp .ne 38, 3) := by decide +kernel
theorem d_Fl_luxSeconds_26 : decode prog_7_method_3_code 26 = .ok (.aload_n 0, 1) := by decide +kernel
theorem d_Fl_luxSeconds_27 : decode prog_7_method_3_code 27 = .ok (.getfield 15, 3) := by decide +kernel
theorem d_Fl_luxSeconds_30 : decode prog_7_method_3_code 30 = .ok (.iload 6, 2) := by decide +kernel
theorem d_Fl_luxSeconds_32 : decode prog_7_method_3_code 32 = .ok (.iaload, 1) := by decide +kernel
theorem d_Fl_luxSeconds_33 : decode prog_7_method_3_code 33 = .ok (.iload_n 2, 1) := by decide +kernel
theorem d_Fl_luxSeconds_34 : decode prog_7_method_3_code 34 = .ok (.if_icmp .lt 27, 3) := by decide +kernel
theorem d_Fl_luxSeconds_37 : decode prog_7_method_3_code 37 = .ok (.aload_n 0, 1) := by decide +kernel
theorem d_Fl_luxSeconds_38 : decode prog_7_method_3_code 38 = .ok (.getfield 15, 3) := by decide +kernel
theorem d_Fl_luxSeconds_41 : decode prog_7_method_3_code 41 = .ok (.iload 6, 2) := by decide +kernel
theorem d_Fl_luxSeconds_43 : decode prog_7_method_3_code 43 = .ok (.iaload, 1) := by decide +kernel
theorem d_Fl_luxSeconds_44 : decode prog_7_method_3_code 44 = .ok (.iload_n 3, 1) := by decide +kernel
theorem d_Fl_luxSeconds_45 : decode prog_7_method_3_code 45 = .ok (.if_icmp .ge 16, 3) := by decide +kernel
theorem d_Fl_luxSeconds_48 : decode prog_7_method_3_code 48 = .ok (.lload 4, 2) := by decide +kernel
theorem d_Fl_luxSeconds_50 : decode prog_7_method_3_code 50 = .ok (.aload_n 0, 1) := by decide +kernel
theorem d_Fl_luxSeconds_51 : decode prog_7_method_3_code 51 = .ok (.getfield 18, 3) := by decide +kernel
theorem d_Fl_luxSeconds_54 : decode prog_7_method_3_code 54 = .ok (.iload 6, 2) := by decide +kernel
theorem d_Fl_luxSeconds_56 : decode prog_7_method_3_code 56 = .ok (.iaload, 1) := by decide +kernel
theorem d_Fl_luxSeconds_57 : decode prog_7_method_3_code 57 = .ok (.i2l, 1) := by decide +kernel
theorem d_Fl_luxSeconds_58 : decode prog_7_method_3_code 58 = .ok (.ladd, 1) := by decide +kernel
theorem d_Fl_luxSeconds_59 : decode prog_7_method_3_code 59 = .ok (.lstore 4, 2) := by decide +kernel
theorem d_Fl_luxSeconds_61 : decode prog_7_method_3_code 61 = .ok (.iinc 6 1, 3) := by decide +kernel
theorem d_Fl_luxSeconds_64 : decode prog_7_method_3_code 64 = .ok (.goto (-58), 3) := by decide +kernel
theorem d_Fl_luxSeconds_67 : decode prog_7_method_3_code 67 = .ok (.lload 4, 2) := by decide +kernel
theorem d_Fl_luxSeconds_69 : decode prog_7_method_3_code 69 = .ok (.lreturn, 1) := by decide +kernel
def vc_Fl_luxSeconds (fo : Nat → Int) (fh : Nat → Int) (fs : Nat → Int) (fn : Int) (ob : Int) (from_ : Int) (to_ : Int) (post : Int → Prop) : Prop := ∃ (I1 : Int → Int → Prop) (μ2 : Int → Int → Nat), I1 0 0 ∧ ∀ (tot : Int) (i : Int), I1 tot i → (r32 i) ∧ ((r32 fn) ∧ ((fn ≤ i → post tot) ∧ (i < fn → (0 ≤ i ∧ i < 40) ∧ ((r32 (fo (i).toNat)) ∧ ((r32 ob) ∧ ((¬ fo (i).toNat = ob → I1 tot (i + 1) ∧ μ2 tot (i + 1) < μ2 tot i) ∧ (fo (i).toNat = ob → (0 ≤ i ∧ i < 40) ∧ ((r32 (fh (i).toNat)) ∧ ((r32 from_) ∧ ((fh (i).toNat < from_ → I1 tot (i + 1) ∧ μ2 tot (i + 1) < μ2 tot i) ∧ (from_ ≤ fh (i).toNat → (0 ≤ i ∧ i < 40) ∧ ((r32 to_) ∧ ((to_ ≤ fh (i).toNat → I1 tot (i + 1) ∧ μ2 tot (i + 1) < μ2 tot i) ∧ (fh (i).toNat < to_ → (0 ≤ i ∧ i < 40) ∧ ((r32 (fs (i).toNat)) ∧ (I1 (tot + (fs (i).toNat)) (i + 1) ∧ μ2 (tot + (fs (i).toNat)) (i + 1) < μ2 tot i))))))))))))))))
set_option maxHeartbeats 4000000 in
set_option maxRecDepth 100000 in
theorem m_Fl_luxSeconds (l : Launch) (D : va_G) (cI cJ cO cZ : ClassId) (h0 h1 h2 h3 : Nat) (fo : Nat → Int) (fh : Nat → Int) (fs : Nat → Int) (fn : Int) (ob : Int) (from_ : Int) (to_ : Int) (post : Int → Prop) (v : vc_Fl_luxSeconds fo fh fs fn ob from_ to_ post) : Met l ⟨"LightDoses$Flashes", "luxSeconds", "(III)J"⟩ (.code ⟨"LightDoses$Flashes", "luxSeconds", "(III)J"⟩ prog_7_method_3_code 7 (some .long) :: TG) { frames := 0, cells := 0, slots := 0, locals := 0 } (va_Pc [.ref h0, .int (iI ob), .int (iI from_), .int (iI to_)] (fun U => va_K D vwCl (tyx cI cJ cO cZ) U ∧ va_P D vwCl [(h0, .inr (5, [.ref h1, .ref h2, .ref h3, .int (iI fn)])), (h1, .inl (cI, 40, .inl (fun k => iI (fo k)))), (h2, .inl (cI, 40, .inl (fun k => iI (fh k)))), (h3, .inl (cI, 40, .inl (fun k => iI (fs k))))] U.heap)) (vp_Sl (fun r => ∃ z : Int, r = lI z ∧ post z)) 0 0 (fun _ => False) := by
  refine Met.ofW (cc := prog_7_method_3_code) (maxL := 7) (ret := (some .long)) (by decide) rfl ?_
  intro p e s m args below meth c s₁ B hml hv
  obtain ⟨rfl, hK, hP⟩ := hv
  have hx := B.exec
  have hb := B.bytes
  have hr := B.returns
  have hts0 := atoms_spec (ws := (.code ⟨"LightDoses$Flashes", "luxSeconds", "(III)J"⟩ prog_7_method_3_code 7 (some .long) :: TG)) B.pre
  have hts : ∀ w ∈ TG, w.before _ s = true := fun w h => hts0 w (List.mem_cons_of_mem _ h)
  have hown : s.vm.findClass "LightDoses$Flashes" = some m.cls := findClass_of_methodNamed B.named
  have hlocks := B.notSynchronized
  have hP : va_P D vwCl [(h0, .inr (5, [.ref h1, .ref h2, .ref h3, .int (iI fn)])), (h1, .inl (cI, 40, .inl (fun k => iI (fo k)))), (h2, .inl (cI, 40, .inl (fun k => iI (fh k)))), (h3, .inl (cI, 40, .inl (fun k => iI (fs k))))] s.heap := hP
  have hl := lv_entry ([Value.ref h0, Value.int (iI ob), Value.int (iI from_), Value.int (iI to_)]) (n := 7) (Nat.le_of_ble_eq_true rfl)
  rw [lg_entry_eq]
  generalize (lg_sl ([Value.ref h0, Value.int (iI ob), Value.int (iI from_), Value.int (iI to_)]) ++ List.replicate (7 - (lg_sl ([Value.ref h0, Value.int (iI ob), Value.int (iI from_), Value.int (iI to_)])).length) Slot.unset).toArray = ls at hl ⊢
  have hl : lv_has ls 7 [(0, .ref h0), (1, .int (iI ob)), (2, .int (iI from_)), (3, .int (iI to_))] := hl
  unfold vc_Fl_luxSeconds at v
  refine lv_lconst (v := lI 0) hx hb d_Fl_luxSeconds_0 (by decide) ?_
  refine lv_lstore (lv' := [(4, .long (lI 0)), (0, .ref h0), (1, .int (iI ob)), (2, .int (iI from_)), (3, .int (iI to_))]) hx hb d_Fl_luxSeconds_1 hl (by decide) rfl (fun ls hl => ?_)
  refine nv_iconst (n := 0) hx hb d_Fl_luxSeconds_3 ?_
  refine lv_istore (lv' := [(6, .int (iI 0)), (4, .long (lI 0)), (0, .ref h0), (1, .int (iI ob)), (2, .int (iI from_)), (3, .int (iI to_))]) hx hb d_Fl_luxSeconds_4 hl (by decide) rfl (fun ls hl => ?_)
  obtain ⟨I1, μ2, v21, v22⟩ := v
  have L23 : ∀ (N : Nat) (tot : Int) (i : Int) (ls : Array Slot), μ2 tot i < N → I1 tot i → lv_has ls 7 [(0, .ref h0), (1, .int (iI ob)), (2, .int (iI from_)), (3, .int (iI to_)), (4, .long (lI tot)), (6, .int (iI i))] → W p l e (headSpec (.code ⟨"LightDoses$Flashes", "luxSeconds", "(III)J"⟩ prog_7_method_3_code 7 (some .long) :: TG) { frames := 0, cells := 0, slots := 0, locals := 0 }).room s m ([Value.ref h0, Value.int (iI ob), Value.int (iI from_), Value.int (iI to_)] : List Value).toArray below meth c s.heap [] 0 0 (MQ below (vp_Sl (fun r => ∃ z : Int, r = lI z ∧ post z)) ([Value.ref h0, Value.int (iI ob), Value.int (iI from_), Value.int (iI to_)] : List Value).toArray s 0 0 (fun _ => False)) (F0 m 6 ls []) := by
    intro N
    induction N with
    | zero => intro tot i ls hN; exact absurd hN (Nat.not_lt_zero _)
    | succ N ih3 =>
      intro tot i ls hN4 hI hl
      have v := v22 tot i hI
      refine lv_iload hx hb d_Fl_luxSeconds_6 (lv_at hl 5 rfl) ?_
      refine lv_aload_n hx hb d_Fl_luxSeconds_8 rfl (lv_at hl 0 rfl) ?_
      refine va_get (D := D) (ci := 5) (v := .int (iI fn)) (C := "LightDoses$Flashes") (T := T_Fl) (N := 4) hx hb hts in_Fl hown hK hP 0 rfl rfl 3 (by decide) (hts _ wd_87) (fun _ h9 => h9) rfl d_Fl_luxSeconds_9 ?_
      obtain ⟨k5, v⟩ := v
      obtain ⟨k6, v⟩ := v
      refine nv_icmp_ge (tgt := 67) hx hb d_Fl_luxSeconds_12 (by decide) k5 k6 (fun c7 => ?_) (fun c7 => ?_)
      · replace v := v.1 c7
        refine lv_lload hx hb d_Fl_luxSeconds_67 (lv_at hl 4 rfl) ?_
        exact W.lret hx hb hr (fun t ht hW => ⟨_, rfl, ⟨_, rfl, v⟩, ht⟩) (fun q h => by cases h) d_Fl_luxSeconds_69
      · replace v := v.2 c7
        refine lv_aload_n hx hb d_Fl_luxSeconds_15 rfl (lv_at hl 0 rfl) ?_
        refine va_get (D := D) (ci := 5) (v := .ref h1) (C := "LightDoses$Flashes") (T := T_Fl) (N := 4) hx hb hts in_Fl hown hK hP 0 rfl rfl 0 (by decide) (hts _ wd_84) (fun _ h9 => h9) rfl d_Fl_luxSeconds_16 ?_
        refine lv_iload hx hb d_Fl_luxSeconds_19 (lv_at hl 5 rfl) ?_
        obtain ⟨k8, v⟩ := v
        refine nv_iald (f := fo) hx hb hK 0 (hP 1 _ rfl) rfl (i).toNat (Int.toNat_of_nonneg k8.1).symm (by omega) (by decide) d_Fl_luxSeconds_21 ?_
        refine lv_iload_n hx hb d_Fl_luxSeconds_22 rfl (lv_at hl 1 rfl) ?_
        obtain ⟨k9, v⟩ := v
        obtain ⟨k10, v⟩ := v
        refine nv_icmp_ne (tgt := 61) hx hb d_Fl_luxSeconds_23 (by decide) k9 k10 (fun c11 => ?_) (fun c11 => ?_)
        · replace v := v.1 c11
          refine nv_iinc (k := 5) (z := i + 1) (lv' := [(6, .int (iI (i + 1))), (0, .ref h0), (1, .int (iI ob)), (2, .int (iI from_)), (3, .int (iI to_)), (4, .long (lI tot))]) hx hb d_Fl_luxSeconds_61 hl rfl (by omega) (by decide) rfl (fun ls hl => ?_)
          refine lv_goto (tgt := 6) hx hb d_Fl_luxSeconds_64 (by decide) ?_
          exact ih3 tot (i + 1) ls (Nat.lt_of_lt_of_le v.2 (Nat.le_of_lt_succ hN4)) v.1 (lv_sub hl [1, 2, 3, 4, 5, 0] rfl)
        · replace v := v.2 c11
          refine lv_aload_n hx hb d_Fl_luxSeconds_26 rfl (lv_at hl 0 rfl) ?_
          refine va_get (D := D) (ci := 5) (v := .ref h2) (C := "LightDoses$Flashes") (T := T_Fl) (N := 4) hx hb hts in_Fl hown hK hP 0 rfl rfl 1 (by decide) (hts _ wd_85) (fun _ h9 => h9) rfl d_Fl_luxSeconds_27 ?_
          refine lv_iload hx hb d_Fl_luxSeconds_30 (lv_at hl 5 rfl) ?_
          obtain ⟨k12, v⟩ := v
          refine nv_iald (f := fh) hx hb hK 0 (hP 2 _ rfl) rfl (i).toNat (Int.toNat_of_nonneg k12.1).symm (by omega) (by decide) d_Fl_luxSeconds_32 ?_
          refine lv_iload_n hx hb d_Fl_luxSeconds_33 rfl (lv_at hl 2 rfl) ?_
          obtain ⟨k13, v⟩ := v
          obtain ⟨k14, v⟩ := v
          refine nv_icmp_lt (tgt := 61) hx hb d_Fl_luxSeconds_34 (by decide) k13 k14 (fun c15 => ?_) (fun c15 => ?_)
          · replace v := v.1 c15
            refine nv_iinc (k := 5) (z := i + 1) (lv' := [(6, .int (iI (i + 1))), (0, .ref h0), (1, .int (iI ob)), (2, .int (iI from_)), (3, .int (iI to_)), (4, .long (lI tot))]) hx hb d_Fl_luxSeconds_61 hl rfl (by omega) (by decide) rfl (fun ls hl => ?_)
            refine lv_goto (tgt := 6) hx hb d_Fl_luxSeconds_64 (by decide) ?_
            exact ih3 tot (i + 1) ls (Nat.lt_of_lt_of_le v.2 (Nat.le_of_lt_succ hN4)) v.1 (lv_sub hl [1, 2, 3, 4, 5, 0] rfl)
          · replace v := v.2 c15
            refine lv_aload_n hx hb d_Fl_luxSeconds_37 rfl (lv_at hl 0 rfl) ?_
            refine va_get (D := D) (ci := 5) (v := .ref h2) (C := "LightDoses$Flashes") (T := T_Fl) (N := 4) hx hb hts in_Fl hown hK hP 0 rfl rfl 1 (by decide) (hts _ wd_85) (fun _ h9 => h9) rfl d_Fl_luxSeconds_38 ?_
            refine lv_iload hx hb d_Fl_luxSeconds_41 (lv_at hl 5 rfl) ?_
            obtain ⟨k16, v⟩ := v
            refine nv_iald (f := fh) hx hb hK 0 (hP 2 _ rfl) rfl (i).toNat (Int.toNat_of_nonneg k16.1).symm (by omega) (by decide) d_Fl_luxSeconds_43 ?_
            refine lv_iload_n hx hb d_Fl_luxSeconds_44 rfl (lv_at hl 3 rfl) ?_
            obtain ⟨k17, v⟩ := v
            refine nv_icmp_ge (tgt := 61) hx hb d_Fl_luxSeconds_45 (by decide) k13 k17 (fun c18 => ?_) (fun c18 => ?_)
            · replace v := v.1 c18
              refine nv_iinc (k := 5) (z := i + 1) (lv' := [(6, .int (iI (i + 1))), (0, .ref h0), (1, .int (iI ob)), (2, .int (iI from_)), (3, .int (iI to_)), (4, .long (lI tot))]) hx hb d_Fl_luxSeconds_61 hl rfl (by omega) (by decide) rfl (fun ls hl => ?_)
              refine lv_goto (tgt := 6) hx hb d_Fl_luxSeconds_64 (by decide) ?_
              exact ih3 tot (i + 1) ls (Nat.lt_of_lt_of_le v.2 (Nat.le_of_lt_succ hN4)) v.1 (lv_sub hl [1, 2, 3, 4, 5, 0] rfl)
            · replace v := v.2 c18
              refine lv_lload hx hb d_Fl_luxSeconds_48 (lv_at hl 4 rfl) ?_
              refine lv_aload_n hx hb d_Fl_luxSeconds_50 rfl (lv_at hl 0 rfl) ?_
              refine va_get (D := D) (ci := 5) (v := .ref h3) (C := "LightDoses$Flashes") (T := T_Fl) (N := 4) hx hb hts in_Fl hown hK hP 0 rfl rfl 2 (by decide) (hts _ wd_86) (fun _ h9 => h9) rfl d_Fl_luxSeconds_51 ?_
              refine lv_iload hx hb d_Fl_luxSeconds_54 (lv_at hl 5 rfl) ?_
              obtain ⟨k19, v⟩ := v
              refine nv_iald (f := fs) hx hb hK 0 (hP 3 _ rfl) rfl (i).toNat (Int.toNat_of_nonneg k19.1).symm (by omega) (by decide) d_Fl_luxSeconds_56 ?_
              obtain ⟨k20, v⟩ := v
              refine nv_i2l hx hb d_Fl_luxSeconds_57 k20 ?_
              refine nv_ladd (z := tot + (fs (i).toNat)) hx hb d_Fl_luxSeconds_58 (by first | rfl | omega) ?_
              refine lv_lstore (lv' := [(4, .long (lI (tot + (fs (i).toNat)))), (0, .ref h0), (1, .int (iI ob)), (2, .int (iI from_)), (3, .int (iI to_)), (6, .int (iI i))]) hx hb d_Fl_luxSeconds_59 hl (by decide) rfl (fun ls hl => ?_)
              refine nv_iinc (k := 5) (z := i + 1) (lv' := [(6, .int (iI (i + 1))), (4, .long (lI (tot + (fs (i).toNat)))), (0, .ref h0), (1, .int (iI ob)), (2, .int (iI from_)), (3, .int (iI to_))]) hx hb d_Fl_luxSeconds_61 hl rfl (by omega) (by decide) rfl (fun ls hl => ?_)
              refine lv_goto (tgt := 6) hx hb d_Fl_luxSeconds_64 (by decide) ?_
              exact ih3 (tot + (fs (i).toNat)) (i + 1) ls (Nat.lt_of_lt_of_le v.2 (Nat.le_of_lt_succ hN4)) v.1 (lv_sub hl [2, 3, 4, 5, 1, 0] rfl)
  exact L23 _ 0 0 ls (Nat.lt_succ_self _) v21 (lv_sub hl [2, 3, 4, 5, 1, 0] rfl)

theorem d_Fl_add_0 : decode prog_7_method_2_code 0 = .ok (.aload_n 0, 1) := by decide +kernel
theorem d_Fl_add_1 : decode prog_7_method_2_code 1 = .ok (.getfield 21, 3) := by decide +kernel
theorem d_Fl_add_4 : decode prog_7_method_2_code 4 = .ok (.bipush 40, 2) := by decide +kernel
theorem d_Fl_add_6 : decode prog_7_method_2_code 6 = .ok (.if_icmp .lt 4, 3) := by decide +kernel
theorem d_Fl_add_9 : decode prog_7_method_2_code 9 = .ok (.return_, 1) := by decide +kernel
theorem d_Fl_add_10 : decode prog_7_method_2_code 10 = .ok (.aload_n 0, 1) := by decide +kernel
theorem d_Fl_add_11 : decode prog_7_method_2_code 11 = .ok (.getfield 9, 3) := by decide +kernel
theorem d_Fl_add_14 : decode prog_7_method_2_code 14 = .ok (.aload_n 0, 1) := by decide +kernel
theorem d_Fl_add_15 : decode prog_7_method_2_code 15 = .ok (.getfield 21, 3) := by decide +kernel
theorem d_Fl_add_18 : decode prog_7_method_2_code 18 = .ok (.iload_n 1, 1) := by decide +kernel
theorem d_Fl_add_19 : decode prog_7_method_2_code 19 = .ok (.iastore, 1) := by decide +kernel
theorem d_Fl_add_20 : decode prog_7_method_2_code 20 = .ok (.aload_n 0, 1) := by decide +kernel
theorem d_Fl_add_21 : decode prog_7_method_2_code 21 = .ok (.getfield 15, 3) := by decide +kernel
theorem d_Fl_add_24 : decode prog_7_method_2_code 24 = .ok (.aload_n 0, 1) := by decide +kernel
theorem d_Fl_add_25 : decode prog_7_method_2_code 25 = .ok (.getfield 21, 3) := by decide +kernel
theorem d_Fl_add_28 : decode prog_7_method_2_code 28 = .ok (.iload_n 2, 1) := by decide +kernel
theorem d_Fl_add_29 : decode prog_7_method_2_code 29 = .ok (.iastore, 1) := by decide +kernel
theorem d_Fl_add_30 : decode prog_7_method_2_code 30 = .ok (.aload_n 0, 1) := by decide +kernel
theorem d_Fl_add_31 : decode prog_7_method_2_code 31 = .ok (.getfield 18, 3) := by decide +kernel
theorem d_Fl_add_34 : decode prog_7_method_2_code 34 = .ok (.aload_n 0, 1) := by decide +kernel
theorem d_Fl_add_35 : decode prog_7_method_2_code 35 = .ok (.getfield 21, 3) := by decide +kernel
theorem d_Fl_add_38 : decode prog_7_method_2_code 38 = .ok (.iload_n 3, 1) := by decide +kernel
theorem d_Fl_add_39 : decode prog_7_method_2_code 39 = .ok (.iastore, 1) := by decide +kernel
theorem d_Fl_add_40 : decode prog_7_method_2_code 40 = .ok (.aload_n 0, 1) := by decide +kernel
theorem d_Fl_add_41 : decode prog_7_method_2_code 41 = .ok (.dup, 1) := by decide +kernel
theorem d_Fl_add_42 : decode prog_7_method_2_code 42 = .ok (.getfield 21, 3) := by decide +kernel
theorem d_Fl_add_45 : decode prog_7_method_2_code 45 = .ok (.iconst 1, 1) := by decide +kernel
theorem d_Fl_add_46 : decode prog_7_method_2_code 46 = .ok (.iadd, 1) := by decide +kernel
theorem d_Fl_add_47 : decode prog_7_method_2_code 47 = .ok (.putfield 21, 3) := by decide +kernel
theorem d_Fl_add_50 : decode prog_7_method_2_code 50 = .ok (.return_, 1) := by decide +kernel
def vc_Fl_add (fo : Nat → Int) (fh : Nat → Int) (fs : Nat → Int) (fn : Int) (ob : Int) (hour : Int) (sec : Int) (post : (Nat → Int) → (Nat → Int) → (Nat → Int) → Int → Prop) : Prop := (r32 fn) ∧ ((fn < 40 → (0 ≤ fn ∧ fn < 40) ∧ ((0 ≤ fn ∧ fn < 40) ∧ ((0 ≤ fn ∧ fn < 40) ∧ (post (va_up fo (fn).toNat ob) (va_up fh (fn).toNat hour) (va_up fs (fn).toNat sec) (fn + 1))))) ∧ (40 ≤ fn → post fo fh fs fn))
set_option maxHeartbeats 4000000 in
set_option maxRecDepth 100000 in
theorem m_Fl_add (l : Launch) (D : va_G) (cI cJ cO cZ : ClassId) (h0 h1 h2 h3 : Nat) (sz : Nat) (fo : Nat → Int) (fh : Nat → Int) (fs : Nat → Int) (fn : Int) (ob : Int) (hour : Int) (sec : Int) (post : (Nat → Int) → (Nat → Int) → (Nat → Int) → Int → Prop) (v : vc_Fl_add fo fh fs fn ob hour sec post) : Met l ⟨"LightDoses$Flashes", "add", "(III)V"⟩ (.code ⟨"LightDoses$Flashes", "add", "(III)V"⟩ prog_7_method_2_code 4 none :: TG) { frames := 0, cells := 0, slots := 0, locals := 0 } (va_Pc [.ref h0, .int (iI ob), .int (iI hour), .int (iI sec)] (fun U => U.heap.size = sz ∧ va_P D vwCl [(h0, .inr (5, [.ref h1, .ref h2, .ref h3, .int (iI fn)])), (h1, .inl (cI, 40, .inl (fun k => iI (fo k)))), (h2, .inl (cI, 40, .inl (fun k => iI (fh k)))), (h3, .inl (cI, 40, .inl (fun k => iI (fs k))))] U.heap ∧ va_K D vwCl (tyx cI cJ cO cZ) U ∧ va_D (fun _ => True) [(h0, .inr (5, [.ref h1, .ref h2, .ref h3, .int (iI fn)])), (h1, .inl (cI, 40, .inl (fun k => iI (fo k)))), (h2, .inl (cI, 40, .inl (fun k => iI (fh k)))), (h3, .inl (cI, 40, .inl (fun k => iI (fs k))))])) (va_Qv (fun u : (Nat → Int) × (Nat → Int) × (Nat → Int) × Int => post u.1 u.2.1 u.2.2.1 u.2.2.2) (fun u t => va_P D vwCl [(h0, .inr (5, [.ref h1, .ref h2, .ref h3, .int (iI u.2.2.2)])), (h1, .inl (cI, 40, .inl (fun k => iI (u.1 k)))), (h2, .inl (cI, 40, .inl (fun k => iI (u.2.1 k)))), (h3, .inl (cI, 40, .inl (fun k => iI (u.2.2.1 k))))] t.heap ∧ va_K D vwCl (tyx cI cJ cO cZ) t ∧ va_D (va_A [(h0, .inr (5, [.ref h1, .ref h2, .ref h3, .int (iI fn)])), (h1, .inl (cI, 40, .inl (fun k => iI (fo k)))), (h2, .inl (cI, 40, .inl (fun k => iI (fh k)))), (h3, .inl (cI, 40, .inl (fun k => iI (fs k))))] sz) [(h0, .inr (5, [.ref h1, .ref h2, .ref h3, .int (iI u.2.2.2)])), (h1, .inl (cI, 40, .inl (fun k => iI (u.1 k)))), (h2, .inl (cI, 40, .inl (fun k => iI (u.2.1 k)))), (h3, .inl (cI, 40, .inl (fun k => iI (u.2.2.1 k))))]) (va_A [(h0, .inr (5, [.ref h1, .ref h2, .ref h3, .int (iI fn)])), (h1, .inl (cI, 40, .inl (fun k => iI (fo k)))), (h2, .inl (cI, 40, .inl (fun k => iI (fh k)))), (h3, .inl (cI, 40, .inl (fun k => iI (fs k))))] sz)) 0 0 (va_A [(h0, .inr (5, [.ref h1, .ref h2, .ref h3, .int (iI fn)])), (h1, .inl (cI, 40, .inl (fun k => iI (fo k)))), (h2, .inl (cI, 40, .inl (fun k => iI (fh k)))), (h3, .inl (cI, 40, .inl (fun k => iI (fs k))))] sz) := by
  refine Met.ofW (cc := prog_7_method_2_code) (maxL := 4) (ret := none) (by decide) rfl ?_
  intro p e s m args below meth c s₁ B hml hv
  obtain ⟨rfl, hsz, hP, hK, hD0⟩ := hv
  have hx := B.exec
  have hb := B.bytes
  have hr := B.returns
  have hts0 := atoms_spec (ws := (.code ⟨"LightDoses$Flashes", "add", "(III)V"⟩ prog_7_method_2_code 4 none :: TG)) B.pre
  have hts : ∀ w ∈ TG, w.before _ s = true := fun w h => hts0 w (List.mem_cons_of_mem _ h)
  have hown : s.vm.findClass "LightDoses$Flashes" = some m.cls := findClass_of_methodNamed B.named
  have hlocks := B.notSynchronized
  subst hsz
  have hD := hD0.self (sz := s.heap.size)
  generalize hAe : va_A [(h0, .inr (5, [.ref h1, .ref h2, .ref h3, .int (iI fn)])), (h1, .inl (cI, 40, .inl (fun k => iI (fo k)))), (h2, .inl (cI, 40, .inl (fun k => iI (fh k)))), (h3, .inl (cI, 40, .inl (fun k => iI (fs k))))] s.heap.size = A at hD ⊢
  have hA : ∀ q : Nat, s.heap.size ≤ q → A q := fun q h => by rw [← hAe]; exact Or.inr h
  have hS : va_S A s.heap s.heap [] := va_S.rf
  have hP : va_P D vwCl [(h0, .inr (5, [.ref h1, .ref h2, .ref h3, .int (iI fn)])), (h1, .inl (cI, 40, .inl (fun k => iI (fo k)))), (h2, .inl (cI, 40, .inl (fun k => iI (fh k)))), (h3, .inl (cI, 40, .inl (fun k => iI (fs k))))] s.heap := hP
  have hl := lv_entry ([Value.ref h0, Value.int (iI ob), Value.int (iI hour), Value.int (iI sec)]) (n := 4) (Nat.le_of_ble_eq_true rfl)
  rw [lg_entry_eq]
  generalize (lg_sl ([Value.ref h0, Value.int (iI ob), Value.int (iI hour), Value.int (iI sec)]) ++ List.replicate (4 - (lg_sl ([Value.ref h0, Value.int (iI ob), Value.int (iI hour), Value.int (iI sec)])).length) Slot.unset).toArray = ls at hl ⊢
  have hl : lv_has ls 4 [(0, .ref h0), (1, .int (iI ob)), (2, .int (iI hour)), (3, .int (iI sec))] := hl
  unfold vc_Fl_add at v
  obtain ⟨H, hH⟩ : ∃ H, H = s.heap := ⟨_, rfl⟩
  obtain ⟨locs, hlc⟩ : ∃ L : List Loc, L = [] := ⟨_, rfl⟩
  rw [← hlc] at hS ⊢
  have hP : va_P D vwCl [(h0, .inr (5, [.ref h1, .ref h2, .ref h3, .int (iI fn)])), (h1, .inl (cI, 40, .inl (fun k => iI (fo k)))), (h2, .inl (cI, 40, .inl (fun k => iI (fh k)))), (h3, .inl (cI, 40, .inl (fun k => iI (fs k))))] H := by rw [hH]; exact hP
  have hS : va_S A s.heap H locs := by rw [hH]; exact hS
  have hW0 : ∀ {X : Heap → Prop}, X H → X s.heap := fun h => by rw [← hH]; exact h
  refine hW0 (X := fun Z => W p l e _ s m _ below meth c Z locs 0 0 _ _) ?_
  refine lv_aload_n hx hb d_Fl_add_0 rfl (lv_at hl 0 rfl) ?_
  refine va_get (D := D) (ci := 5) (v := .int (iI fn)) (C := "LightDoses$Flashes") (T := T_Fl) (N := 4) hx hb hts in_Fl hown hK hP 0 rfl rfl 3 (by decide) (hts _ wd_87) (fun _ h9 => h9) rfl d_Fl_add_1 ?_
  refine nv_bipush (z := 40) hx hb d_Fl_add_4 (by decide) ?_
  obtain ⟨k1, v⟩ := v
  refine nv_icmp_lt (tgt := 10) hx hb d_Fl_add_6 (by decide) k1 (by decide) (fun c2 => ?_) (fun c2 => ?_)
  · replace v := v.1 c2
    refine lv_aload_n hx hb d_Fl_add_10 rfl (lv_at hl 0 rfl) ?_
    refine va_get (D := D) (ci := 5) (v := .ref h1) (C := "LightDoses$Flashes") (T := T_Fl) (N := 4) hx hb hts in_Fl hown hK hP 0 rfl rfl 0 (by decide) (hts _ wd_84) (fun _ h9 => h9) rfl d_Fl_add_11 ?_
    refine lv_aload_n hx hb d_Fl_add_14 rfl (lv_at hl 0 rfl) ?_
    refine va_get (D := D) (ci := 5) (v := .int (iI fn)) (C := "LightDoses$Flashes") (T := T_Fl) (N := 4) hx hb hts in_Fl hown hK hP 0 rfl rfl 3 (by decide) (hts _ wd_87) (fun _ h9 => h9) rfl d_Fl_add_15 ?_
    refine lv_iload_n hx hb d_Fl_add_18 rfl (lv_at hl 1 rfl) ?_
    obtain ⟨k3, v⟩ := v
    refine nv_iast (f := fo) hx hb hK hP hD hS 1 0 rfl rfl (fn).toNat (Int.toNat_of_nonneg k3.1).symm (by omega) (by decide) d_Fl_add_19 (fun H locs hP hD hS => ?_)
    have hP : va_P D vwCl [(h0, .inr (5, [.ref h1, .ref h2, .ref h3, .int (iI fn)])), (h1, .inl (cI, 40, .inl (fun k => iI ((va_up fo (fn).toNat ob) k)))), (h2, .inl (cI, 40, .inl (fun k => iI (fh k)))), (h3, .inl (cI, 40, .inl (fun k => iI (fs k))))] H := hP
    have hD : va_D A [(h0, .inr (5, [.ref h1, .ref h2, .ref h3, .int (iI fn)])), (h1, .inl (cI, 40, .inl (fun k => iI ((va_up fo (fn).toNat ob) k)))), (h2, .inl (cI, 40, .inl (fun k => iI (fh k)))), (h3, .inl (cI, 40, .inl (fun k => iI (fs k))))] := hD
    refine lv_aload_n hx hb d_Fl_add_20 rfl (lv_at hl 0 rfl) ?_
    refine va_get (D := D) (ci := 5) (v := .ref h2) (C := "LightDoses$Flashes") (T := T_Fl) (N := 4) hx hb hts in_Fl hown hK hP 0 rfl rfl 1 (by decide) (hts _ wd_85) (fun _ h9 => h9) rfl d_Fl_add_21 ?_
    refine lv_aload_n hx hb d_Fl_add_24 rfl (lv_at hl 0 rfl) ?_
    refine va_get (D := D) (ci := 5) (v := .int (iI fn)) (C := "LightDoses$Flashes") (T := T_Fl) (N := 4) hx hb hts in_Fl hown hK hP 0 rfl rfl 3 (by decide) (hts _ wd_87) (fun _ h9 => h9) rfl d_Fl_add_25 ?_
    refine lv_iload_n hx hb d_Fl_add_28 rfl (lv_at hl 2 rfl) ?_
    obtain ⟨k4, v⟩ := v
    refine nv_iast (f := fh) hx hb hK hP hD hS 2 0 rfl rfl (fn).toNat (Int.toNat_of_nonneg k4.1).symm (by omega) (by decide) d_Fl_add_29 (fun H locs hP hD hS => ?_)
    have hP : va_P D vwCl [(h0, .inr (5, [.ref h1, .ref h2, .ref h3, .int (iI fn)])), (h1, .inl (cI, 40, .inl (fun k => iI ((va_up fo (fn).toNat ob) k)))), (h2, .inl (cI, 40, .inl (fun k => iI ((va_up fh (fn).toNat hour) k)))), (h3, .inl (cI, 40, .inl (fun k => iI (fs k))))] H := hP
    have hD : va_D A [(h0, .inr (5, [.ref h1, .ref h2, .ref h3, .int (iI fn)])), (h1, .inl (cI, 40, .inl (fun k => iI ((va_up fo (fn).toNat ob) k)))), (h2, .inl (cI, 40, .inl (fun k => iI ((va_up fh (fn).toNat hour) k)))), (h3, .inl (cI, 40, .inl (fun k => iI (fs k))))] := hD
    refine lv_aload_n hx hb d_Fl_add_30 rfl (lv_at hl 0 rfl) ?_
    refine va_get (D := D) (ci := 5) (v := .ref h3) (C := "LightDoses$Flashes") (T := T_Fl) (N := 4) hx hb hts in_Fl hown hK hP 0 rfl rfl 2 (by decide) (hts _ wd_86) (fun _ h9 => h9) rfl d_Fl_add_31 ?_
    refine lv_aload_n hx hb d_Fl_add_34 rfl (lv_at hl 0 rfl) ?_
    refine va_get (D := D) (ci := 5) (v := .int (iI fn)) (C := "LightDoses$Flashes") (T := T_Fl) (N := 4) hx hb hts in_Fl hown hK hP 0 rfl rfl 3 (by decide) (hts _ wd_87) (fun _ h9 => h9) rfl d_Fl_add_35 ?_
    refine lv_iload_n hx hb d_Fl_add_38 rfl (lv_at hl 3 rfl) ?_
    obtain ⟨k5, v⟩ := v
    refine nv_iast (f := fs) hx hb hK hP hD hS 3 0 rfl rfl (fn).toNat (Int.toNat_of_nonneg k5.1).symm (by omega) (by decide) d_Fl_add_39 (fun H locs hP hD hS => ?_)
    have hP : va_P D vwCl [(h0, .inr (5, [.ref h1, .ref h2, .ref h3, .int (iI fn)])), (h1, .inl (cI, 40, .inl (fun k => iI ((va_up fo (fn).toNat ob) k)))), (h2, .inl (cI, 40, .inl (fun k => iI ((va_up fh (fn).toNat hour) k)))), (h3, .inl (cI, 40, .inl (fun k => iI ((va_up fs (fn).toNat sec) k))))] H := hP
    have hD : va_D A [(h0, .inr (5, [.ref h1, .ref h2, .ref h3, .int (iI fn)])), (h1, .inl (cI, 40, .inl (fun k => iI ((va_up fo (fn).toNat ob) k)))), (h2, .inl (cI, 40, .inl (fun k => iI ((va_up fh (fn).toNat hour) k)))), (h3, .inl (cI, 40, .inl (fun k => iI ((va_up fs (fn).toNat sec) k))))] := hD
    refine lv_aload_n hx hb d_Fl_add_40 rfl (lv_at hl 0 rfl) ?_
    refine lv_dup hx hb d_Fl_add_41 rfl ?_
    refine va_get (D := D) (ci := 5) (v := .int (iI fn)) (C := "LightDoses$Flashes") (T := T_Fl) (N := 4) hx hb hts in_Fl hown hK hP 0 rfl rfl 3 (by decide) (hts _ wd_87) (fun _ h9 => h9) rfl d_Fl_add_42 ?_
    refine nv_iconst (n := 1) hx hb d_Fl_add_45 ?_
    refine nv_iadd (z := fn + 1) hx hb d_Fl_add_46 (by first | rfl | omega) ?_
    refine va_put (D := D) (ci := 5) (v := .int (iI (fn + 1))) (ty := .int) (C := "LightDoses$Flashes") (T := T_Fl) (N := 4) hx hb hts in_Fl t_Fl tok_Fl n_Fl hown hK hP hD hS 0 rfl rfl 3 (by decide) (hts _ wd_87) (fun _ h9 => h9) rfl (by decide +kernel) rfl rfl (Nat.le_of_ble_eq_true rfl) d_Fl_add_47 (fun H locs hP hD hS => ?_)
    have hP : va_P D vwCl [(h0, .inr (5, [.ref h1, .ref h2, .ref h3, .int (iI (fn + 1))])), (h1, .inl (cI, 40, .inl (fun k => iI ((va_up fo (fn).toNat ob) k)))), (h2, .inl (cI, 40, .inl (fun k => iI ((va_up fh (fn).toNat hour) k)))), (h3, .inl (cI, 40, .inl (fun k => iI ((va_up fs (fn).toNat sec) k))))] H := hP
    have hD : va_D A [(h0, .inr (5, [.ref h1, .ref h2, .ref h3, .int (iI (fn + 1))])), (h1, .inl (cI, 40, .inl (fun k => iI ((va_up fo (fn).toNat ob) k)))), (h2, .inl (cI, 40, .inl (fun k => iI ((va_up fh (fn).toNat hour) k)))), (h3, .inl (cI, 40, .inl (fun k => iI ((va_up fs (fn).toNat sec) k))))] := hD
    have hP9 := hP.sub (ws' := [(h0, .inr (5, [.ref h1, .ref h2, .ref h3, .int (iI (fn + 1))])), (h1, .inl (cI, 40, .inl (fun k => iI ((va_up fo (fn).toNat ob) k)))), (h2, .inl (cI, 40, .inl (fun k => iI ((va_up fh (fn).toNat hour) k)))), (h3, .inl (cI, 40, .inl (fun k => iI ((va_up fs (fn).toNat sec) k))))]) [0, 1, 2, 3] rfl
    have hD9 := hD.sub (ws' := [(h0, .inr (5, [.ref h1, .ref h2, .ref h3, .int (iI (fn + 1))])), (h1, .inl (cI, 40, .inl (fun k => iI ((va_up fo (fn).toNat ob) k)))), (h2, .inl (cI, 40, .inl (fun k => iI ((va_up fh (fn).toNat hour) k)))), (h3, .inl (cI, 40, .inl (fun k => iI ((va_up fs (fn).toNat sec) k))))]) [0, 1, 2, 3] (by decide) rfl
    exact W.vret hx hb hr (fun t ht hW => ⟨⟨((va_up fo (fn).toNat ob), (va_up fh (fn).toNat hour), (va_up fs (fn).toNat sec), (fn + 1)), rfl, v, by rw [ht]; exact hP9, va_K.moved hW.alike hK, hD9⟩, hS.F ht⟩) hS.2.2 d_Fl_add_50
  · replace v := v.2 c2
    have hP9 := hP.sub (ws' := [(h0, .inr (5, [.ref h1, .ref h2, .ref h3, .int (iI fn)])), (h1, .inl (cI, 40, .inl (fun k => iI (fo k)))), (h2, .inl (cI, 40, .inl (fun k => iI (fh k)))), (h3, .inl (cI, 40, .inl (fun k => iI (fs k))))]) [0, 1, 2, 3] rfl
    have hD9 := hD.sub (ws' := [(h0, .inr (5, [.ref h1, .ref h2, .ref h3, .int (iI fn)])), (h1, .inl (cI, 40, .inl (fun k => iI (fo k)))), (h2, .inl (cI, 40, .inl (fun k => iI (fh k)))), (h3, .inl (cI, 40, .inl (fun k => iI (fs k))))]) [0, 1, 2, 3] (by decide) rfl
    exact W.vret hx hb hr (fun t ht hW => ⟨⟨((fo), (fh), (fs), (fn)), rfl, v, by rw [ht]; exact hP9, va_K.moved hW.alike hK, hD9⟩, hS.F ht⟩) hS.2.2 d_Fl_add_9

theorem d_Fl_init_0 : decode prog_7_method_1_code 0 = .ok (.aload_n 0, 1) := by decide +kernel
theorem d_Fl_init_1 : decode prog_7_method_1_code 1 = .ok (.invokespecial 3, 3) := by decide +kernel
theorem d_Fl_init_4 : decode prog_7_method_1_code 4 = .ok (.aload_n 0, 1) := by decide +kernel
theorem d_Fl_init_5 : decode prog_7_method_1_code 5 = .ok (.bipush 40, 2) := by decide +kernel
theorem d_Fl_init_7 : decode prog_7_method_1_code 7 = .ok (.newarray .int, 2) := by decide +kernel
theorem d_Fl_init_9 : decode prog_7_method_1_code 9 = .ok (.putfield 9, 3) := by decide +kernel
theorem d_Fl_init_12 : decode prog_7_method_1_code 12 = .ok (.aload_n 0, 1) := by decide +kernel
theorem d_Fl_init_13 : decode prog_7_method_1_code 13 = .ok (.bipush 40, 2) := by decide +kernel
theorem d_Fl_init_15 : decode prog_7_method_1_code 15 = .ok (.newarray .int, 2) := by decide +kernel
theorem d_Fl_init_17 : decode prog_7_method_1_code 17 = .ok (.putfield 15, 3) := by decide +kernel
theorem d_Fl_init_20 : decode prog_7_method_1_code 20 = .ok (.aload_n 0, 1) := by decide +kernel
theorem d_Fl_init_21 : decode prog_7_method_1_code 21 = .ok (.bipush 40, 2) := by decide +kernel
theorem d_Fl_init_23 : decode prog_7_method_1_code 23 = .ok (.newarray .int, 2) := by decide +kernel
theorem d_Fl_init_25 : decode prog_7_method_1_code 25 = .ok (.putfield 18, 3) := by decide +kernel
theorem d_Fl_init_28 : decode prog_7_method_1_code 28 = .ok (.aload_n 0, 1) := by decide +kernel
theorem d_Fl_init_29 : decode prog_7_method_1_code 29 = .ok (.iconst 0, 1) := by decide +kernel
theorem d_Fl_init_30 : decode prog_7_method_1_code 30 = .ok (.putfield 21, 3) := by decide +kernel
theorem d_Fl_init_33 : decode prog_7_method_1_code 33 = .ok (.return_, 1) := by decide +kernel
def vc_Fl_init  (post : (Nat → Int) → (Nat → Int) → (Nat → Int) → Int → Prop) : Prop := post (fun _ => 0) (fun _ => 0) (fun _ => 0) 0
set_option maxHeartbeats 4000000 in
set_option maxRecDepth 100000 in
theorem m_Fl_init (l : Launch) (D : va_G) (cI cJ cO cZ : ClassId) (h0 : Nat) (sz : Nat)  (post : (Nat → Int) → (Nat → Int) → (Nat → Int) → Int → Prop) (v : vc_Fl_init  post) : Met l ⟨"LightDoses$Flashes", "<init>", "()V"⟩ (.code ⟨"LightDoses$Flashes", "<init>", "()V"⟩ prog_7_method_1_code 1 none :: TG) { frames := 1, cells := 3, slots := 120, locals := 24 } (va_Pc [.ref h0] (fun U => U.heap.size = sz ∧ va_P D vwCl [(h0, .inr (5, [.null, .null, .null, .int (iI 0)]))] U.heap ∧ va_K D vwCl (tyx cI cJ cO cZ) U ∧ va_D (fun _ => True) [(h0, .inr (5, [.null, .null, .null, .int (iI 0)]))])) (va_Qv (fun u : (Nat → Int) × (Nat → Int) × (Nat → Int) × Int => post u.1 u.2.1 u.2.2.1 u.2.2.2) (fun u t => ∃ (h1 h2 h3 : Nat), va_P D vwCl [(h0, .inr (5, [.ref h1, .ref h2, .ref h3, .int (iI u.2.2.2)])), (h1, .inl (cI, 40, .inl (fun k => iI (u.1 k)))), (h2, .inl (cI, 40, .inl (fun k => iI (u.2.1 k)))), (h3, .inl (cI, 40, .inl (fun k => iI (u.2.2.1 k))))] t.heap ∧ va_K D vwCl (tyx cI cJ cO cZ) t ∧ va_D (va_A [(h0, .inr (5, [.null, .null, .null, .int (iI 0)]))] sz) [(h0, .inr (5, [.ref h1, .ref h2, .ref h3, .int (iI u.2.2.2)])), (h1, .inl (cI, 40, .inl (fun k => iI (u.1 k)))), (h2, .inl (cI, 40, .inl (fun k => iI (u.2.1 k)))), (h3, .inl (cI, 40, .inl (fun k => iI (u.2.2.1 k))))]) (va_A [(h0, .inr (5, [.null, .null, .null, .int (iI 0)]))] sz)) 3 120 (va_A [(h0, .inr (5, [.null, .null, .null, .int (iI 0)]))] sz) := by
  refine Met.ofW (cc := prog_7_method_1_code) (maxL := 1) (ret := none) (by decide) rfl ?_
  intro p e s m args below meth c s₁ B hml hv
  obtain ⟨rfl, hsz, hP, hK, hD0⟩ := hv
  have hx := B.exec
  have hb := B.bytes
  have hr := B.returns
  have hts0 := atoms_spec (ws := (.code ⟨"LightDoses$Flashes", "<init>", "()V"⟩ prog_7_method_1_code 1 none :: TG)) B.pre
  have hts : ∀ w ∈ TG, w.before _ s = true := fun w h => hts0 w (List.mem_cons_of_mem _ h)
  have hown : s.vm.findClass "LightDoses$Flashes" = some m.cls := findClass_of_methodNamed B.named
  have hlocks := B.notSynchronized
  have hin : meth.name = "<init>" := (name_of_methodNamed B.named B.method).1
  subst hsz
  have hD := hD0.self (sz := s.heap.size)
  generalize hAe : va_A [(h0, .inr (5, [.null, .null, .null, .int (iI 0)]))] s.heap.size = A at hD ⊢
  have hA : ∀ q : Nat, s.heap.size ≤ q → A q := fun q h => by rw [← hAe]; exact Or.inr h
  have hS : va_S A s.heap s.heap [] := va_S.rf
  have hP : va_P D vwCl [(h0, .inr (5, [.null, .null, .null, .int (iI 0)]))] s.heap := hP
  have hl := lv_entry ([Value.ref h0]) (n := 1) (Nat.le_of_ble_eq_true rfl)
  rw [lg_entry_eq]
  generalize (lg_sl ([Value.ref h0]) ++ List.replicate (1 - (lg_sl ([Value.ref h0])).length) Slot.unset).toArray = ls at hl ⊢
  have hl : lv_has ls 1 [(0, .ref h0)] := hl
  unfold vc_Fl_init at v
  obtain ⟨H, hH⟩ : ∃ H, H = s.heap := ⟨_, rfl⟩
  obtain ⟨locs, hlc⟩ : ∃ L : List Loc, L = [] := ⟨_, rfl⟩
  rw [← hlc] at hS ⊢
  have hP : va_P D vwCl [(h0, .inr (5, [.null, .null, .null, .int (iI 0)]))] H := by rw [hH]; exact hP
  have hS : va_S A s.heap H locs := by rw [hH]; exact hS
  have hW0 : ∀ {X : Heap → Prop}, X H → X s.heap := fun h => by rw [← hH]; exact h
  refine hW0 (X := fun Z => W p l e _ s m _ below meth c Z locs 0 0 _ _) ?_
  refine lv_aload_n hx hb d_Fl_init_0 rfl (lv_at hl 0 rfl) ?_
  refine W.objInit hx hb hown (hts _ wd_83) (hts _ wd_31) (hts _ wd_32) rfl (by rw [hml]; exact hl.1) rfl d_Fl_init_1 (Nat.le_of_ble_eq_true rfl) (Nat.le_of_ble_eq_true rfl) ?_
  refine W.eq (g2 := F0 m 4 ls []) rfl ?_
  refine lv_aload_n hx hb d_Fl_init_4 rfl (lv_at hl 0 rfl) ?_
  refine nv_bipush (z := 40) hx hb d_Fl_init_5 (by decide) ?_
  refine nv_newi hx hb (hts _ wd_76) hK hP hD hS hA 0 rfl 40 rfl (by decide) (Nat.le_of_ble_eq_true rfl) (Nat.le_of_ble_eq_true rfl) d_Fl_init_7 (fun q1 H hP hD hS => ?_)
  have hP : va_P D vwCl [(h0, .inr (5, [.null, .null, .null, .int (iI 0)])), (q1, .inl (cI, 40, .inl (fun k => iI ((fun _ => 0) k))))] H := hP
  have hD : va_D A [(h0, .inr (5, [.null, .null, .null, .int (iI 0)])), (q1, .inl (cI, 40, .inl (fun k => iI ((fun _ => 0) k))))] := hD
  refine W.widen (k := 1) (n := 40) (Nat.le_of_ble_eq_true rfl) (Nat.le_of_ble_eq_true rfl) ?_
  refine va_putF (D := D) (ci := 5) (v := .ref q1) (ty := .array .int) (C := "LightDoses$Flashes") (T := T_Fl) (N := 4) hx hb hts in_Fl t_Fl tok_Fl n_Fl hown hK hP hD hS 0 rfl rfl 0 (by decide) (hts _ wd_84) (fun _ h9 => h9) rfl hin rfl (by decide +kernel) rfl rfl (Nat.le_of_ble_eq_true rfl) d_Fl_init_9 (fun H locs hP hD hS => ?_)
  have hP : va_P D vwCl [(h0, .inr (5, [.ref q1, .null, .null, .int (iI 0)])), (q1, .inl (cI, 40, .inl (fun k => iI ((fun _ => 0) k))))] H := hP
  have hD : va_D A [(h0, .inr (5, [.ref q1, .null, .null, .int (iI 0)])), (q1, .inl (cI, 40, .inl (fun k => iI ((fun _ => 0) k))))] := hD
  refine lv_aload_n hx hb d_Fl_init_12 rfl (lv_at hl 0 rfl) ?_
  refine nv_bipush (z := 40) hx hb d_Fl_init_13 (by decide) ?_
  refine nv_newi hx hb (hts _ wd_76) hK hP hD hS hA 0 rfl 40 rfl (by decide) (Nat.le_of_ble_eq_true rfl) (Nat.le_of_ble_eq_true rfl) d_Fl_init_15 (fun q2 H hP hD hS => ?_)
  have hP : va_P D vwCl [(h0, .inr (5, [.ref q1, .null, .null, .int (iI 0)])), (q1, .inl (cI, 40, .inl (fun k => iI ((fun _ => 0) k)))), (q2, .inl (cI, 40, .inl (fun k => iI ((fun _ => 0) k))))] H := hP
  have hD : va_D A [(h0, .inr (5, [.ref q1, .null, .null, .int (iI 0)])), (q1, .inl (cI, 40, .inl (fun k => iI ((fun _ => 0) k)))), (q2, .inl (cI, 40, .inl (fun k => iI ((fun _ => 0) k))))] := hD
  refine W.widen (k := 2) (n := 80) (Nat.le_of_ble_eq_true rfl) (Nat.le_of_ble_eq_true rfl) ?_
  refine va_putF (D := D) (ci := 5) (v := .ref q2) (ty := .array .int) (C := "LightDoses$Flashes") (T := T_Fl) (N := 4) hx hb hts in_Fl t_Fl tok_Fl n_Fl hown hK hP hD hS 0 rfl rfl 1 (by decide) (hts _ wd_85) (fun _ h9 => h9) rfl hin rfl (by decide +kernel) rfl rfl (Nat.le_of_ble_eq_true rfl) d_Fl_init_17 (fun H locs hP hD hS => ?_)
  have hP : va_P D vwCl [(h0, .inr (5, [.ref q1, .ref q2, .null, .int (iI 0)])), (q1, .inl (cI, 40, .inl (fun k => iI ((fun _ => 0) k)))), (q2, .inl (cI, 40, .inl (fun k => iI ((fun _ => 0) k))))] H := hP
  have hD : va_D A [(h0, .inr (5, [.ref q1, .ref q2, .null, .int (iI 0)])), (q1, .inl (cI, 40, .inl (fun k => iI ((fun _ => 0) k)))), (q2, .inl (cI, 40, .inl (fun k => iI ((fun _ => 0) k))))] := hD
  refine lv_aload_n hx hb d_Fl_init_20 rfl (lv_at hl 0 rfl) ?_
  refine nv_bipush (z := 40) hx hb d_Fl_init_21 (by decide) ?_
  refine nv_newi hx hb (hts _ wd_76) hK hP hD hS hA 0 rfl 40 rfl (by decide) (Nat.le_of_ble_eq_true rfl) (Nat.le_of_ble_eq_true rfl) d_Fl_init_23 (fun q3 H hP hD hS => ?_)
  have hP : va_P D vwCl [(h0, .inr (5, [.ref q1, .ref q2, .null, .int (iI 0)])), (q1, .inl (cI, 40, .inl (fun k => iI ((fun _ => 0) k)))), (q2, .inl (cI, 40, .inl (fun k => iI ((fun _ => 0) k)))), (q3, .inl (cI, 40, .inl (fun k => iI ((fun _ => 0) k))))] H := hP
  have hD : va_D A [(h0, .inr (5, [.ref q1, .ref q2, .null, .int (iI 0)])), (q1, .inl (cI, 40, .inl (fun k => iI ((fun _ => 0) k)))), (q2, .inl (cI, 40, .inl (fun k => iI ((fun _ => 0) k)))), (q3, .inl (cI, 40, .inl (fun k => iI ((fun _ => 0) k))))] := hD
  refine W.widen (k := 3) (n := 120) (Nat.le_of_ble_eq_true rfl) (Nat.le_of_ble_eq_true rfl) ?_
  refine va_putF (D := D) (ci := 5) (v := .ref q3) (ty := .array .int) (C := "LightDoses$Flashes") (T := T_Fl) (N := 4) hx hb hts in_Fl t_Fl tok_Fl n_Fl hown hK hP hD hS 0 rfl rfl 2 (by decide) (hts _ wd_86) (fun _ h9 => h9) rfl hin rfl (by decide +kernel) rfl rfl (Nat.le_of_ble_eq_true rfl) d_Fl_init_25 (fun H locs hP hD hS => ?_)
  have hP : va_P D vwCl [(h0, .inr (5, [.ref q1, .ref q2, .ref q3, .int (iI 0)])), (q1, .inl (cI, 40, .inl (fun k => iI ((fun _ => 0) k)))), (q2, .inl (cI, 40, .inl (fun k => iI ((fun _ => 0) k)))), (q3, .inl (cI, 40, .inl (fun k => iI ((fun _ => 0) k))))] H := hP
  have hD : va_D A [(h0, .inr (5, [.ref q1, .ref q2, .ref q3, .int (iI 0)])), (q1, .inl (cI, 40, .inl (fun k => iI ((fun _ => 0) k)))), (q2, .inl (cI, 40, .inl (fun k => iI ((fun _ => 0) k)))), (q3, .inl (cI, 40, .inl (fun k => iI ((fun _ => 0) k))))] := hD
  refine lv_aload_n hx hb d_Fl_init_28 rfl (lv_at hl 0 rfl) ?_
  refine nv_iconst (n := 0) hx hb d_Fl_init_29 ?_
  refine va_put (D := D) (ci := 5) (v := .int (iI 0)) (ty := .int) (C := "LightDoses$Flashes") (T := T_Fl) (N := 4) hx hb hts in_Fl t_Fl tok_Fl n_Fl hown hK hP hD hS 0 rfl rfl 3 (by decide) (hts _ wd_87) (fun _ h9 => h9) rfl (by decide +kernel) rfl rfl (Nat.le_of_ble_eq_true rfl) d_Fl_init_30 (fun H locs hP hD hS => ?_)
  have hP : va_P D vwCl [(h0, .inr (5, [.ref q1, .ref q2, .ref q3, .int (iI 0)])), (q1, .inl (cI, 40, .inl (fun k => iI ((fun _ => 0) k)))), (q2, .inl (cI, 40, .inl (fun k => iI ((fun _ => 0) k)))), (q3, .inl (cI, 40, .inl (fun k => iI ((fun _ => 0) k))))] H := hP
  have hD : va_D A [(h0, .inr (5, [.ref q1, .ref q2, .ref q3, .int (iI 0)])), (q1, .inl (cI, 40, .inl (fun k => iI ((fun _ => 0) k)))), (q2, .inl (cI, 40, .inl (fun k => iI ((fun _ => 0) k)))), (q3, .inl (cI, 40, .inl (fun k => iI ((fun _ => 0) k))))] := hD
  have hP9 := hP.sub (ws' := [(h0, .inr (5, [.ref q1, .ref q2, .ref q3, .int (iI 0)])), (q1, .inl (cI, 40, .inl (fun k => iI ((fun _ => 0) k)))), (q2, .inl (cI, 40, .inl (fun k => iI ((fun _ => 0) k)))), (q3, .inl (cI, 40, .inl (fun k => iI ((fun _ => 0) k))))]) [0, 1, 2, 3] rfl
  have hD9 := hD.sub (ws' := [(h0, .inr (5, [.ref q1, .ref q2, .ref q3, .int (iI 0)])), (q1, .inl (cI, 40, .inl (fun k => iI ((fun _ => 0) k)))), (q2, .inl (cI, 40, .inl (fun k => iI ((fun _ => 0) k)))), (q3, .inl (cI, 40, .inl (fun k => iI ((fun _ => 0) k))))]) [0, 1, 2, 3] (by decide) rfl
  exact W.vret hx hb hr (fun t ht hW => ⟨⟨(((fun _ => 0)), ((fun _ => 0)), ((fun _ => 0)), (0)), rfl, v, q1, q2, q3, by rw [ht]; exact hP9, va_K.moved hW.alike hK, hD9⟩, hS.F ht⟩) hS.2.2 d_Fl_init_33
