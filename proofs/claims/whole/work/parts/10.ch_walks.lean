/-! MODULE Changes: what the walks ask (vc_), and the contracts by it (m_) -/
theorem d_Ch_countUpTo_0 : decode prog_4_method_2_code 0 = .ok (.iconst 0, 1) := by decide +kernel
theorem d_Ch_countUpTo_1 : decode prog_4_method_2_code 1 = .ok (.istore_n 2, 1) := by decide +kernel
theorem d_Ch_countUpTo_2 : decode prog_4_method_2_code 2 = .ok (.bipush 16, 2) := by decide +kernel
theorem d_Ch_countUpTo_4 : decode prog_4_method_2_code 4 = .ok (.istore_n 3, 1) := by decide +kernel
theorem d_Ch_countUpTo_5 : decode prog_4_method_2_code 5 = .ok (.iload_n 3, 1) := by decide +kernel
theorem d_Ch_countUpTo_6 : decode prog_4_method_2_code 6 = .ok (.ifCond .le 38, 3) := by decide +kernel
theorem d_Ch_countUpTo_9 : decode prog_4_method_2_code 9 = .ok (.iload_n 2, 1) := by decide +kernel
theorem d_Ch_countUpTo_10 : decode prog_4_method_2_code 10 = .ok (.iload_n 3, 1) := by decide +kernel
theorem d_Ch_countUpTo_11 : decode prog_4_method_2_code 11 = .ok (.iadd, 1) := by decide +kernel
theorem d_Ch_countUpTo_12 : decode prog_4_method_2_code 12 = .ok (.aload_n 0, 1) := by decide +kernel
theorem d_Ch_countUpTo_13 : decode prog_4_method_2_code 13 = .ok (.getfield 22, 3) := by decide +kernel
theorem d_Ch_countUpTo_16 : decode prog_4_method_2_code 16 = .ok (.if_icmp .gt 21, 3) := by decide +kernel
theorem d_Ch_countUpTo_19 : decode prog_4_method_2_code 19 = .ok (.aload_n 0, 1) := by decide +kernel
theorem d_Ch_countUpTo_20 : decode prog_4_method_2_code 20 = .ok (.getfield 15, 3) := by decide +kernel
theorem d_Ch_countUpTo_23 : decode prog_4_method_2_code 23 = .ok (.iload_n 2, 1) := by decide +kernel
theorem d_Ch_countUpTo_24 : decode prog_4_method_2_code 24 = .ok (.iload_n 3, 1) := by decide +kernel
theorem d_Ch_countUpTo_25 : decode prog_4_method_2_code 25 = .ok (.iadd, 1) := by decide +kernel
theorem d_Ch_countUpTo_26 : decode prog_4_method_2_code 26 = .ok (.iconst 1, 1) := by decide +kernel
theorem d_Ch_countUpTo_27 : decode prog_4_method_2_code 27 = .ok (.isub, 1) := by decide +kernel
theorem d_Ch_countUpTo_28 : decode prog_4_method_2_code 28 = .ok (.iaload, 1) := by decide +kernel
theorem d_Ch_countUpTo_29 : decode prog_4_method_2_code 29 = .ok (.iload_n 1, 1) := by decide +kernel
theorem d_Ch_countUpTo_30 : decode prog_4_method_2_code 30 = .ok (.if_icmp .gt 7, 3) := by decide +kernel
theorem d_Ch_countUpTo_33 : decode prog_4_method_2_code 33 = .ok (.iload_n 2, 1) := by decide +kernel
theorem d_Ch_countUpTo_34 : decode prog_4_method_2_code 34 = .ok (.iload_n 3, 1) := by decide +kernel
theorem d_Ch_countUpTo_35 : decode prog_4_method_2_code 35 = .ok (.iadd, 1) := by decide +kernel
theorem d_Ch_countUpTo_36 : decode prog_4_method_2_code 36 = .ok (.istore_n 2, 1) := by decide +kernel
theorem d_Ch_countUpTo_37 : decode prog_4_method_2_code 37 = .ok (.iload_n 3, 1) := by decide +kernel
theorem d_Ch_countUpTo_38 : decode prog_4_method_2_code 38 = .ok (.iconst 2, 1) := by decide +kernel
theorem d_Ch_countUpTo_39 : decode prog_4_method_2_code 39 = .ok (.idiv, 1) := by decide +kernel
theorem d_Ch_countUpTo_40 : decode prog_4_method_2_code 40 = .ok (.istore_n 3, 1) := by decide +kernel
theorem d_Ch_countUpTo_41 : decode prog_4_method_2_code 41 = .ok (.goto (-36), 3) := by decide +kernel
theorem d_Ch_countUpTo_44 : decode prog_4_method_2_code 44 = .ok (.iload_n 2, 1) := by decide +kernel
theorem d_Ch_countUpTo_45 : decode prog_4_method_2_code 45 = .ok (.ireturn, 1) := by decide +kernel
def vc_Ch_countUpTo (fst : Int) (fh : Nat → Int) (fv : Nat → Int) (n : Int) (hour : Int) (post : Int → Prop) : Prop := ∃ (I1 : Int → Int → Prop) (μ2 : Int → Int → Nat), I1 0 16 ∧ ∀ (bf : Int) (st : Int), I1 bf st → (r32 st) ∧ ((st ≤ 0 → post bf) ∧ (0 < st → (r32 (bf + st)) ∧ ((r32 n) ∧ ((n < bf + st → (0 ≤ st) ∧ (I1 bf (st / 2) ∧ μ2 bf (st / 2) < μ2 bf st)) ∧ (bf + st ≤ n → (0 ≤ bf + st - 1 ∧ bf + st - 1 < 20) ∧ ((r32 (fh (bf + st - 1).toNat)) ∧ ((r32 hour) ∧ ((hour < fh (bf + st - 1).toNat → (0 ≤ st) ∧ (I1 bf (st / 2) ∧ μ2 bf (st / 2) < μ2 bf st)) ∧ (fh (bf + st - 1).toNat ≤ hour → (0 ≤ st) ∧ (I1 (bf + st) (st / 2) ∧ μ2 (bf + st) (st / 2) < μ2 bf st))))))))))
set_option maxHeartbeats 4000000 in
set_option maxRecDepth 100000 in
theorem m_Ch_countUpTo (l : Launch) (D : va_G) (cI cJ cO cZ : ClassId) (h0 h1 h2 : Nat) (fst : Int) (fh : Nat → Int) (fv : Nat → Int) (n : Int) (hour : Int) (post : Int → Prop) (v : vc_Ch_countUpTo fst fh fv n hour post) : Met l ⟨"LightDoses$Changes", "countUpTo", "(I)I"⟩ (.code ⟨"LightDoses$Changes", "countUpTo", "(I)I"⟩ prog_4_method_2_code 4 (some .int) :: TG) { frames := 0, cells := 0, slots := 0, locals := 0 } (va_Pc [.ref h0, .int (iI hour)] (fun U => va_K D vwCl (tyx cI cJ cO cZ) U ∧ va_P D vwCl [(h0, .inr (2, [.int (iI fst), .ref h1, .ref h2, .int (iI n)])), (h1, .inl (cI, 20, .inl (fun k => iI (fh k)))), (h2, .inl (cI, 20, .inl (fun k => iI (fv k))))] U.heap)) (vp_Si (fun r => ∃ z : Int, r = iI z ∧ post z)) 0 0 (fun _ => False) := by
  refine Met.ofW (cc := prog_4_method_2_code) (maxL := 4) (ret := (some .int)) (by decide) rfl ?_
  intro p e s m args below meth c s₁ B hml hv
  obtain ⟨rfl, hK, hP⟩ := hv
  have hx := B.exec
  have hb := B.bytes
  have hr := B.returns
  have hts0 := atoms_spec (ws := (.code ⟨"LightDoses$Changes", "countUpTo", "(I)I"⟩ prog_4_method_2_code 4 (some .int) :: TG)) B.pre
  have hts : ∀ w ∈ TG, w.before _ s = true := fun w h => hts0 w (List.mem_cons_of_mem _ h)
  have hown : s.vm.findClass "LightDoses$Changes" = some m.cls := findClass_of_methodNamed B.named
  have hlocks := B.notSynchronized
  have hP : va_P D vwCl [(h0, .inr (2, [.int (iI fst), .ref h1, .ref h2, .int (iI n)])), (h1, .inl (cI, 20, .inl (fun k => iI (fh k)))), (h2, .inl (cI, 20, .inl (fun k => iI (fv k))))] s.heap := hP
  have hl := lv_entry ([Value.ref h0, Value.int (iI hour)]) (n := 4) (Nat.le_of_ble_eq_true rfl)
  rw [lg_entry_eq]
  generalize (lg_sl ([Value.ref h0, Value.int (iI hour)]) ++ List.replicate (4 - (lg_sl ([Value.ref h0, Value.int (iI hour)])).length) Slot.unset).toArray = ls at hl ⊢
  have hl : lv_has ls 4 [(0, .ref h0), (1, .int (iI hour))] := hl
  unfold vc_Ch_countUpTo at v
  refine nv_iconst (n := 0) hx hb d_Ch_countUpTo_0 ?_
  refine lv_istore_n (lv' := [(2, .int (iI 0)), (0, .ref h0), (1, .int (iI hour))]) hx hb d_Ch_countUpTo_1 rfl hl (by decide) rfl (fun ls hl => ?_)
  refine nv_bipush (z := 16) hx hb d_Ch_countUpTo_2 (by decide) ?_
  refine lv_istore_n (lv' := [(3, .int (iI 16)), (2, .int (iI 0)), (0, .ref h0), (1, .int (iI hour))]) hx hb d_Ch_countUpTo_4 rfl hl (by decide) rfl (fun ls hl => ?_)
  obtain ⟨I1, μ2, v17, v18⟩ := v
  have L19 : ∀ (N : Nat) (bf : Int) (st : Int) (ls : Array Slot), μ2 bf st < N → I1 bf st → lv_has ls 4 [(0, .ref h0), (1, .int (iI hour)), (2, .int (iI bf)), (3, .int (iI st))] → W p l e (headSpec (.code ⟨"LightDoses$Changes", "countUpTo", "(I)I"⟩ prog_4_method_2_code 4 (some .int) :: TG) { frames := 0, cells := 0, slots := 0, locals := 0 }).room s m ([Value.ref h0, Value.int (iI hour)] : List Value).toArray below meth c s.heap [] 0 0 (MQ below (vp_Si (fun r => ∃ z : Int, r = iI z ∧ post z)) ([Value.ref h0, Value.int (iI hour)] : List Value).toArray s 0 0 (fun _ => False)) (F0 m 5 ls []) := by
    intro N
    induction N with
    | zero => intro bf st ls hN; exact absurd hN (Nat.not_lt_zero _)
    | succ N ih3 =>
      intro bf st ls hN4 hI hl
      have v := v18 bf st hI
      refine lv_iload_n hx hb d_Ch_countUpTo_5 rfl (lv_at hl 3 rfl) ?_
      obtain ⟨k5, v⟩ := v
      refine nv_if_le (tgt := 44) hx hb d_Ch_countUpTo_6 (by decide) k5 (fun c6 => ?_) (fun c6 => ?_)
      · replace v := v.1 c6
        refine lv_iload_n hx hb d_Ch_countUpTo_44 rfl (lv_at hl 2 rfl) ?_
        exact W.iret hx hb hr (fun t ht hW => ⟨_, rfl, ⟨_, rfl, v⟩, ht⟩) (fun q h => by cases h) d_Ch_countUpTo_45
      · replace v := v.2 c6
        refine lv_iload_n hx hb d_Ch_countUpTo_9 rfl (lv_at hl 2 rfl) ?_
        refine lv_iload_n hx hb d_Ch_countUpTo_10 rfl (lv_at hl 3 rfl) ?_
        refine nv_iadd (z := bf + st) hx hb d_Ch_countUpTo_11 (by first | rfl | omega) ?_
        refine lv_aload_n hx hb d_Ch_countUpTo_12 rfl (lv_at hl 0 rfl) ?_
        refine va_get (D := D) (ci := 2) (v := .int (iI n)) (C := "LightDoses$Changes") (T := T_Ch) (N := 4) hx hb hts in_Ch hown hK hP 0 rfl rfl 3 (by decide) (hts _ wd_481) (fun _ h9 => h9) rfl d_Ch_countUpTo_13 ?_
        obtain ⟨k7, v⟩ := v
        obtain ⟨k8, v⟩ := v
        refine nv_icmp_gt (tgt := 37) hx hb d_Ch_countUpTo_16 (by decide) k7 k8 (fun c9 => ?_) (fun c9 => ?_)
        · replace v := v.1 c9
          refine lv_iload_n hx hb d_Ch_countUpTo_37 rfl (lv_at hl 3 rfl) ?_
          refine nv_iconst (n := 2) hx hb d_Ch_countUpTo_38 ?_
          obtain ⟨k10, v⟩ := v
          refine nv_idiv (z := st / 2) hx hb d_Ch_countUpTo_39 k5 (by decide) k10 (by decide) rfl ?_
          refine lv_istore_n (lv' := [(3, .int (iI (st / 2))), (0, .ref h0), (1, .int (iI hour)), (2, .int (iI bf))]) hx hb d_Ch_countUpTo_40 rfl hl (by decide) rfl (fun ls hl => ?_)
          refine lv_goto (tgt := 5) hx hb d_Ch_countUpTo_41 (by decide) ?_
          exact ih3 bf (st / 2) ls (Nat.lt_of_lt_of_le v.2 (Nat.le_of_lt_succ hN4)) v.1 (lv_sub hl [1, 2, 3, 0] rfl)
        · replace v := v.2 c9
          refine lv_aload_n hx hb d_Ch_countUpTo_19 rfl (lv_at hl 0 rfl) ?_
          refine va_get (D := D) (ci := 2) (v := .ref h1) (C := "LightDoses$Changes") (T := T_Ch) (N := 4) hx hb hts in_Ch hown hK hP 0 rfl rfl 1 (by decide) (hts _ wd_479) (fun _ h9 => h9) rfl d_Ch_countUpTo_20 ?_
          refine lv_iload_n hx hb d_Ch_countUpTo_23 rfl (lv_at hl 2 rfl) ?_
          refine lv_iload_n hx hb d_Ch_countUpTo_24 rfl (lv_at hl 3 rfl) ?_
          refine nv_iadd (z := bf + st) hx hb d_Ch_countUpTo_25 (by first | rfl | omega) ?_
          refine nv_iconst (n := 1) hx hb d_Ch_countUpTo_26 ?_
          refine nv_isub (z := bf + st - 1) hx hb d_Ch_countUpTo_27 (by first | rfl | omega) ?_
          obtain ⟨k11, v⟩ := v
          refine nv_iald (f := fh) hx hb hK 0 (hP 1 _ rfl) rfl (bf + st - 1).toNat (Int.toNat_of_nonneg k11.1).symm (by omega) (by decide) d_Ch_countUpTo_28 ?_
          refine lv_iload_n hx hb d_Ch_countUpTo_29 rfl (lv_at hl 1 rfl) ?_
          obtain ⟨k12, v⟩ := v
          obtain ⟨k13, v⟩ := v
          refine nv_icmp_gt (tgt := 37) hx hb d_Ch_countUpTo_30 (by decide) k12 k13 (fun c14 => ?_) (fun c14 => ?_)
          · replace v := v.1 c14
            refine lv_iload_n hx hb d_Ch_countUpTo_37 rfl (lv_at hl 3 rfl) ?_
            refine nv_iconst (n := 2) hx hb d_Ch_countUpTo_38 ?_
            obtain ⟨k15, v⟩ := v
            refine nv_idiv (z := st / 2) hx hb d_Ch_countUpTo_39 k5 (by decide) k15 (by decide) rfl ?_
            refine lv_istore_n (lv' := [(3, .int (iI (st / 2))), (0, .ref h0), (1, .int (iI hour)), (2, .int (iI bf))]) hx hb d_Ch_countUpTo_40 rfl hl (by decide) rfl (fun ls hl => ?_)
            refine lv_goto (tgt := 5) hx hb d_Ch_countUpTo_41 (by decide) ?_
            exact ih3 bf (st / 2) ls (Nat.lt_of_lt_of_le v.2 (Nat.le_of_lt_succ hN4)) v.1 (lv_sub hl [1, 2, 3, 0] rfl)
          · replace v := v.2 c14
            refine lv_iload_n hx hb d_Ch_countUpTo_33 rfl (lv_at hl 2 rfl) ?_
            refine lv_iload_n hx hb d_Ch_countUpTo_34 rfl (lv_at hl 3 rfl) ?_
            refine nv_iadd (z := bf + st) hx hb d_Ch_countUpTo_35 (by first | rfl | omega) ?_
            refine lv_istore_n (lv' := [(2, .int (iI (bf + st))), (0, .ref h0), (1, .int (iI hour)), (3, .int (iI st))]) hx hb d_Ch_countUpTo_36 rfl hl (by decide) rfl (fun ls hl => ?_)
            refine lv_iload_n hx hb d_Ch_countUpTo_37 rfl (lv_at hl 3 rfl) ?_
            refine nv_iconst (n := 2) hx hb d_Ch_countUpTo_38 ?_
            obtain ⟨k16, v⟩ := v
            refine nv_idiv (z := st / 2) hx hb d_Ch_countUpTo_39 k5 (by decide) k16 (by decide) rfl ?_
            refine lv_istore_n (lv' := [(3, .int (iI (st / 2))), (2, .int (iI (bf + st))), (0, .ref h0), (1, .int (iI hour))]) hx hb d_Ch_countUpTo_40 rfl hl (by decide) rfl (fun ls hl => ?_)
            refine lv_goto (tgt := 5) hx hb d_Ch_countUpTo_41 (by decide) ?_
            exact ih3 (bf + st) (st / 2) ls (Nat.lt_of_lt_of_le v.2 (Nat.le_of_lt_succ hN4)) v.1 (lv_sub hl [2, 3, 1, 0] rfl)
  exact L19 _ 0 16 ls (Nat.lt_succ_self _) v17 (lv_sub hl [2, 3, 1, 0] rfl)

theorem d_Ch_tells_0 : decode prog_4_method_3_code 0 = .ok (.aload_n 0, 1) := by decide +kernel
theorem d_Ch_tells_1 : decode prog_4_method_3_code 1 = .ok (.iload_n 1, 1) := by decide +kernel
theorem d_Ch_tells_2 : decode prog_4_method_3_code 2 = .ok (.invokevirtual 25, 3) := by decide +kernel
theorem d_Ch_tells_5 : decode prog_4_method_3_code 5 = .ok (.istore_n 2, 1) := by decide +kernel
theorem d_Ch_tells_6 : decode prog_4_method_3_code 6 = .ok (.iload_n 2, 1) := by decide +kernel
theorem d_Ch_tells_7 : decode prog_4_method_3_code 7 = .ok (.ifCond .le 19, 3) := by decide +kernel
theorem d_Ch_tells_10 : decode prog_4_method_3_code 10 = .ok (.aload_n 0, 1) := by decide +kernel
theorem d_Ch_tells_11 : decode prog_4_method_3_code 11 = .ok (.getfield 15, 3) := by decide +kernel
theorem d_Ch_tells_14 : decode prog_4_method_3_code 14 = .ok (.iload_n 2, 1) := by decide +kernel
theorem d_Ch_tells_15 : decode prog_4_method_3_code 15 = .ok (.iconst 1, 1) := by decide +kernel
theorem d_Ch_tells_16 : decode prog_4_method_3_code 16 = .ok (.isub, 1) := by decide +kernel
theorem d_Ch_tells_17 : decode prog_4_method_3_code 17 = .ok (.iaload, 1) := by decide +kernel
theorem d_Ch_tells_18 : decode prog_4_method_3_code 18 = .ok (.iload_n 1, 1) := by decide +kernel
theorem d_Ch_tells_19 : decode prog_4_method_3_code 19 = .ok (.if_icmp .ne 7, 3) := by decide +kernel
theorem d_Ch_tells_22 : decode prog_4_method_3_code 22 = .ok (.iconst 1, 1) := by decide +kernel
theorem d_Ch_tells_23 : decode prog_4_method_3_code 23 = .ok (.goto 4, 3) := by decide +kernel
theorem d_Ch_tells_26 : decode prog_4_method_3_code 26 = .ok (.iconst 0, 1) := by decide +kernel
theorem d_Ch_tells_27 : decode prog_4_method_3_code 27 = .ok (.ireturn, 1) := by decide +kernel
def vc_Ch_tells (fst : Int) (fh : Nat → Int) (fv : Nat → Int) (n : Int) (hour : Int) (post : Int → Prop) : Prop := ∃ P1 : Int → Prop, vc_Ch_countUpTo fst fh fv n hour P1 ∧ ∀ z2 : Int, P1 z2 → (r32 z2) ∧ ((z2 ≤ 0 → post 0) ∧ (0 < z2 → (0 ≤ z2 - 1 ∧ z2 - 1 < 20) ∧ ((r32 (fh (z2 - 1).toNat)) ∧ ((r32 hour) ∧ ((¬ fh (z2 - 1).toNat = hour → post 0) ∧ (fh (z2 - 1).toNat = hour → post 1))))))
set_option maxHeartbeats 4000000 in
set_option maxRecDepth 100000 in
theorem m_Ch_tells (l : Launch) (D : va_G) (cI cJ cO cZ : ClassId) (h0 h1 h2 : Nat) (fst : Int) (fh : Nat → Int) (fv : Nat → Int) (n : Int) (hour : Int) (post : Int → Prop) (v : vc_Ch_tells fst fh fv n hour post) : Met l ⟨"LightDoses$Changes", "tells", "(I)Z"⟩ (.code ⟨"LightDoses$Changes", "tells", "(I)Z"⟩ prog_4_method_3_code 3 (some .boolean) :: TG) { frames := 1, cells := 0, slots := 0, locals := 23 } (va_Pc [.ref h0, .int (iI hour)] (fun U => va_K D vwCl (tyx cI cJ cO cZ) U ∧ va_P D vwCl [(h0, .inr (2, [.int (iI fst), .ref h1, .ref h2, .int (iI n)])), (h1, .inl (cI, 20, .inl (fun k => iI (fh k)))), (h2, .inl (cI, 20, .inl (fun k => iI (fv k))))] U.heap)) (vp_Si (fun r => ∃ z : Int, r = iI z ∧ post z)) 0 0 (fun _ => False) := by
  refine Met.ofW (cc := prog_4_method_3_code) (maxL := 3) (ret := (some .boolean)) (by decide) rfl ?_
  intro p e s m args below meth c s₁ B hml hv
  obtain ⟨rfl, hK, hP⟩ := hv
  have hx := B.exec
  have hb := B.bytes
  have hr := B.returns
  have hts0 := atoms_spec (ws := (.code ⟨"LightDoses$Changes", "tells", "(I)Z"⟩ prog_4_method_3_code 3 (some .boolean) :: TG)) B.pre
  have hts : ∀ w ∈ TG, w.before _ s = true := fun w h => hts0 w (List.mem_cons_of_mem _ h)
  have hown : s.vm.findClass "LightDoses$Changes" = some m.cls := findClass_of_methodNamed B.named
  have hlocks := B.notSynchronized
  have hP : va_P D vwCl [(h0, .inr (2, [.int (iI fst), .ref h1, .ref h2, .int (iI n)])), (h1, .inl (cI, 20, .inl (fun k => iI (fh k)))), (h2, .inl (cI, 20, .inl (fun k => iI (fv k))))] s.heap := hP
  have hl := lv_entry ([Value.ref h0, Value.int (iI hour)]) (n := 3) (Nat.le_of_ble_eq_true rfl)
  rw [lg_entry_eq]
  generalize (lg_sl ([Value.ref h0, Value.int (iI hour)]) ++ List.replicate (3 - (lg_sl ([Value.ref h0, Value.int (iI hour)])).length) Slot.unset).toArray = ls at hl ⊢
  have hl : lv_has ls 3 [(0, .ref h0), (1, .int (iI hour))] := hl
  unfold vc_Ch_tells at v
  refine lv_aload_n hx hb d_Ch_tells_0 rfl (lv_at hl 0 rfl) ?_
  refine lv_iload_n hx hb d_Ch_tells_1 rfl (lv_at hl 1 rfl) ?_
  obtain ⟨P1, q3, v⟩ := v
  refine vp_callSi (nv_runV (wc := [(h0, .inr (2, [.int (iI fst), .ref h1, .ref h2, .int (iI n)])), (h1, .inl (cI, 20, .inl (fun k => iI (fh k)))), (h2, .inl (cI, 20, .inl (fun k => iI (fv k))))]) (As := [.int (iI hour)]) (rest := []) ⟨hx, hb, hml, hown, hts⟩ (m_Ch_countUpTo l D cI cJ cO cZ h0 h1 h2 fst fh fv n hour P1 q3) (nv_cwV (n := 1) hts wd_500 wd_502 sl_13 wd_22 wd_503 (by decide +kernel) ⟨Nat.le_of_ble_eq_true rfl, Nat.le_of_ble_eq_true rfl⟩) hK (hP.sub [0, 1, 2] rfl) (va_recv hK hP (ci := 2) (q0 := 0) rfl rfl) rfl hl.1 rfl (Nat.le_of_ble_eq_true rfl) d_Ch_tells_2 (Nat.le_of_ble_eq_true rfl) (Nat.le_of_ble_eq_true rfl)) (fun r hr => ?_)
  obtain ⟨z2, rfl, hz⟩ := hr
  replace v := v z2 hz
  refine lv_istore_n (lv' := [(2, .int (iI z2)), (0, .ref h0), (1, .int (iI hour))]) hx hb d_Ch_tells_5 rfl hl (by decide) rfl (fun ls hl => ?_)
  refine lv_iload_n hx hb d_Ch_tells_6 rfl (lv_at hl 0 rfl) ?_
  obtain ⟨k4, v⟩ := v
  refine nv_if_le (tgt := 26) hx hb d_Ch_tells_7 (by decide) k4 (fun c5 => ?_) (fun c5 => ?_)
  · replace v := v.1 c5
    refine nv_iconst (n := 0) hx hb d_Ch_tells_26 ?_
    exact W.zret hx hb hr (by decide) (fun t ht hW => ⟨_, rfl, ⟨_, rfl, v⟩, ht⟩) (fun q h => by cases h) d_Ch_tells_27
  · replace v := v.2 c5
    refine lv_aload_n hx hb d_Ch_tells_10 rfl (lv_at hl 1 rfl) ?_
    refine va_get (D := D) (ci := 2) (v := .ref h1) (C := "LightDoses$Changes") (T := T_Ch) (N := 4) hx hb hts in_Ch hown hK hP 0 rfl rfl 1 (by decide) (hts _ wd_479) (fun _ h9 => h9) rfl d_Ch_tells_11 ?_
    refine lv_iload_n hx hb d_Ch_tells_14 rfl (lv_at hl 0 rfl) ?_
    refine nv_iconst (n := 1) hx hb d_Ch_tells_15 ?_
    refine nv_isub (z := z2 - 1) hx hb d_Ch_tells_16 (by first | rfl | omega) ?_
    obtain ⟨k6, v⟩ := v
    refine nv_iald (f := fh) hx hb hK 0 (hP 1 _ rfl) rfl (z2 - 1).toNat (Int.toNat_of_nonneg k6.1).symm (by omega) (by decide) d_Ch_tells_17 ?_
    refine lv_iload_n hx hb d_Ch_tells_18 rfl (lv_at hl 2 rfl) ?_
    obtain ⟨k7, v⟩ := v
    obtain ⟨k8, v⟩ := v
    refine nv_icmp_ne (tgt := 26) hx hb d_Ch_tells_19 (by decide) k7 k8 (fun c9 => ?_) (fun c9 => ?_)
    · replace v := v.1 c9
      refine nv_iconst (n := 0) hx hb d_Ch_tells_26 ?_
      exact W.zret hx hb hr (by decide) (fun t ht hW => ⟨_, rfl, ⟨_, rfl, v⟩, ht⟩) (fun q h => by cases h) d_Ch_tells_27
    · replace v := v.2 c9
      refine nv_iconst (n := 1) hx hb d_Ch_tells_22 ?_
      refine lv_goto (tgt := 27) hx hb d_Ch_tells_23 (by decide) ?_
      exact W.zret hx hb hr (by decide) (fun t ht hW => ⟨_, rfl, ⟨_, rfl, v⟩, ht⟩) (fun q h => by cases h) d_Ch_tells_27

theorem d_Ch_valueAt_0 : decode prog_4_method_5_code 0 = .ok (.aload_n 0, 1) := by decide +kernel
theorem d_Ch_valueAt_1 : decode prog_4_method_5_code 1 = .ok (.iload_n 1, 1) := by decide +kernel
theorem d_Ch_valueAt_2 : decode prog_4_method_5_code 2 = .ok (.invokevirtual 25, 3) := by decide +kernel
theorem d_Ch_valueAt_5 : decode prog_4_method_5_code 5 = .ok (.istore_n 2, 1) := by decide +kernel
theorem d_Ch_valueAt_6 : decode prog_4_method_5_code 6 = .ok (.iload_n 2, 1) := by decide +kernel
theorem d_Ch_valueAt_7 : decode prog_4_method_5_code 7 = .ok (.ifCond .le 14, 3) := by decide +kernel
theorem d_Ch_valueAt_10 : decode prog_4_method_5_code 10 = .ok (.aload_n 0, 1) := by decide +kernel
theorem d_Ch_valueAt_11 : decode prog_4_method_5_code 11 = .ok (.getfield 19, 3) := by decide +kernel
theorem d_Ch_valueAt_14 : decode prog_4_method_5_code 14 = .ok (.iload_n 2, 1) := by decide +kernel
theorem d_Ch_valueAt_15 : decode prog_4_method_5_code 15 = .ok (.iconst 1, 1) := by decide +kernel
theorem d_Ch_valueAt_16 : decode prog_4_method_5_code 16 = .ok (.isub, 1) := by decide +kernel
theorem d_Ch_valueAt_17 : decode prog_4_method_5_code 17 = .ok (.iaload, 1) := by decide +kernel
theorem d_Ch_valueAt_18 : decode prog_4_method_5_code 18 = .ok (.goto 7, 3) := by decide +kernel
theorem d_Ch_valueAt_21 : decode prog_4_method_5_code 21 = .ok (.aload_n 0, 1) := by decide +kernel
theorem d_Ch_valueAt_22 : decode prog_4_method_5_code 22 = .ok (.getfield 9, 3) := by decide +kernel
theorem d_Ch_valueAt_25 : decode prog_4_method_5_code 25 = .ok (.ireturn, 1) := by decide +kernel
def vc_Ch_valueAt (fst : Int) (fh : Nat → Int) (fv : Nat → Int) (n : Int) (hour : Int) (post : Int → Prop) : Prop := ∃ P1 : Int → Prop, vc_Ch_countUpTo fst fh fv n hour P1 ∧ ∀ z2 : Int, P1 z2 → (r32 z2) ∧ ((z2 ≤ 0 → post fst) ∧ (0 < z2 → (0 ≤ z2 - 1 ∧ z2 - 1 < 20) ∧ (post (fv (z2 - 1).toNat))))
set_option maxHeartbeats 4000000 in
set_option maxRecDepth 100000 in
theorem m_Ch_valueAt (l : Launch) (D : va_G) (cI cJ cO cZ : ClassId) (h0 h1 h2 : Nat) (fst : Int) (fh : Nat → Int) (fv : Nat → Int) (n : Int) (hour : Int) (post : Int → Prop) (v : vc_Ch_valueAt fst fh fv n hour post) : Met l ⟨"LightDoses$Changes", "valueAt", "(I)I"⟩ (.code ⟨"LightDoses$Changes", "valueAt", "(I)I"⟩ prog_4_method_5_code 3 (some .int) :: TG) { frames := 1, cells := 0, slots := 0, locals := 23 } (va_Pc [.ref h0, .int (iI hour)] (fun U => va_K D vwCl (tyx cI cJ cO cZ) U ∧ va_P D vwCl [(h0, .inr (2, [.int (iI fst), .ref h1, .ref h2, .int (iI n)])), (h1, .inl (cI, 20, .inl (fun k => iI (fh k)))), (h2, .inl (cI, 20, .inl (fun k => iI (fv k))))] U.heap)) (vp_Si (fun r => ∃ z : Int, r = iI z ∧ post z)) 0 0 (fun _ => False) := by
  refine Met.ofW (cc := prog_4_method_5_code) (maxL := 3) (ret := (some .int)) (by decide) rfl ?_
  intro p e s m args below meth c s₁ B hml hv
  obtain ⟨rfl, hK, hP⟩ := hv
  have hx := B.exec
  have hb := B.bytes
  have hr := B.returns
  have hts0 := atoms_spec (ws := (.code ⟨"LightDoses$Changes", "valueAt", "(I)I"⟩ prog_4_method_5_code 3 (some .int) :: TG)) B.pre
  have hts : ∀ w ∈ TG, w.before _ s = true := fun w h => hts0 w (List.mem_cons_of_mem _ h)
  have hown : s.vm.findClass "LightDoses$Changes" = some m.cls := findClass_of_methodNamed B.named
  have hlocks := B.notSynchronized
  have hP : va_P D vwCl [(h0, .inr (2, [.int (iI fst), .ref h1, .ref h2, .int (iI n)])), (h1, .inl (cI, 20, .inl (fun k => iI (fh k)))), (h2, .inl (cI, 20, .inl (fun k => iI (fv k))))] s.heap := hP
  have hl := lv_entry ([Value.ref h0, Value.int (iI hour)]) (n := 3) (Nat.le_of_ble_eq_true rfl)
  rw [lg_entry_eq]
  generalize (lg_sl ([Value.ref h0, Value.int (iI hour)]) ++ List.replicate (3 - (lg_sl ([Value.ref h0, Value.int (iI hour)])).length) Slot.unset).toArray = ls at hl ⊢
  have hl : lv_has ls 3 [(0, .ref h0), (1, .int (iI hour))] := hl
  unfold vc_Ch_valueAt at v
  refine lv_aload_n hx hb d_Ch_valueAt_0 rfl (lv_at hl 0 rfl) ?_
  refine lv_iload_n hx hb d_Ch_valueAt_1 rfl (lv_at hl 1 rfl) ?_
  obtain ⟨P1, q3, v⟩ := v
  refine vp_callSi (nv_runV (wc := [(h0, .inr (2, [.int (iI fst), .ref h1, .ref h2, .int (iI n)])), (h1, .inl (cI, 20, .inl (fun k => iI (fh k)))), (h2, .inl (cI, 20, .inl (fun k => iI (fv k))))]) (As := [.int (iI hour)]) (rest := []) ⟨hx, hb, hml, hown, hts⟩ (m_Ch_countUpTo l D cI cJ cO cZ h0 h1 h2 fst fh fv n hour P1 q3) (nv_cwV (n := 1) hts wd_500 wd_502 sl_13 wd_22 wd_503 (by decide +kernel) ⟨Nat.le_of_ble_eq_true rfl, Nat.le_of_ble_eq_true rfl⟩) hK (hP.sub [0, 1, 2] rfl) (va_recv hK hP (ci := 2) (q0 := 0) rfl rfl) rfl hl.1 rfl (Nat.le_of_ble_eq_true rfl) d_Ch_valueAt_2 (Nat.le_of_ble_eq_true rfl) (Nat.le_of_ble_eq_true rfl)) (fun r hr => ?_)
  obtain ⟨z2, rfl, hz⟩ := hr
  replace v := v z2 hz
  refine lv_istore_n (lv' := [(2, .int (iI z2)), (0, .ref h0), (1, .int (iI hour))]) hx hb d_Ch_valueAt_5 rfl hl (by decide) rfl (fun ls hl => ?_)
  refine lv_iload_n hx hb d_Ch_valueAt_6 rfl (lv_at hl 0 rfl) ?_
  obtain ⟨k4, v⟩ := v
  refine nv_if_le (tgt := 21) hx hb d_Ch_valueAt_7 (by decide) k4 (fun c5 => ?_) (fun c5 => ?_)
  · replace v := v.1 c5
    refine lv_aload_n hx hb d_Ch_valueAt_21 rfl (lv_at hl 1 rfl) ?_
    refine va_get (D := D) (ci := 2) (v := .int (iI fst)) (C := "LightDoses$Changes") (T := T_Ch) (N := 4) hx hb hts in_Ch hown hK hP 0 rfl rfl 0 (by decide) (hts _ wd_478) (fun _ h9 => h9) rfl d_Ch_valueAt_22 ?_
    exact W.iret hx hb hr (fun t ht hW => ⟨_, rfl, ⟨_, rfl, v⟩, ht⟩) (fun q h => by cases h) d_Ch_valueAt_25
  · replace v := v.2 c5
    refine lv_aload_n hx hb d_Ch_valueAt_10 rfl (lv_at hl 1 rfl) ?_
    refine va_get (D := D) (ci := 2) (v := .ref h2) (C := "LightDoses$Changes") (T := T_Ch) (N := 4) hx hb hts in_Ch hown hK hP 0 rfl rfl 2 (by decide) (hts _ wd_480) (fun _ h9 => h9) rfl d_Ch_valueAt_11 ?_
    refine lv_iload_n hx hb d_Ch_valueAt_14 rfl (lv_at hl 0 rfl) ?_
    refine nv_iconst (n := 1) hx hb d_Ch_valueAt_15 ?_
    refine nv_isub (z := z2 - 1) hx hb d_Ch_valueAt_16 (by first | rfl | omega) ?_
    obtain ⟨k6, v⟩ := v
    refine nv_iald (f := fv) hx hb hK 0 (hP 2 _ rfl) rfl (z2 - 1).toNat (Int.toNat_of_nonneg k6.1).symm (by omega) (by decide) d_Ch_valueAt_17 ?_
    refine lv_goto (tgt := 25) hx hb d_Ch_valueAt_18 (by decide) ?_
    exact W.iret hx hb hr (fun t ht hW => ⟨_, rfl, ⟨_, rfl, v⟩, ht⟩) (fun q h => by cases h) d_Ch_valueAt_25

theorem d_Ch_nextBehind_0 : decode prog_4_method_6_code 0 = .ok (.aload_n 0, 1) := by decide +kernel
theorem d_Ch_nextBehind_1 : decode prog_4_method_6_code 1 = .ok (.iload_n 1, 1) := by decide +kernel
theorem d_Ch_nextBehind_2 : decode prog_4_method_6_code 2 = .ok (.invokevirtual 25, 3) := by decide +kernel
theorem d_Ch_nextBehind_5 : decode prog_4_method_6_code 5 = .ok (.istore_n 2, 1) := by decide +kernel
theorem d_Ch_nextBehind_6 : decode prog_4_method_6_code 6 = .ok (.iload_n 2, 1) := by decide +kernel
theorem d_Ch_nextBehind_7 : decode prog_4_method_6_code 7 = .ok (.aload_n 0, 1) := by decide +kernel
theorem d_Ch_nextBehind_8 : decode prog_4_method_6_code 8 = .ok (.getfield 22, 3) := by decide +kernel
theorem d_Ch_nextBehind_11 : decode prog_4_method_6_code 11 = .ok (.if_icmp .ge 12, 3) := by decide +kernel
theorem d_Ch_nextBehind_14 : decode prog_4_method_6_code 14 = .ok (.aload_n 0, 1) := by decide +kernel
theorem d_Ch_nextBehind_15 : decode prog_4_method_6_code 15 = .ok (.getfield 15, 3) := by decide +kernel
theorem d_Ch_nextBehind_18 : decode prog_4_method_6_code 18 = .ok (.iload_n 2, 1) := by decide +kernel
theorem d_Ch_nextBehind_19 : decode prog_4_method_6_code 19 = .ok (.iaload, 1) := by decide +kernel
theorem d_Ch_nextBehind_20 : decode prog_4_method_6_code 20 = .ok (.goto 6, 3) := by decide +kernel
theorem d_Ch_nextBehind_23 : decode prog_4_method_6_code 23 = .ok (.sipush 26280, 3) := by decide +kernel
theorem d_Ch_nextBehind_26 : decode prog_4_method_6_code 26 = .ok (.ireturn, 1) := by decide +kernel
def vc_Ch_nextBehind (fst : Int) (fh : Nat → Int) (fv : Nat → Int) (n : Int) (hour : Int) (post : Int → Prop) : Prop := ∃ P1 : Int → Prop, vc_Ch_countUpTo fst fh fv n hour P1 ∧ ∀ z2 : Int, P1 z2 → (r32 z2) ∧ ((r32 n) ∧ ((n ≤ z2 → post 26280) ∧ (z2 < n → (0 ≤ z2 ∧ z2 < 20) ∧ (post (fh (z2).toNat)))))
set_option maxHeartbeats 4000000 in
set_option maxRecDepth 100000 in
theorem m_Ch_nextBehind (l : Launch) (D : va_G) (cI cJ cO cZ : ClassId) (h0 h1 h2 : Nat) (fst : Int) (fh : Nat → Int) (fv : Nat → Int) (n : Int) (hour : Int) (post : Int → Prop) (v : vc_Ch_nextBehind fst fh fv n hour post) : Met l ⟨"LightDoses$Changes", "nextBehind", "(I)I"⟩ (.code ⟨"LightDoses$Changes", "nextBehind", "(I)I"⟩ prog_4_method_6_code 3 (some .int) :: TG) { frames := 1, cells := 0, slots := 0, locals := 23 } (va_Pc [.ref h0, .int (iI hour)] (fun U => va_K D vwCl (tyx cI cJ cO cZ) U ∧ va_P D vwCl [(h0, .inr (2, [.int (iI fst), .ref h1, .ref h2, .int (iI n)])), (h1, .inl (cI, 20, .inl (fun k => iI (fh k)))), (h2, .inl (cI, 20, .inl (fun k => iI (fv k))))] U.heap)) (vp_Si (fun r => ∃ z : Int, r = iI z ∧ post z)) 0 0 (fun _ => False) := by
  refine Met.ofW (cc := prog_4_method_6_code) (maxL := 3) (ret := (some .int)) (by decide) rfl ?_
  intro p e s m args below meth c s₁ B hml hv
  obtain ⟨rfl, hK, hP⟩ := hv
  have hx := B.exec
  have hb := B.bytes
  have hr := B.returns
  have hts0 := atoms_spec (ws := (.code ⟨"LightDoses$Changes", "nextBehind", "(I)I"⟩ prog_4_method_6_code 3 (some .int) :: TG)) B.pre
  have hts : ∀ w ∈ TG, w.before _ s = true := fun w h => hts0 w (List.mem_cons_of_mem _ h)
  have hown : s.vm.findClass "LightDoses$Changes" = some m.cls := findClass_of_methodNamed B.named
  have hlocks := B.notSynchronized
  have hP : va_P D vwCl [(h0, .inr (2, [.int (iI fst), .ref h1, .ref h2, .int (iI n)])), (h1, .inl (cI, 20, .inl (fun k => iI (fh k)))), (h2, .inl (cI, 20, .inl (fun k => iI (fv k))))] s.heap := hP
  have hl := lv_entry ([Value.ref h0, Value.int (iI hour)]) (n := 3) (Nat.le_of_ble_eq_true rfl)
  rw [lg_entry_eq]
  generalize (lg_sl ([Value.ref h0, Value.int (iI hour)]) ++ List.replicate (3 - (lg_sl ([Value.ref h0, Value.int (iI hour)])).length) Slot.unset).toArray = ls at hl ⊢
  have hl : lv_has ls 3 [(0, .ref h0), (1, .int (iI hour))] := hl
  unfold vc_Ch_nextBehind at v
  refine lv_aload_n hx hb d_Ch_nextBehind_0 rfl (lv_at hl 0 rfl) ?_
  refine lv_iload_n hx hb d_Ch_nextBehind_1 rfl (lv_at hl 1 rfl) ?_
  obtain ⟨P1, q3, v⟩ := v
  refine vp_callSi (nv_runV (wc := [(h0, .inr (2, [.int (iI fst), .ref h1, .ref h2, .int (iI n)])), (h1, .inl (cI, 20, .inl (fun k => iI (fh k)))), (h2, .inl (cI, 20, .inl (fun k => iI (fv k))))]) (As := [.int (iI hour)]) (rest := []) ⟨hx, hb, hml, hown, hts⟩ (m_Ch_countUpTo l D cI cJ cO cZ h0 h1 h2 fst fh fv n hour P1 q3) (nv_cwV (n := 1) hts wd_500 wd_502 sl_13 wd_22 wd_503 (by decide +kernel) ⟨Nat.le_of_ble_eq_true rfl, Nat.le_of_ble_eq_true rfl⟩) hK (hP.sub [0, 1, 2] rfl) (va_recv hK hP (ci := 2) (q0 := 0) rfl rfl) rfl hl.1 rfl (Nat.le_of_ble_eq_true rfl) d_Ch_nextBehind_2 (Nat.le_of_ble_eq_true rfl) (Nat.le_of_ble_eq_true rfl)) (fun r hr => ?_)
  obtain ⟨z2, rfl, hz⟩ := hr
  replace v := v z2 hz
  refine lv_istore_n (lv' := [(2, .int (iI z2)), (0, .ref h0), (1, .int (iI hour))]) hx hb d_Ch_nextBehind_5 rfl hl (by decide) rfl (fun ls hl => ?_)
  refine lv_iload_n hx hb d_Ch_nextBehind_6 rfl (lv_at hl 0 rfl) ?_
  refine lv_aload_n hx hb d_Ch_nextBehind_7 rfl (lv_at hl 1 rfl) ?_
  refine va_get (D := D) (ci := 2) (v := .int (iI n)) (C := "LightDoses$Changes") (T := T_Ch) (N := 4) hx hb hts in_Ch hown hK hP 0 rfl rfl 3 (by decide) (hts _ wd_481) (fun _ h9 => h9) rfl d_Ch_nextBehind_8 ?_
  obtain ⟨k4, v⟩ := v
  obtain ⟨k5, v⟩ := v
  refine nv_icmp_ge (tgt := 23) hx hb d_Ch_nextBehind_11 (by decide) k4 k5 (fun c6 => ?_) (fun c6 => ?_)
  · replace v := v.1 c6
    refine nv_sipush (z := 26280) hx hb d_Ch_nextBehind_23 (by decide) ?_
    exact W.iret hx hb hr (fun t ht hW => ⟨_, rfl, ⟨_, rfl, v⟩, ht⟩) (fun q h => by cases h) d_Ch_nextBehind_26
  · replace v := v.2 c6
    refine lv_aload_n hx hb d_Ch_nextBehind_14 rfl (lv_at hl 1 rfl) ?_
    refine va_get (D := D) (ci := 2) (v := .ref h1) (C := "LightDoses$Changes") (T := T_Ch) (N := 4) hx hb hts in_Ch hown hK hP 0 rfl rfl 1 (by decide) (hts _ wd_479) (fun _ h9 => h9) rfl d_Ch_nextBehind_15 ?_
    refine lv_iload_n hx hb d_Ch_nextBehind_18 rfl (lv_at hl 0 rfl) ?_
    obtain ⟨k7, v⟩ := v
    refine nv_iald (f := fh) hx hb hK 0 (hP 1 _ rfl) rfl (z2).toNat (Int.toNat_of_nonneg k7.1).symm (by omega) (by decide) d_Ch_nextBehind_19 ?_
    refine lv_goto (tgt := 26) hx hb d_Ch_nextBehind_20 (by decide) ?_
    exact W.iret hx hb hr (fun t ht hW => ⟨_, rfl, ⟨_, rfl, v⟩, ht⟩) (fun q h => by cases h) d_Ch_nextBehind_26

theorem d_Ch_tell_0 : decode prog_4_method_4_code 0 = .ok (.aload_n 0, 1) := by decide +kernel
theorem d_Ch_tell_1 : decode prog_4_method_4_code 1 = .ok (.iload_n 1, 1) := by decide +kernel
theorem d_Ch_tell_2 : decode prog_4_method_4_code 2 = .ok (.invokevirtual 25, 3) := by decide +kernel
theorem d_Ch_tell_5 : decode prog_4_method_4_code 5 = .ok (.istore_n 3, 1) := by decide +kernel
theorem d_Ch_tell_6 : decode prog_4_method_4_code 6 = .ok (.iload_n 3, 1) := by decide +kernel
theorem d_Ch_tell_7 : decode prog_4_method_4_code 7 = .ok (.ifCond .le 27, 3) := by decide +kernel
theorem d_Ch_tell_10 : decode prog_4_method_4_code 10 = .ok (.aload_n 0, 1) := by decide +kernel
theorem d_Ch_tell_11 : decode prog_4_method_4_code 11 = .ok (.getfield 15, 3) := by decide +kernel
theorem d_Ch_tell_14 : decode prog_4_method_4_code 14 = .ok (.iload_n 3, 1) := by decide +kernel
theorem d_Ch_tell_15 : decode prog_4_method_4_code 15 = .ok (.iconst 1, 1) := by decide +kernel
theorem d_Ch_tell_16 : decode prog_4_method_4_code 16 = .ok (.isub, 1) := by decide +kernel
theorem d_Ch_tell_17 : decode prog_4_method_4_code 17 = .ok (.iaload, 1) := by decide +kernel
theorem d_Ch_tell_18 : decode prog_4_method_4_code 18 = .ok (.iload_n 1, 1) := by decide +kernel
theorem d_Ch_tell_19 : decode prog_4_method_4_code 19 = .ok (.if_icmp .ne 15, 3) := by decide +kernel
theorem d_Ch_tell_22 : decode prog_4_method_4_code 22 = .ok (.aload_n 0, 1) := by decide +kernel
theorem d_Ch_tell_23 : decode prog_4_method_4_code 23 = .ok (.getfield 19, 3) := by decide +kernel
theorem d_Ch_tell_26 : decode prog_4_method_4_code 26 = .ok (.iload_n 3, 1) := by decide +kernel
theorem d_Ch_tell_27 : decode prog_4_method_4_code 27 = .ok (.iconst 1, 1) := by decide +kernel
theorem d_Ch_tell_28 : decode prog_4_method_4_code 28 = .ok (.isub, 1) := by decide +kernel
theorem d_Ch_tell_29 : decode prog_4_method_4_code 29 = .ok (.iload_n 2, 1) := by decide +kernel
theorem d_Ch_tell_30 : decode prog_4_method_4_code 30 = .ok (.iastore, 1) := by decide +kernel
theorem d_Ch_tell_31 : decode prog_4_method_4_code 31 = .ok (.goto 86, 3) := by decide +kernel
theorem d_Ch_tell_34 : decode prog_4_method_4_code 34 = .ok (.aload_n 0, 1) := by decide +kernel
theorem d_Ch_tell_35 : decode prog_4_method_4_code 35 = .ok (.getfield 22, 3) := by decide +kernel
theorem d_Ch_tell_38 : decode prog_4_method_4_code 38 = .ok (.bipush 20, 2) := by decide +kernel
theorem d_Ch_tell_40 : decode prog_4_method_4_code 40 = .ok (.if_icmp .ge 77, 3) := by decide +kernel
theorem d_Ch_tell_43 : decode prog_4_method_4_code 43 = .ok (.aload_n 0, 1) := by decide +kernel
theorem d_Ch_tell_44 : decode prog_4_method_4_code 44 = .ok (.getfield 22, 3) := by decide +kernel
theorem d_Ch_tell_47 : decode prog_4_method_4_code 47 = .ok (.istore 4, 2) := by decide +kernel
theorem d_Ch_tell_49 : decode prog_4_method_4_code 49 = .ok (.iload 4, 2) := by decide +kernel
theorem d_Ch_tell_51 : decode prog_4_method_4_code 51 = .ok (.iload_n 3, 1) := by decide +kernel
theorem d_Ch_tell_52 : decode prog_4_method_4_code 52 = .ok (.if_icmp .le 41, 3) := by decide +kernel
theorem d_Ch_tell_55 : decode prog_4_method_4_code 55 = .ok (.aload_n 0, 1) := by decide +kernel
theorem d_Ch_tell_56 : decode prog_4_method_4_code 56 = .ok (.getfield 15, 3) := by decide +kernel
theorem d_Ch_tell_59 : decode prog_4_method_4_code 59 = .ok (.iload 4, 2) := by decide +kernel
theorem d_Ch_tell_61 : decode prog_4_method_4_code 61 = .ok (.aload_n 0, 1) := by decide +kernel
theorem d_Ch_tell_62 : decode prog_4_method_4_code 62 = .ok (.getfield 15, 3) := by decide +kernel
theorem d_Ch_tell_65 : decode prog_4_method_4_code 65 = .ok (.iload 4, 2) := by decide +kernel
theorem d_Ch_tell_67 : decode prog_4_method_4_code 67 = .ok (.iconst 1, 1) := by decide +kernel
theorem d_Ch_tell_68 : decode prog_4_method_4_code 68 = .ok (.isub, 1) := by decide +kernel
theorem d_Ch_tell_69 : decode prog_4_method_4_code 69 = .ok (.iaload, 1) := by decide +kernel
theorem d_Ch_tell_70 : decode prog_4_method_4_code 70 = .ok (.iastore, 1) := by decide +kernel
theorem d_Ch_tell_71 : decode prog_4_method_4_code 71 = .ok (.aload_n 0, 1) := by decide +kernel
theorem d_Ch_tell_72 : decode prog_4_method_4_code 72 = .ok (.getfield 19, 3) := by decide +kernel
theorem d_Ch_tell_75 : decode prog_4_method_4_code 75 = .ok (.iload 4, 2) := by decide +kernel
theorem d_Ch_tell_77 : decode prog_4_method_4_code 77 = .ok (.aload_n 0, 1) := by decide +kernel
theorem d_Ch_tell_78 : decode prog_4_method_4_code 78 = .ok (.getfield 19, 3) := by decide +kernel
theorem d_Ch_tell_81 : decode prog_4_method_4_code 81 = .ok (.iload 4, 2) := by decide +kernel
theorem d_Ch_tell_83 : decode prog_4_method_4_code 83 = .ok (.iconst 1, 1) := by decide +kernel
theorem d_Ch_tell_84 : decode prog_4_method_4_code 84 = .ok (.isub, 1) := by decide +kernel
theorem d_Ch_tell_85 : decode prog_4_method_4_code 85 = .ok (.iaload, 1) := by decide +kernel
theorem d_Ch_tell_86 : decode prog_4_method_4_code 86 = .ok (.iastore, 1) := by decide +kernel
theorem d_Ch_tell_87 : decode prog_4_method_4_code 87 = .ok (.iinc 4 (-1), 3) := by decide +kernel
theorem d_Ch_tell_90 : decode prog_4_method_4_code 90 = .ok (.goto (-41), 3) := by decide +kernel
theorem d_Ch_tell_93 : decode prog_4_method_4_code 93 = .ok (.aload_n 0, 1) := by decide +kernel
theorem d_Ch_tell_94 : decode prog_4_method_4_code 94 = .ok (.getfield 15, 3) := by decide +kernel
theorem d_Ch_tell_97 : decode prog_4_method_4_code 97 = .ok (.iload_n 3, 1) := by decide +kernel
theorem d_Ch_tell_98 : decode prog_4_method_4_code 98 = .ok (.iload_n 1, 1) := by decide +kernel
theorem d_Ch_tell_99 : decode prog_4_method_4_code 99 = .ok (.iastore, 1) := by decide +kernel
theorem d_Ch_tell_100 : decode prog_4_method_4_code 100 = .ok (.aload_n 0, 1) := by decide +kernel
theorem d_Ch_tell_101 : decode prog_4_method_4_code 101 = .ok (.getfield 19, 3) := by decide +kernel
theorem d_Ch_tell_104 : decode prog_4_method_4_code 104 = .ok (.iload_n 3, 1) := by decide +kernel
theorem d_Ch_tell_105 : decode prog_4_method_4_code 105 = .ok (.iload_n 2, 1) := by decide +kernel
theorem d_Ch_tell_106 : decode prog_4_method_4_code 106 = .ok (.iastore, 1) := by decide +kernel
theorem d_Ch_tell_107 : decode prog_4_method_4_code 107 = .ok (.aload_n 0, 1) := by decide +kernel
theorem d_Ch_tell_108 : decode prog_4_method_4_code 108 = .ok (.dup, 1) := by decide +kernel
theorem d_Ch_tell_109 : decode prog_4_method_4_code 109 = .ok (.getfield 22, 3) := by decide +kernel
theorem d_Ch_tell_112 : decode prog_4_method_4_code 112 = .ok (.iconst 1, 1) := by decide +kernel
theorem d_Ch_tell_113 : decode prog_4_method_4_code 113 = .ok (.iadd, 1) := by decide +kernel
theorem d_Ch_tell_114 : decode prog_4_method_4_code 114 = .ok (.putfield 22, 3) := by decide +kernel
theorem d_Ch_tell_117 : decode prog_4_method_4_code 117 = .ok (.return_, 1) := by decide +kernel
def vc_Ch_tell (fst : Int) (fh : Nat → Int) (fv : Nat → Int) (n : Int) (hour : Int) (value : Int) (post : (Nat → Int) → (Nat → Int) → Int → Prop) : Prop := ∃ P1 : Int → Prop, vc_Ch_countUpTo fst fh fv n hour P1 ∧ ∀ z2 : Int, P1 z2 → (r32 z2) ∧ ((z2 ≤ 0 → (r32 n) ∧ ((20 ≤ n → post fh fv n) ∧ (n < 20 → ∃ (I8 : Int → (Nat → Int) → (Nat → Int) → Prop) (μ9 : Int → (Nat → Int) → (Nat → Int) → Nat), I8 n fh fv ∧ ∀ (i : Int) (gh : Nat → Int) (gv : Nat → Int), I8 i gh gv → (r32 i) ∧ ((i ≤ z2 → (0 ≤ z2 ∧ z2 < 20) ∧ ((0 ≤ z2 ∧ z2 < 20) ∧ (post (va_up gh (z2).toNat hour) (va_up gv (z2).toNat value) (n + 1)))) ∧ (z2 < i → (0 ≤ i - 1 ∧ i - 1 < 20) ∧ ((0 ≤ i ∧ i < 20) ∧ ((0 ≤ i - 1 ∧ i - 1 < 20) ∧ ((0 ≤ i ∧ i < 20) ∧ (I8 (i - 1) (va_up gh (i).toNat (gh (i - 1).toNat)) (va_up gv (i).toNat (gv (i - 1).toNat)) ∧ μ9 (i - 1) (va_up gh (i).toNat (gh (i - 1).toNat)) (va_up gv (i).toNat (gv (i - 1).toNat)) < μ9 i gh gv))))))))) ∧ (0 < z2 → (0 ≤ z2 - 1 ∧ z2 - 1 < 20) ∧ ((r32 (fh (z2 - 1).toNat)) ∧ ((r32 hour) ∧ ((¬ fh (z2 - 1).toNat = hour → (r32 n) ∧ ((20 ≤ n → post fh fv n) ∧ (n < 20 → ∃ (I29 : Int → (Nat → Int) → (Nat → Int) → Prop) (μ30 : Int → (Nat → Int) → (Nat → Int) → Nat), I29 n fh fv ∧ ∀ (i : Int) (gh : Nat → Int) (gv : Nat → Int), I29 i gh gv → (r32 i) ∧ ((i ≤ z2 → (0 ≤ z2 ∧ z2 < 20) ∧ ((0 ≤ z2 ∧ z2 < 20) ∧ (post (va_up gh (z2).toNat hour) (va_up gv (z2).toNat value) (n + 1)))) ∧ (z2 < i → (0 ≤ i - 1 ∧ i - 1 < 20) ∧ ((0 ≤ i ∧ i < 20) ∧ ((0 ≤ i - 1 ∧ i - 1 < 20) ∧ ((0 ≤ i ∧ i < 20) ∧ (I29 (i - 1) (va_up gh (i).toNat (gh (i - 1).toNat)) (va_up gv (i).toNat (gv (i - 1).toNat)) ∧ μ30 (i - 1) (va_up gh (i).toNat (gh (i - 1).toNat)) (va_up gv (i).toNat (gv (i - 1).toNat)) < μ30 i gh gv))))))))) ∧ (fh (z2 - 1).toNat = hour → (0 ≤ z2 - 1 ∧ z2 - 1 < 20) ∧ (post fh (va_up fv (z2 - 1).toNat value) n)))))))
set_option maxHeartbeats 4000000 in
set_option maxRecDepth 100000 in
theorem m_Ch_tell (l : Launch) (D : va_G) (cI cJ cO cZ : ClassId) (h0 h1 h2 : Nat) (sz : Nat) (fst : Int) (fh : Nat → Int) (fv : Nat → Int) (n : Int) (hour : Int) (value : Int) (post : (Nat → Int) → (Nat → Int) → Int → Prop) (v : vc_Ch_tell fst fh fv n hour value post) : Met l ⟨"LightDoses$Changes", "tell", "(II)V"⟩ (.code ⟨"LightDoses$Changes", "tell", "(II)V"⟩ prog_4_method_4_code 5 none :: TG) { frames := 1, cells := 0, slots := 0, locals := 23 } (va_Pc [.ref h0, .int (iI hour), .int (iI value)] (fun U => U.heap.size = sz ∧ va_P D vwCl [(h0, .inr (2, [.int (iI fst), .ref h1, .ref h2, .int (iI n)])), (h1, .inl (cI, 20, .inl (fun k => iI (fh k)))), (h2, .inl (cI, 20, .inl (fun k => iI (fv k))))] U.heap ∧ va_K D vwCl (tyx cI cJ cO cZ) U ∧ va_D (fun _ => True) [(h0, .inr (2, [.int (iI fst), .ref h1, .ref h2, .int (iI n)])), (h1, .inl (cI, 20, .inl (fun k => iI (fh k)))), (h2, .inl (cI, 20, .inl (fun k => iI (fv k))))])) (va_Qv (fun u : (Nat → Int) × (Nat → Int) × Int => post u.1 u.2.1 u.2.2) (fun u t => va_P D vwCl [(h0, .inr (2, [.int (iI fst), .ref h1, .ref h2, .int (iI u.2.2)])), (h1, .inl (cI, 20, .inl (fun k => iI (u.1 k)))), (h2, .inl (cI, 20, .inl (fun k => iI (u.2.1 k))))] t.heap ∧ va_K D vwCl (tyx cI cJ cO cZ) t ∧ va_D (va_A [(h0, .inr (2, [.int (iI fst), .ref h1, .ref h2, .int (iI n)])), (h1, .inl (cI, 20, .inl (fun k => iI (fh k)))), (h2, .inl (cI, 20, .inl (fun k => iI (fv k))))] sz) [(h0, .inr (2, [.int (iI fst), .ref h1, .ref h2, .int (iI u.2.2)])), (h1, .inl (cI, 20, .inl (fun k => iI (u.1 k)))), (h2, .inl (cI, 20, .inl (fun k => iI (u.2.1 k))))]) (va_A [(h0, .inr (2, [.int (iI fst), .ref h1, .ref h2, .int (iI n)])), (h1, .inl (cI, 20, .inl (fun k => iI (fh k)))), (h2, .inl (cI, 20, .inl (fun k => iI (fv k))))] sz)) 0 0 (va_A [(h0, .inr (2, [.int (iI fst), .ref h1, .ref h2, .int (iI n)])), (h1, .inl (cI, 20, .inl (fun k => iI (fh k)))), (h2, .inl (cI, 20, .inl (fun k => iI (fv k))))] sz) := by
  refine Met.ofW (cc := prog_4_method_4_code) (maxL := 5) (ret := none) (by decide) rfl ?_
  intro p e s m args below meth c s₁ B hml hv
  obtain ⟨rfl, hsz, hP, hK, hD0⟩ := hv
  have hx := B.exec
  have hb := B.bytes
  have hr := B.returns
  have hts0 := atoms_spec (ws := (.code ⟨"LightDoses$Changes", "tell", "(II)V"⟩ prog_4_method_4_code 5 none :: TG)) B.pre
  have hts : ∀ w ∈ TG, w.before _ s = true := fun w h => hts0 w (List.mem_cons_of_mem _ h)
  have hown : s.vm.findClass "LightDoses$Changes" = some m.cls := findClass_of_methodNamed B.named
  have hlocks := B.notSynchronized
  subst hsz
  have hD := hD0.self (sz := s.heap.size)
  generalize hAe : va_A [(h0, .inr (2, [.int (iI fst), .ref h1, .ref h2, .int (iI n)])), (h1, .inl (cI, 20, .inl (fun k => iI (fh k)))), (h2, .inl (cI, 20, .inl (fun k => iI (fv k))))] s.heap.size = A at hD ⊢
  have hA : ∀ q : Nat, s.heap.size ≤ q → A q := fun q h => by rw [← hAe]; exact Or.inr h
  have hS : va_S A s.heap s.heap [] := va_S.rf
  have hP : va_P D vwCl [(h0, .inr (2, [.int (iI fst), .ref h1, .ref h2, .int (iI n)])), (h1, .inl (cI, 20, .inl (fun k => iI (fh k)))), (h2, .inl (cI, 20, .inl (fun k => iI (fv k))))] s.heap := hP
  have hl := lv_entry ([Value.ref h0, Value.int (iI hour), Value.int (iI value)]) (n := 5) (Nat.le_of_ble_eq_true rfl)
  rw [lg_entry_eq]
  generalize (lg_sl ([Value.ref h0, Value.int (iI hour), Value.int (iI value)]) ++ List.replicate (5 - (lg_sl ([Value.ref h0, Value.int (iI hour), Value.int (iI value)])).length) Slot.unset).toArray = ls at hl ⊢
  have hl : lv_has ls 5 [(0, .ref h0), (1, .int (iI hour)), (2, .int (iI value))] := hl
  unfold vc_Ch_tell at v
  obtain ⟨H, hH⟩ : ∃ H, H = s.heap := ⟨_, rfl⟩
  obtain ⟨locs, hlc⟩ : ∃ L : List Loc, L = [] := ⟨_, rfl⟩
  rw [← hlc] at hS ⊢
  have hP : va_P D vwCl [(h0, .inr (2, [.int (iI fst), .ref h1, .ref h2, .int (iI n)])), (h1, .inl (cI, 20, .inl (fun k => iI (fh k)))), (h2, .inl (cI, 20, .inl (fun k => iI (fv k))))] H := by rw [hH]; exact hP
  have hS : va_S A s.heap H locs := by rw [hH]; exact hS
  have hW0 : ∀ {X : Heap → Prop}, X H → X s.heap := fun h => by rw [← hH]; exact h
  refine hW0 (X := fun Z => W p l e _ s m _ below meth c Z locs 0 0 _ _) ?_
  refine lv_aload_n hx hb d_Ch_tell_0 rfl (lv_at hl 0 rfl) ?_
  refine lv_iload_n hx hb d_Ch_tell_1 rfl (lv_at hl 1 rfl) ?_
  obtain ⟨P1, q3, v⟩ := v
  refine vp_callSi (nv_runV (wc := [(h0, .inr (2, [.int (iI fst), .ref h1, .ref h2, .int (iI n)])), (h1, .inl (cI, 20, .inl (fun k => iI (fh k)))), (h2, .inl (cI, 20, .inl (fun k => iI (fv k))))]) (As := [.int (iI hour)]) (rest := []) ⟨hx, hb, hml, hown, hts⟩ (m_Ch_countUpTo l D cI cJ cO cZ h0 h1 h2 fst fh fv n hour P1 q3) (nv_cwV (n := 1) hts wd_500 wd_502 sl_13 wd_22 wd_503 (by decide +kernel) ⟨Nat.le_of_ble_eq_true rfl, Nat.le_of_ble_eq_true rfl⟩) hK (hP.sub [0, 1, 2] rfl) (va_recv hK hP (ci := 2) (q0 := 0) rfl rfl) rfl hl.1 rfl (Nat.le_of_ble_eq_true rfl) d_Ch_tell_2 (Nat.le_of_ble_eq_true rfl) (Nat.le_of_ble_eq_true rfl)) (fun r hr => ?_)
  obtain ⟨z2, rfl, hz⟩ := hr
  replace v := v z2 hz
  refine lv_istore_n (lv' := [(3, .int (iI z2)), (0, .ref h0), (1, .int (iI hour)), (2, .int (iI value))]) hx hb d_Ch_tell_5 rfl hl (by decide) rfl (fun ls hl => ?_)
  refine lv_iload_n hx hb d_Ch_tell_6 rfl (lv_at hl 0 rfl) ?_
  obtain ⟨k4, v⟩ := v
  refine nv_if_le (tgt := 34) hx hb d_Ch_tell_7 (by decide) k4 (fun c5 => ?_) (fun c5 => ?_)
  · replace v := v.1 c5
    refine lv_aload_n hx hb d_Ch_tell_34 rfl (lv_at hl 1 rfl) ?_
    refine va_get (D := D) (ci := 2) (v := .int (iI n)) (C := "LightDoses$Changes") (T := T_Ch) (N := 4) hx hb hts in_Ch hown hK hP 0 rfl rfl 3 (by decide) (hts _ wd_481) (fun _ h9 => h9) rfl d_Ch_tell_35 ?_
    refine nv_bipush (z := 20) hx hb d_Ch_tell_38 (by decide) ?_
    obtain ⟨k6, v⟩ := v
    refine nv_icmp_ge (tgt := 117) hx hb d_Ch_tell_40 (by decide) k6 (by decide) (fun c7 => ?_) (fun c7 => ?_)
    · replace v := v.1 c7
      have hP9 := hP.sub (ws' := [(h0, .inr (2, [.int (iI fst), .ref h1, .ref h2, .int (iI n)])), (h1, .inl (cI, 20, .inl (fun k => iI (fh k)))), (h2, .inl (cI, 20, .inl (fun k => iI (fv k))))]) [0, 1, 2] rfl
      have hD9 := hD.sub (ws' := [(h0, .inr (2, [.int (iI fst), .ref h1, .ref h2, .int (iI n)])), (h1, .inl (cI, 20, .inl (fun k => iI (fh k)))), (h2, .inl (cI, 20, .inl (fun k => iI (fv k))))]) [0, 1, 2] (by decide) rfl
      exact W.vret hx hb hr (fun t ht hW => ⟨⟨((fh), (fv), (n)), rfl, v, by rw [ht]; exact hP9, va_K.moved hW.alike hK, hD9⟩, hS.F ht⟩) hS.2.2 d_Ch_tell_117
    · replace v := v.2 c7
      refine lv_aload_n hx hb d_Ch_tell_43 rfl (lv_at hl 1 rfl) ?_
      refine va_get (D := D) (ci := 2) (v := .int (iI n)) (C := "LightDoses$Changes") (T := T_Ch) (N := 4) hx hb hts in_Ch hown hK hP 0 rfl rfl 3 (by decide) (hts _ wd_481) (fun _ h9 => h9) rfl d_Ch_tell_44 ?_
      refine lv_istore (lv' := [(4, .int (iI n)), (3, .int (iI z2)), (0, .ref h0), (1, .int (iI hour)), (2, .int (iI value))]) hx hb d_Ch_tell_47 hl (by decide) rfl (fun ls hl => ?_)
      obtain ⟨I8, μ9, v20, v21⟩ := v
      have L22 : ∀ (N : Nat) (i : Int) (gh : Nat → Int) (gv : Nat → Int) (H : Heap) (locs : List Loc) (ls : Array Slot), μ9 i gh gv < N → I8 i gh gv → va_P D vwCl [(h0, .inr (2, [.int (iI fst), .ref h1, .ref h2, .int (iI n)])), (h1, .inl (cI, 20, .inl (fun k => iI (gh k)))), (h2, .inl (cI, 20, .inl (fun k => iI (gv k))))] H → va_D A [(h0, .inr (2, [.int (iI fst), .ref h1, .ref h2, .int (iI n)])), (h1, .inl (cI, 20, .inl (fun k => iI (gh k)))), (h2, .inl (cI, 20, .inl (fun k => iI (gv k))))] → va_S A s.heap H locs → lv_has ls 5 [(0, .ref h0), (1, .int (iI hour)), (2, .int (iI value)), (3, .int (iI z2)), (4, .int (iI i))] → W p l e (headSpec (.code ⟨"LightDoses$Changes", "tell", "(II)V"⟩ prog_4_method_4_code 5 none :: TG) { frames := 1, cells := 0, slots := 0, locals := 23 }).room s m ([Value.ref h0, Value.int (iI hour), Value.int (iI value)] : List Value).toArray below meth c H locs 0 0 (MQ below (va_Qv (fun u : (Nat → Int) × (Nat → Int) × Int => post u.1 u.2.1 u.2.2) (fun u t => va_P D vwCl [(h0, .inr (2, [.int (iI fst), .ref h1, .ref h2, .int (iI u.2.2)])), (h1, .inl (cI, 20, .inl (fun k => iI (u.1 k)))), (h2, .inl (cI, 20, .inl (fun k => iI (u.2.1 k))))] t.heap ∧ va_K D vwCl (tyx cI cJ cO cZ) t ∧ va_D A [(h0, .inr (2, [.int (iI fst), .ref h1, .ref h2, .int (iI u.2.2)])), (h1, .inl (cI, 20, .inl (fun k => iI (u.1 k)))), (h2, .inl (cI, 20, .inl (fun k => iI (u.2.1 k))))]) A) ([Value.ref h0, Value.int (iI hour), Value.int (iI value)] : List Value).toArray s 0 0 A) (F0 m 49 ls []) := by
        intro N
        induction N with
        | zero => intro i gh gv H locs ls hN; exact absurd hN (Nat.not_lt_zero _)
        | succ N ih10 =>
          intro i gh gv H locs ls hN11 hI hP hD hS hl
          have v := v21 i gh gv hI
          refine lv_iload hx hb d_Ch_tell_49 (lv_at hl 4 rfl) ?_
          refine lv_iload_n hx hb d_Ch_tell_51 rfl (lv_at hl 3 rfl) ?_
          obtain ⟨k12, v⟩ := v
          refine nv_icmp_le (tgt := 93) hx hb d_Ch_tell_52 (by decide) k12 k4 (fun c13 => ?_) (fun c13 => ?_)
          · replace v := v.1 c13
            refine lv_aload_n hx hb d_Ch_tell_93 rfl (lv_at hl 0 rfl) ?_
            refine va_get (D := D) (ci := 2) (v := .ref h1) (C := "LightDoses$Changes") (T := T_Ch) (N := 4) hx hb hts in_Ch hown hK hP 0 rfl rfl 1 (by decide) (hts _ wd_479) (fun _ h9 => h9) rfl d_Ch_tell_94 ?_
            refine lv_iload_n hx hb d_Ch_tell_97 rfl (lv_at hl 3 rfl) ?_
            refine lv_iload_n hx hb d_Ch_tell_98 rfl (lv_at hl 1 rfl) ?_
            obtain ⟨k14, v⟩ := v
            refine nv_iast (f := gh) hx hb hK hP hD hS 1 0 rfl rfl (z2).toNat (Int.toNat_of_nonneg k14.1).symm (by omega) (by decide) d_Ch_tell_99 (fun H locs hP hD hS => ?_)
            have hP : va_P D vwCl [(h0, .inr (2, [.int (iI fst), .ref h1, .ref h2, .int (iI n)])), (h1, .inl (cI, 20, .inl (fun k => iI ((va_up gh (z2).toNat hour) k)))), (h2, .inl (cI, 20, .inl (fun k => iI (gv k))))] H := hP
            have hD : va_D A [(h0, .inr (2, [.int (iI fst), .ref h1, .ref h2, .int (iI n)])), (h1, .inl (cI, 20, .inl (fun k => iI ((va_up gh (z2).toNat hour) k)))), (h2, .inl (cI, 20, .inl (fun k => iI (gv k))))] := hD
            refine lv_aload_n hx hb d_Ch_tell_100 rfl (lv_at hl 0 rfl) ?_
            refine va_get (D := D) (ci := 2) (v := .ref h2) (C := "LightDoses$Changes") (T := T_Ch) (N := 4) hx hb hts in_Ch hown hK hP 0 rfl rfl 2 (by decide) (hts _ wd_480) (fun _ h9 => h9) rfl d_Ch_tell_101 ?_
            refine lv_iload_n hx hb d_Ch_tell_104 rfl (lv_at hl 3 rfl) ?_
            refine lv_iload_n hx hb d_Ch_tell_105 rfl (lv_at hl 2 rfl) ?_
            obtain ⟨k15, v⟩ := v
            refine nv_iast (f := gv) hx hb hK hP hD hS 2 0 rfl rfl (z2).toNat (Int.toNat_of_nonneg k15.1).symm (by omega) (by decide) d_Ch_tell_106 (fun H locs hP hD hS => ?_)
            have hP : va_P D vwCl [(h0, .inr (2, [.int (iI fst), .ref h1, .ref h2, .int (iI n)])), (h1, .inl (cI, 20, .inl (fun k => iI ((va_up gh (z2).toNat hour) k)))), (h2, .inl (cI, 20, .inl (fun k => iI ((va_up gv (z2).toNat value) k))))] H := hP
            have hD : va_D A [(h0, .inr (2, [.int (iI fst), .ref h1, .ref h2, .int (iI n)])), (h1, .inl (cI, 20, .inl (fun k => iI ((va_up gh (z2).toNat hour) k)))), (h2, .inl (cI, 20, .inl (fun k => iI ((va_up gv (z2).toNat value) k))))] := hD
            refine lv_aload_n hx hb d_Ch_tell_107 rfl (lv_at hl 0 rfl) ?_
            refine lv_dup hx hb d_Ch_tell_108 rfl ?_
            refine va_get (D := D) (ci := 2) (v := .int (iI n)) (C := "LightDoses$Changes") (T := T_Ch) (N := 4) hx hb hts in_Ch hown hK hP 0 rfl rfl 3 (by decide) (hts _ wd_481) (fun _ h9 => h9) rfl d_Ch_tell_109 ?_
            refine nv_iconst (n := 1) hx hb d_Ch_tell_112 ?_
            refine nv_iadd (z := n + 1) hx hb d_Ch_tell_113 (by first | rfl | omega) ?_
            refine va_put (D := D) (ci := 2) (v := .int (iI (n + 1))) (ty := .int) (C := "LightDoses$Changes") (T := T_Ch) (N := 4) hx hb hts in_Ch t_Ch tok_Ch n_Ch hown hK hP hD hS 0 rfl rfl 3 (by decide) (hts _ wd_481) (fun _ h9 => h9) rfl (by decide +kernel) rfl rfl (Nat.le_of_ble_eq_true rfl) d_Ch_tell_114 (fun H locs hP hD hS => ?_)
            have hP : va_P D vwCl [(h0, .inr (2, [.int (iI fst), .ref h1, .ref h2, .int (iI (n + 1))])), (h1, .inl (cI, 20, .inl (fun k => iI ((va_up gh (z2).toNat hour) k)))), (h2, .inl (cI, 20, .inl (fun k => iI ((va_up gv (z2).toNat value) k))))] H := hP
            have hD : va_D A [(h0, .inr (2, [.int (iI fst), .ref h1, .ref h2, .int (iI (n + 1))])), (h1, .inl (cI, 20, .inl (fun k => iI ((va_up gh (z2).toNat hour) k)))), (h2, .inl (cI, 20, .inl (fun k => iI ((va_up gv (z2).toNat value) k))))] := hD
            have hP9 := hP.sub (ws' := [(h0, .inr (2, [.int (iI fst), .ref h1, .ref h2, .int (iI (n + 1))])), (h1, .inl (cI, 20, .inl (fun k => iI ((va_up gh (z2).toNat hour) k)))), (h2, .inl (cI, 20, .inl (fun k => iI ((va_up gv (z2).toNat value) k))))]) [0, 1, 2] rfl
            have hD9 := hD.sub (ws' := [(h0, .inr (2, [.int (iI fst), .ref h1, .ref h2, .int (iI (n + 1))])), (h1, .inl (cI, 20, .inl (fun k => iI ((va_up gh (z2).toNat hour) k)))), (h2, .inl (cI, 20, .inl (fun k => iI ((va_up gv (z2).toNat value) k))))]) [0, 1, 2] (by decide) rfl
            exact W.vret hx hb hr (fun t ht hW => ⟨⟨((va_up gh (z2).toNat hour), (va_up gv (z2).toNat value), (n + 1)), rfl, v, by rw [ht]; exact hP9, va_K.moved hW.alike hK, hD9⟩, hS.F ht⟩) hS.2.2 d_Ch_tell_117
          · replace v := v.2 c13
            refine lv_aload_n hx hb d_Ch_tell_55 rfl (lv_at hl 0 rfl) ?_
            refine va_get (D := D) (ci := 2) (v := .ref h1) (C := "LightDoses$Changes") (T := T_Ch) (N := 4) hx hb hts in_Ch hown hK hP 0 rfl rfl 1 (by decide) (hts _ wd_479) (fun _ h9 => h9) rfl d_Ch_tell_56 ?_
            refine lv_iload hx hb d_Ch_tell_59 (lv_at hl 4 rfl) ?_
            refine lv_aload_n hx hb d_Ch_tell_61 rfl (lv_at hl 0 rfl) ?_
            refine va_get (D := D) (ci := 2) (v := .ref h1) (C := "LightDoses$Changes") (T := T_Ch) (N := 4) hx hb hts in_Ch hown hK hP 0 rfl rfl 1 (by decide) (hts _ wd_479) (fun _ h9 => h9) rfl d_Ch_tell_62 ?_
            refine lv_iload hx hb d_Ch_tell_65 (lv_at hl 4 rfl) ?_
            refine nv_iconst (n := 1) hx hb d_Ch_tell_67 ?_
            refine nv_isub (z := i - 1) hx hb d_Ch_tell_68 (by first | rfl | omega) ?_
            obtain ⟨k16, v⟩ := v
            refine nv_iald (f := gh) hx hb hK 0 (hP 1 _ rfl) rfl (i - 1).toNat (Int.toNat_of_nonneg k16.1).symm (by omega) (by decide) d_Ch_tell_69 ?_
            obtain ⟨k17, v⟩ := v
            refine nv_iast (f := gh) hx hb hK hP hD hS 1 0 rfl rfl (i).toNat (Int.toNat_of_nonneg k17.1).symm (by omega) (by decide) d_Ch_tell_70 (fun H locs hP hD hS => ?_)
            have hP : va_P D vwCl [(h0, .inr (2, [.int (iI fst), .ref h1, .ref h2, .int (iI n)])), (h1, .inl (cI, 20, .inl (fun k => iI ((va_up gh (i).toNat (gh (i - 1).toNat)) k)))), (h2, .inl (cI, 20, .inl (fun k => iI (gv k))))] H := hP
            have hD : va_D A [(h0, .inr (2, [.int (iI fst), .ref h1, .ref h2, .int (iI n)])), (h1, .inl (cI, 20, .inl (fun k => iI ((va_up gh (i).toNat (gh (i - 1).toNat)) k)))), (h2, .inl (cI, 20, .inl (fun k => iI (gv k))))] := hD
            refine lv_aload_n hx hb d_Ch_tell_71 rfl (lv_at hl 0 rfl) ?_
            refine va_get (D := D) (ci := 2) (v := .ref h2) (C := "LightDoses$Changes") (T := T_Ch) (N := 4) hx hb hts in_Ch hown hK hP 0 rfl rfl 2 (by decide) (hts _ wd_480) (fun _ h9 => h9) rfl d_Ch_tell_72 ?_
            refine lv_iload hx hb d_Ch_tell_75 (lv_at hl 4 rfl) ?_
            refine lv_aload_n hx hb d_Ch_tell_77 rfl (lv_at hl 0 rfl) ?_
            refine va_get (D := D) (ci := 2) (v := .ref h2) (C := "LightDoses$Changes") (T := T_Ch) (N := 4) hx hb hts in_Ch hown hK hP 0 rfl rfl 2 (by decide) (hts _ wd_480) (fun _ h9 => h9) rfl d_Ch_tell_78 ?_
            refine lv_iload hx hb d_Ch_tell_81 (lv_at hl 4 rfl) ?_
            refine nv_iconst (n := 1) hx hb d_Ch_tell_83 ?_
            refine nv_isub (z := i - 1) hx hb d_Ch_tell_84 (by first | rfl | omega) ?_
            obtain ⟨k18, v⟩ := v
            refine nv_iald (f := gv) hx hb hK 0 (hP 2 _ rfl) rfl (i - 1).toNat (Int.toNat_of_nonneg k18.1).symm (by omega) (by decide) d_Ch_tell_85 ?_
            obtain ⟨k19, v⟩ := v
            refine nv_iast (f := gv) hx hb hK hP hD hS 2 0 rfl rfl (i).toNat (Int.toNat_of_nonneg k19.1).symm (by omega) (by decide) d_Ch_tell_86 (fun H locs hP hD hS => ?_)
            have hP : va_P D vwCl [(h0, .inr (2, [.int (iI fst), .ref h1, .ref h2, .int (iI n)])), (h1, .inl (cI, 20, .inl (fun k => iI ((va_up gh (i).toNat (gh (i - 1).toNat)) k)))), (h2, .inl (cI, 20, .inl (fun k => iI ((va_up gv (i).toNat (gv (i - 1).toNat)) k))))] H := hP
            have hD : va_D A [(h0, .inr (2, [.int (iI fst), .ref h1, .ref h2, .int (iI n)])), (h1, .inl (cI, 20, .inl (fun k => iI ((va_up gh (i).toNat (gh (i - 1).toNat)) k)))), (h2, .inl (cI, 20, .inl (fun k => iI ((va_up gv (i).toNat (gv (i - 1).toNat)) k))))] := hD
            refine nv_iinc (k := 4) (z := i - 1) (lv' := [(4, .int (iI (i - 1))), (0, .ref h0), (1, .int (iI hour)), (2, .int (iI value)), (3, .int (iI z2))]) hx hb d_Ch_tell_87 hl rfl (by omega) (by decide) rfl (fun ls hl => ?_)
            refine lv_goto (tgt := 49) hx hb d_Ch_tell_90 (by decide) ?_
            exact ih10 (i - 1) (va_up gh (i).toNat (gh (i - 1).toNat)) (va_up gv (i).toNat (gv (i - 1).toNat)) H locs ls (Nat.lt_of_lt_of_le v.2 (Nat.le_of_lt_succ hN11)) v.1 hP hD hS (lv_sub hl [1, 2, 3, 4, 0] rfl)
      exact L22 _ n fh fv H locs ls (Nat.lt_succ_self _) v20 hP hD hS (lv_sub hl [2, 3, 4, 1, 0] rfl)
  · replace v := v.2 c5
    refine lv_aload_n hx hb d_Ch_tell_10 rfl (lv_at hl 1 rfl) ?_
    refine va_get (D := D) (ci := 2) (v := .ref h1) (C := "LightDoses$Changes") (T := T_Ch) (N := 4) hx hb hts in_Ch hown hK hP 0 rfl rfl 1 (by decide) (hts _ wd_479) (fun _ h9 => h9) rfl d_Ch_tell_11 ?_
    refine lv_iload_n hx hb d_Ch_tell_14 rfl (lv_at hl 0 rfl) ?_
    refine nv_iconst (n := 1) hx hb d_Ch_tell_15 ?_
    refine nv_isub (z := z2 - 1) hx hb d_Ch_tell_16 (by first | rfl | omega) ?_
    obtain ⟨k23, v⟩ := v
    refine nv_iald (f := fh) hx hb hK 0 (hP 1 _ rfl) rfl (z2 - 1).toNat (Int.toNat_of_nonneg k23.1).symm (by omega) (by decide) d_Ch_tell_17 ?_
    refine lv_iload_n hx hb d_Ch_tell_18 rfl (lv_at hl 2 rfl) ?_
    obtain ⟨k24, v⟩ := v
    obtain ⟨k25, v⟩ := v
    refine nv_icmp_ne (tgt := 34) hx hb d_Ch_tell_19 (by decide) k24 k25 (fun c26 => ?_) (fun c26 => ?_)
    · replace v := v.1 c26
      refine lv_aload_n hx hb d_Ch_tell_34 rfl (lv_at hl 1 rfl) ?_
      refine va_get (D := D) (ci := 2) (v := .int (iI n)) (C := "LightDoses$Changes") (T := T_Ch) (N := 4) hx hb hts in_Ch hown hK hP 0 rfl rfl 3 (by decide) (hts _ wd_481) (fun _ h9 => h9) rfl d_Ch_tell_35 ?_
      refine nv_bipush (z := 20) hx hb d_Ch_tell_38 (by decide) ?_
      obtain ⟨k27, v⟩ := v
      refine nv_icmp_ge (tgt := 117) hx hb d_Ch_tell_40 (by decide) k27 (by decide) (fun c28 => ?_) (fun c28 => ?_)
      · replace v := v.1 c28
        have hP9 := hP.sub (ws' := [(h0, .inr (2, [.int (iI fst), .ref h1, .ref h2, .int (iI n)])), (h1, .inl (cI, 20, .inl (fun k => iI (fh k)))), (h2, .inl (cI, 20, .inl (fun k => iI (fv k))))]) [0, 1, 2] rfl
        have hD9 := hD.sub (ws' := [(h0, .inr (2, [.int (iI fst), .ref h1, .ref h2, .int (iI n)])), (h1, .inl (cI, 20, .inl (fun k => iI (fh k)))), (h2, .inl (cI, 20, .inl (fun k => iI (fv k))))]) [0, 1, 2] (by decide) rfl
        exact W.vret hx hb hr (fun t ht hW => ⟨⟨((fh), (fv), (n)), rfl, v, by rw [ht]; exact hP9, va_K.moved hW.alike hK, hD9⟩, hS.F ht⟩) hS.2.2 d_Ch_tell_117
      · replace v := v.2 c28
        refine lv_aload_n hx hb d_Ch_tell_43 rfl (lv_at hl 1 rfl) ?_
        refine va_get (D := D) (ci := 2) (v := .int (iI n)) (C := "LightDoses$Changes") (T := T_Ch) (N := 4) hx hb hts in_Ch hown hK hP 0 rfl rfl 3 (by decide) (hts _ wd_481) (fun _ h9 => h9) rfl d_Ch_tell_44 ?_
        refine lv_istore (lv' := [(4, .int (iI n)), (3, .int (iI z2)), (0, .ref h0), (1, .int (iI hour)), (2, .int (iI value))]) hx hb d_Ch_tell_47 hl (by decide) rfl (fun ls hl => ?_)
        obtain ⟨I29, μ30, v41, v42⟩ := v
        have L43 : ∀ (N : Nat) (i : Int) (gh : Nat → Int) (gv : Nat → Int) (H : Heap) (locs : List Loc) (ls : Array Slot), μ30 i gh gv < N → I29 i gh gv → va_P D vwCl [(h0, .inr (2, [.int (iI fst), .ref h1, .ref h2, .int (iI n)])), (h1, .inl (cI, 20, .inl (fun k => iI (gh k)))), (h2, .inl (cI, 20, .inl (fun k => iI (gv k))))] H → va_D A [(h0, .inr (2, [.int (iI fst), .ref h1, .ref h2, .int (iI n)])), (h1, .inl (cI, 20, .inl (fun k => iI (gh k)))), (h2, .inl (cI, 20, .inl (fun k => iI (gv k))))] → va_S A s.heap H locs → lv_has ls 5 [(0, .ref h0), (1, .int (iI hour)), (2, .int (iI value)), (3, .int (iI z2)), (4, .int (iI i))] → W p l e (headSpec (.code ⟨"LightDoses$Changes", "tell", "(II)V"⟩ prog_4_method_4_code 5 none :: TG) { frames := 1, cells := 0, slots := 0, locals := 23 }).room s m ([Value.ref h0, Value.int (iI hour), Value.int (iI value)] : List Value).toArray below meth c H locs 0 0 (MQ below (va_Qv (fun u : (Nat → Int) × (Nat → Int) × Int => post u.1 u.2.1 u.2.2) (fun u t => va_P D vwCl [(h0, .inr (2, [.int (iI fst), .ref h1, .ref h2, .int (iI u.2.2)])), (h1, .inl (cI, 20, .inl (fun k => iI (u.1 k)))), (h2, .inl (cI, 20, .inl (fun k => iI (u.2.1 k))))] t.heap ∧ va_K D vwCl (tyx cI cJ cO cZ) t ∧ va_D A [(h0, .inr (2, [.int (iI fst), .ref h1, .ref h2, .int (iI u.2.2)])), (h1, .inl (cI, 20, .inl (fun k => iI (u.1 k)))), (h2, .inl (cI, 20, .inl (fun k => iI (u.2.1 k))))]) A) ([Value.ref h0, Value.int (iI hour), Value.int (iI value)] : List Value).toArray s 0 0 A) (F0 m 49 ls []) := by
          intro N
          induction N with
          | zero => intro i gh gv H locs ls hN; exact absurd hN (Nat.not_lt_zero _)
          | succ N ih31 =>
            intro i gh gv H locs ls hN32 hI hP hD hS hl
            have v := v42 i gh gv hI
            refine lv_iload hx hb d_Ch_tell_49 (lv_at hl 4 rfl) ?_
            refine lv_iload_n hx hb d_Ch_tell_51 rfl (lv_at hl 3 rfl) ?_
            obtain ⟨k33, v⟩ := v
            refine nv_icmp_le (tgt := 93) hx hb d_Ch_tell_52 (by decide) k33 k4 (fun c34 => ?_) (fun c34 => ?_)
            · replace v := v.1 c34
              refine lv_aload_n hx hb d_Ch_tell_93 rfl (lv_at hl 0 rfl) ?_
              refine va_get (D := D) (ci := 2) (v := .ref h1) (C := "LightDoses$Changes") (T := T_Ch) (N := 4) hx hb hts in_Ch hown hK hP 0 rfl rfl 1 (by decide) (hts _ wd_479) (fun _ h9 => h9) rfl d_Ch_tell_94 ?_
              refine lv_iload_n hx hb d_Ch_tell_97 rfl (lv_at hl 3 rfl) ?_
              refine lv_iload_n hx hb d_Ch_tell_98 rfl (lv_at hl 1 rfl) ?_
              obtain ⟨k35, v⟩ := v
              refine nv_iast (f := gh) hx hb hK hP hD hS 1 0 rfl rfl (z2).toNat (Int.toNat_of_nonneg k35.1).symm (by omega) (by decide) d_Ch_tell_99 (fun H locs hP hD hS => ?_)
              have hP : va_P D vwCl [(h0, .inr (2, [.int (iI fst), .ref h1, .ref h2, .int (iI n)])), (h1, .inl (cI, 20, .inl (fun k => iI ((va_up gh (z2).toNat hour) k)))), (h2, .inl (cI, 20, .inl (fun k => iI (gv k))))] H := hP
              have hD : va_D A [(h0, .inr (2, [.int (iI fst), .ref h1, .ref h2, .int (iI n)])), (h1, .inl (cI, 20, .inl (fun k => iI ((va_up gh (z2).toNat hour) k)))), (h2, .inl (cI, 20, .inl (fun k => iI (gv k))))] := hD
              refine lv_aload_n hx hb d_Ch_tell_100 rfl (lv_at hl 0 rfl) ?_
              refine va_get (D := D) (ci := 2) (v := .ref h2) (C := "LightDoses$Changes") (T := T_Ch) (N := 4) hx hb hts in_Ch hown hK hP 0 rfl rfl 2 (by decide) (hts _ wd_480) (fun _ h9 => h9) rfl d_Ch_tell_101 ?_
              refine lv_iload_n hx hb d_Ch_tell_104 rfl (lv_at hl 3 rfl) ?_
              refine lv_iload_n hx hb d_Ch_tell_105 rfl (lv_at hl 2 rfl) ?_
              obtain ⟨k36, v⟩ := v
              refine nv_iast (f := gv) hx hb hK hP hD hS 2 0 rfl rfl (z2).toNat (Int.toNat_of_nonneg k36.1).symm (by omega) (by decide) d_Ch_tell_106 (fun H locs hP hD hS => ?_)
              have hP : va_P D vwCl [(h0, .inr (2, [.int (iI fst), .ref h1, .ref h2, .int (iI n)])), (h1, .inl (cI, 20, .inl (fun k => iI ((va_up gh (z2).toNat hour) k)))), (h2, .inl (cI, 20, .inl (fun k => iI ((va_up gv (z2).toNat value) k))))] H := hP
              have hD : va_D A [(h0, .inr (2, [.int (iI fst), .ref h1, .ref h2, .int (iI n)])), (h1, .inl (cI, 20, .inl (fun k => iI ((va_up gh (z2).toNat hour) k)))), (h2, .inl (cI, 20, .inl (fun k => iI ((va_up gv (z2).toNat value) k))))] := hD
              refine lv_aload_n hx hb d_Ch_tell_107 rfl (lv_at hl 0 rfl) ?_
              refine lv_dup hx hb d_Ch_tell_108 rfl ?_
              refine va_get (D := D) (ci := 2) (v := .int (iI n)) (C := "LightDoses$Changes") (T := T_Ch) (N := 4) hx hb hts in_Ch hown hK hP 0 rfl rfl 3 (by decide) (hts _ wd_481) (fun _ h9 => h9) rfl d_Ch_tell_109 ?_
              refine nv_iconst (n := 1) hx hb d_Ch_tell_112 ?_
              refine nv_iadd (z := n + 1) hx hb d_Ch_tell_113 (by first | rfl | omega) ?_
              refine va_put (D := D) (ci := 2) (v := .int (iI (n + 1))) (ty := .int) (C := "LightDoses$Changes") (T := T_Ch) (N := 4) hx hb hts in_Ch t_Ch tok_Ch n_Ch hown hK hP hD hS 0 rfl rfl 3 (by decide) (hts _ wd_481) (fun _ h9 => h9) rfl (by decide +kernel) rfl rfl (Nat.le_of_ble_eq_true rfl) d_Ch_tell_114 (fun H locs hP hD hS => ?_)
              have hP : va_P D vwCl [(h0, .inr (2, [.int (iI fst), .ref h1, .ref h2, .int (iI (n + 1))])), (h1, .inl (cI, 20, .inl (fun k => iI ((va_up gh (z2).toNat hour) k)))), (h2, .inl (cI, 20, .inl (fun k => iI ((va_up gv (z2).toNat value) k))))] H := hP
              have hD : va_D A [(h0, .inr (2, [.int (iI fst), .ref h1, .ref h2, .int (iI (n + 1))])), (h1, .inl (cI, 20, .inl (fun k => iI ((va_up gh (z2).toNat hour) k)))), (h2, .inl (cI, 20, .inl (fun k => iI ((va_up gv (z2).toNat value) k))))] := hD
              have hP9 := hP.sub (ws' := [(h0, .inr (2, [.int (iI fst), .ref h1, .ref h2, .int (iI (n + 1))])), (h1, .inl (cI, 20, .inl (fun k => iI ((va_up gh (z2).toNat hour) k)))), (h2, .inl (cI, 20, .inl (fun k => iI ((va_up gv (z2).toNat value) k))))]) [0, 1, 2] rfl
              have hD9 := hD.sub (ws' := [(h0, .inr (2, [.int (iI fst), .ref h1, .ref h2, .int (iI (n + 1))])), (h1, .inl (cI, 20, .inl (fun k => iI ((va_up gh (z2).toNat hour) k)))), (h2, .inl (cI, 20, .inl (fun k => iI ((va_up gv (z2).toNat value) k))))]) [0, 1, 2] (by decide) rfl
              exact W.vret hx hb hr (fun t ht hW => ⟨⟨((va_up gh (z2).toNat hour), (va_up gv (z2).toNat value), (n + 1)), rfl, v, by rw [ht]; exact hP9, va_K.moved hW.alike hK, hD9⟩, hS.F ht⟩) hS.2.2 d_Ch_tell_117
            · replace v := v.2 c34
              refine lv_aload_n hx hb d_Ch_tell_55 rfl (lv_at hl 0 rfl) ?_
              refine va_get (D := D) (ci := 2) (v := .ref h1) (C := "LightDoses$Changes") (T := T_Ch) (N := 4) hx hb hts in_Ch hown hK hP 0 rfl rfl 1 (by decide) (hts _ wd_479) (fun _ h9 => h9) rfl d_Ch_tell_56 ?_
              refine lv_iload hx hb d_Ch_tell_59 (lv_at hl 4 rfl) ?_
              refine lv_aload_n hx hb d_Ch_tell_61 rfl (lv_at hl 0 rfl) ?_
              refine va_get (D := D) (ci := 2) (v := .ref h1) (C := "LightDoses$Changes") (T := T_Ch) (N := 4) hx hb hts in_Ch hown hK hP 0 rfl rfl 1 (by decide) (hts _ wd_479) (fun _ h9 => h9) rfl d_Ch_tell_62 ?_
              refine lv_iload hx hb d_Ch_tell_65 (lv_at hl 4 rfl) ?_
              refine nv_iconst (n := 1) hx hb d_Ch_tell_67 ?_
              refine nv_isub (z := i - 1) hx hb d_Ch_tell_68 (by first | rfl | omega) ?_
              obtain ⟨k37, v⟩ := v
              refine nv_iald (f := gh) hx hb hK 0 (hP 1 _ rfl) rfl (i - 1).toNat (Int.toNat_of_nonneg k37.1).symm (by omega) (by decide) d_Ch_tell_69 ?_
              obtain ⟨k38, v⟩ := v
              refine nv_iast (f := gh) hx hb hK hP hD hS 1 0 rfl rfl (i).toNat (Int.toNat_of_nonneg k38.1).symm (by omega) (by decide) d_Ch_tell_70 (fun H locs hP hD hS => ?_)
              have hP : va_P D vwCl [(h0, .inr (2, [.int (iI fst), .ref h1, .ref h2, .int (iI n)])), (h1, .inl (cI, 20, .inl (fun k => iI ((va_up gh (i).toNat (gh (i - 1).toNat)) k)))), (h2, .inl (cI, 20, .inl (fun k => iI (gv k))))] H := hP
              have hD : va_D A [(h0, .inr (2, [.int (iI fst), .ref h1, .ref h2, .int (iI n)])), (h1, .inl (cI, 20, .inl (fun k => iI ((va_up gh (i).toNat (gh (i - 1).toNat)) k)))), (h2, .inl (cI, 20, .inl (fun k => iI (gv k))))] := hD
              refine lv_aload_n hx hb d_Ch_tell_71 rfl (lv_at hl 0 rfl) ?_
              refine va_get (D := D) (ci := 2) (v := .ref h2) (C := "LightDoses$Changes") (T := T_Ch) (N := 4) hx hb hts in_Ch hown hK hP 0 rfl rfl 2 (by decide) (hts _ wd_480) (fun _ h9 => h9) rfl d_Ch_tell_72 ?_
              refine lv_iload hx hb d_Ch_tell_75 (lv_at hl 4 rfl) ?_
              refine lv_aload_n hx hb d_Ch_tell_77 rfl (lv_at hl 0 rfl) ?_
              refine va_get (D := D) (ci := 2) (v := .ref h2) (C := "LightDoses$Changes") (T := T_Ch) (N := 4) hx hb hts in_Ch hown hK hP 0 rfl rfl 2 (by decide) (hts _ wd_480) (fun _ h9 => h9) rfl d_Ch_tell_78 ?_
              refine lv_iload hx hb d_Ch_tell_81 (lv_at hl 4 rfl) ?_
              refine nv_iconst (n := 1) hx hb d_Ch_tell_83 ?_
              refine nv_isub (z := i - 1) hx hb d_Ch_tell_84 (by first | rfl | omega) ?_
              obtain ⟨k39, v⟩ := v
              refine nv_iald (f := gv) hx hb hK 0 (hP 2 _ rfl) rfl (i - 1).toNat (Int.toNat_of_nonneg k39.1).symm (by omega) (by decide) d_Ch_tell_85 ?_
              obtain ⟨k40, v⟩ := v
              refine nv_iast (f := gv) hx hb hK hP hD hS 2 0 rfl rfl (i).toNat (Int.toNat_of_nonneg k40.1).symm (by omega) (by decide) d_Ch_tell_86 (fun H locs hP hD hS => ?_)
              have hP : va_P D vwCl [(h0, .inr (2, [.int (iI fst), .ref h1, .ref h2, .int (iI n)])), (h1, .inl (cI, 20, .inl (fun k => iI ((va_up gh (i).toNat (gh (i - 1).toNat)) k)))), (h2, .inl (cI, 20, .inl (fun k => iI ((va_up gv (i).toNat (gv (i - 1).toNat)) k))))] H := hP
              have hD : va_D A [(h0, .inr (2, [.int (iI fst), .ref h1, .ref h2, .int (iI n)])), (h1, .inl (cI, 20, .inl (fun k => iI ((va_up gh (i).toNat (gh (i - 1).toNat)) k)))), (h2, .inl (cI, 20, .inl (fun k => iI ((va_up gv (i).toNat (gv (i - 1).toNat)) k))))] := hD
              refine nv_iinc (k := 4) (z := i - 1) (lv' := [(4, .int (iI (i - 1))), (0, .ref h0), (1, .int (iI hour)), (2, .int (iI value)), (3, .int (iI z2))]) hx hb d_Ch_tell_87 hl rfl (by omega) (by decide) rfl (fun ls hl => ?_)
              refine lv_goto (tgt := 49) hx hb d_Ch_tell_90 (by decide) ?_
              exact ih31 (i - 1) (va_up gh (i).toNat (gh (i - 1).toNat)) (va_up gv (i).toNat (gv (i - 1).toNat)) H locs ls (Nat.lt_of_lt_of_le v.2 (Nat.le_of_lt_succ hN32)) v.1 hP hD hS (lv_sub hl [1, 2, 3, 4, 0] rfl)
        exact L43 _ n fh fv H locs ls (Nat.lt_succ_self _) v41 hP hD hS (lv_sub hl [2, 3, 4, 1, 0] rfl)
    · replace v := v.2 c26
      refine lv_aload_n hx hb d_Ch_tell_22 rfl (lv_at hl 1 rfl) ?_
      refine va_get (D := D) (ci := 2) (v := .ref h2) (C := "LightDoses$Changes") (T := T_Ch) (N := 4) hx hb hts in_Ch hown hK hP 0 rfl rfl 2 (by decide) (hts _ wd_480) (fun _ h9 => h9) rfl d_Ch_tell_23 ?_
      refine lv_iload_n hx hb d_Ch_tell_26 rfl (lv_at hl 0 rfl) ?_
      refine nv_iconst (n := 1) hx hb d_Ch_tell_27 ?_
      refine nv_isub (z := z2 - 1) hx hb d_Ch_tell_28 (by first | rfl | omega) ?_
      refine lv_iload_n hx hb d_Ch_tell_29 rfl (lv_at hl 3 rfl) ?_
      obtain ⟨k44, v⟩ := v
      refine nv_iast (f := fv) hx hb hK hP hD hS 2 0 rfl rfl (z2 - 1).toNat (Int.toNat_of_nonneg k44.1).symm (by omega) (by decide) d_Ch_tell_30 (fun H locs hP hD hS => ?_)
      have hP : va_P D vwCl [(h0, .inr (2, [.int (iI fst), .ref h1, .ref h2, .int (iI n)])), (h1, .inl (cI, 20, .inl (fun k => iI (fh k)))), (h2, .inl (cI, 20, .inl (fun k => iI ((va_up fv (z2 - 1).toNat value) k))))] H := hP
      have hD : va_D A [(h0, .inr (2, [.int (iI fst), .ref h1, .ref h2, .int (iI n)])), (h1, .inl (cI, 20, .inl (fun k => iI (fh k)))), (h2, .inl (cI, 20, .inl (fun k => iI ((va_up fv (z2 - 1).toNat value) k))))] := hD
      refine lv_goto (tgt := 117) hx hb d_Ch_tell_31 (by decide) ?_
      have hP9 := hP.sub (ws' := [(h0, .inr (2, [.int (iI fst), .ref h1, .ref h2, .int (iI n)])), (h1, .inl (cI, 20, .inl (fun k => iI (fh k)))), (h2, .inl (cI, 20, .inl (fun k => iI ((va_up fv (z2 - 1).toNat value) k))))]) [0, 1, 2] rfl
      have hD9 := hD.sub (ws' := [(h0, .inr (2, [.int (iI fst), .ref h1, .ref h2, .int (iI n)])), (h1, .inl (cI, 20, .inl (fun k => iI (fh k)))), (h2, .inl (cI, 20, .inl (fun k => iI ((va_up fv (z2 - 1).toNat value) k))))]) [0, 1, 2] (by decide) rfl
      exact W.vret hx hb hr (fun t ht hW => ⟨⟨((fh), (va_up fv (z2 - 1).toNat value), (n)), rfl, v, by rw [ht]; exact hP9, va_K.moved hW.alike hK, hD9⟩, hS.F ht⟩) hS.2.2 d_Ch_tell_117

theorem d_Ch_init_0 : decode prog_4_method_1_code 0 = .ok (.aload_n 0, 1) := by decide +kernel
theorem d_Ch_init_1 : decode prog_4_method_1_code 1 = .ok (.invokespecial 3, 3) := by decide +kernel
theorem d_Ch_init_4 : decode prog_4_method_1_code 4 = .ok (.aload_n 0, 1) := by decide +kernel
theorem d_Ch_init_5 : decode prog_4_method_1_code 5 = .ok (.iload_n 1, 1) := by decide +kernel
theorem d_Ch_init_6 : decode prog_4_method_1_code 6 = .ok (.putfield 9, 3) := by decide +kernel
theorem d_Ch_init_9 : decode prog_4_method_1_code 9 = .ok (.aload_n 0, 1) := by decide +kernel
theorem d_Ch_init_10 : decode prog_4_method_1_code 10 = .ok (.bipush 20, 2) := by decide +kernel
theorem d_Ch_init_12 : decode prog_4_method_1_code 12 = .ok (.newarray .int, 2) := by decide +kernel
theorem d_Ch_init_14 : decode prog_4_method_1_code 14 = .ok (.putfield 15, 3) := by decide +kernel
theorem d_Ch_init_17 : decode prog_4_method_1_code 17 = .ok (.aload_n 0, 1) := by decide +kernel
theorem d_Ch_init_18 : decode prog_4_method_1_code 18 = .ok (.bipush 20, 2) := by decide +kernel
theorem d_Ch_init_20 : decode prog_4_method_1_code 20 = .ok (.newarray .int, 2) := by decide +kernel
theorem d_Ch_init_22 : decode prog_4_method_1_code 22 = .ok (.putfield 19, 3) := by decide +kernel
theorem d_Ch_init_25 : decode prog_4_method_1_code 25 = .ok (.aload_n 0, 1) := by decide +kernel
theorem d_Ch_init_26 : decode prog_4_method_1_code 26 = .ok (.iconst 0, 1) := by decide +kernel
theorem d_Ch_init_27 : decode prog_4_method_1_code 27 = .ok (.putfield 22, 3) := by decide +kernel
theorem d_Ch_init_30 : decode prog_4_method_1_code 30 = .ok (.return_, 1) := by decide +kernel
def vc_Ch_init (fst0 : Int) (post : Int → (Nat → Int) → (Nat → Int) → Int → Prop) : Prop := post fst0 (fun _ => 0) (fun _ => 0) 0
set_option maxHeartbeats 4000000 in
set_option maxRecDepth 100000 in
theorem m_Ch_init (l : Launch) (D : va_G) (cI cJ cO cZ : ClassId) (h0 : Nat) (sz : Nat) (fst0 : Int) (post : Int → (Nat → Int) → (Nat → Int) → Int → Prop) (v : vc_Ch_init fst0 post) : Met l ⟨"LightDoses$Changes", "<init>", "(I)V"⟩ (.code ⟨"LightDoses$Changes", "<init>", "(I)V"⟩ prog_4_method_1_code 2 none :: TG) { frames := 1, cells := 2, slots := 40, locals := 24 } (va_Pc [.ref h0, .int (iI fst0)] (fun U => U.heap.size = sz ∧ va_P D vwCl [(h0, .inr (2, [.int (iI 0), .null, .null, .int (iI 0)]))] U.heap ∧ va_K D vwCl (tyx cI cJ cO cZ) U ∧ va_D (fun _ => True) [(h0, .inr (2, [.int (iI 0), .null, .null, .int (iI 0)]))])) (va_Qv (fun u : Int × (Nat → Int) × (Nat → Int) × Int => post u.1 u.2.1 u.2.2.1 u.2.2.2) (fun u t => ∃ (h1 h2 : Nat), va_P D vwCl [(h0, .inr (2, [.int (iI u.1), .ref h1, .ref h2, .int (iI u.2.2.2)])), (h1, .inl (cI, 20, .inl (fun k => iI (u.2.1 k)))), (h2, .inl (cI, 20, .inl (fun k => iI (u.2.2.1 k))))] t.heap ∧ va_K D vwCl (tyx cI cJ cO cZ) t ∧ va_D (va_A [(h0, .inr (2, [.int (iI 0), .null, .null, .int (iI 0)]))] sz) [(h0, .inr (2, [.int (iI u.1), .ref h1, .ref h2, .int (iI u.2.2.2)])), (h1, .inl (cI, 20, .inl (fun k => iI (u.2.1 k)))), (h2, .inl (cI, 20, .inl (fun k => iI (u.2.2.1 k))))]) (va_A [(h0, .inr (2, [.int (iI 0), .null, .null, .int (iI 0)]))] sz)) 2 40 (va_A [(h0, .inr (2, [.int (iI 0), .null, .null, .int (iI 0)]))] sz) := by
  refine Met.ofW (cc := prog_4_method_1_code) (maxL := 2) (ret := none) (by decide) rfl ?_
  intro p e s m args below meth c s₁ B hml hv
  obtain ⟨rfl, hsz, hP, hK, hD0⟩ := hv
  have hx := B.exec
  have hb := B.bytes
  have hr := B.returns
  have hts0 := atoms_spec (ws := (.code ⟨"LightDoses$Changes", "<init>", "(I)V"⟩ prog_4_method_1_code 2 none :: TG)) B.pre
  have hts : ∀ w ∈ TG, w.before _ s = true := fun w h => hts0 w (List.mem_cons_of_mem _ h)
  have hown : s.vm.findClass "LightDoses$Changes" = some m.cls := findClass_of_methodNamed B.named
  have hlocks := B.notSynchronized
  have hin : meth.name = "<init>" := (name_of_methodNamed B.named B.method).1
  subst hsz
  have hD := hD0.self (sz := s.heap.size)
  generalize hAe : va_A [(h0, .inr (2, [.int (iI 0), .null, .null, .int (iI 0)]))] s.heap.size = A at hD ⊢
  have hA : ∀ q : Nat, s.heap.size ≤ q → A q := fun q h => by rw [← hAe]; exact Or.inr h
  have hS : va_S A s.heap s.heap [] := va_S.rf
  have hP : va_P D vwCl [(h0, .inr (2, [.int (iI 0), .null, .null, .int (iI 0)]))] s.heap := hP
  have hl := lv_entry ([Value.ref h0, Value.int (iI fst0)]) (n := 2) (Nat.le_of_ble_eq_true rfl)
  rw [lg_entry_eq]
  generalize (lg_sl ([Value.ref h0, Value.int (iI fst0)]) ++ List.replicate (2 - (lg_sl ([Value.ref h0, Value.int (iI fst0)])).length) Slot.unset).toArray = ls at hl ⊢
  have hl : lv_has ls 2 [(0, .ref h0), (1, .int (iI fst0))] := hl
  unfold vc_Ch_init at v
  obtain ⟨H, hH⟩ : ∃ H, H = s.heap := ⟨_, rfl⟩
  obtain ⟨locs, hlc⟩ : ∃ L : List Loc, L = [] := ⟨_, rfl⟩
  rw [← hlc] at hS ⊢
  have hP : va_P D vwCl [(h0, .inr (2, [.int (iI 0), .null, .null, .int (iI 0)]))] H := by rw [hH]; exact hP
  have hS : va_S A s.heap H locs := by rw [hH]; exact hS
  have hW0 : ∀ {X : Heap → Prop}, X H → X s.heap := fun h => by rw [← hH]; exact h
  refine hW0 (X := fun Z => W p l e _ s m _ below meth c Z locs 0 0 _ _) ?_
  refine lv_aload_n hx hb d_Ch_init_0 rfl (lv_at hl 0 rfl) ?_
  refine W.objInit hx hb hown (hts _ wd_477) (hts _ wd_31) (hts _ wd_32) rfl (by rw [hml]; exact hl.1) rfl d_Ch_init_1 (Nat.le_of_ble_eq_true rfl) (Nat.le_of_ble_eq_true rfl) ?_
  refine W.eq (g2 := F0 m 4 ls []) rfl ?_
  refine lv_aload_n hx hb d_Ch_init_4 rfl (lv_at hl 0 rfl) ?_
  refine lv_iload_n hx hb d_Ch_init_5 rfl (lv_at hl 1 rfl) ?_
  refine va_putF (D := D) (ci := 2) (v := .int (iI fst0)) (ty := .int) (C := "LightDoses$Changes") (T := T_Ch) (N := 4) hx hb hts in_Ch t_Ch tok_Ch n_Ch hown hK hP hD hS 0 rfl rfl 0 (by decide) (hts _ wd_478) (fun _ h9 => h9) rfl hin rfl (by decide +kernel) rfl rfl (Nat.le_of_ble_eq_true rfl) d_Ch_init_6 (fun H locs hP hD hS => ?_)
  have hP : va_P D vwCl [(h0, .inr (2, [.int (iI fst0), .null, .null, .int (iI 0)]))] H := hP
  have hD : va_D A [(h0, .inr (2, [.int (iI fst0), .null, .null, .int (iI 0)]))] := hD
  refine lv_aload_n hx hb d_Ch_init_9 rfl (lv_at hl 0 rfl) ?_
  refine nv_bipush (z := 20) hx hb d_Ch_init_10 (by decide) ?_
  refine nv_newi hx hb (hts _ wd_76) hK hP hD hS hA 0 rfl 20 rfl (by decide) (Nat.le_of_ble_eq_true rfl) (Nat.le_of_ble_eq_true rfl) d_Ch_init_12 (fun q1 H hP hD hS => ?_)
  have hP : va_P D vwCl [(h0, .inr (2, [.int (iI fst0), .null, .null, .int (iI 0)])), (q1, .inl (cI, 20, .inl (fun k => iI ((fun _ => 0) k))))] H := hP
  have hD : va_D A [(h0, .inr (2, [.int (iI fst0), .null, .null, .int (iI 0)])), (q1, .inl (cI, 20, .inl (fun k => iI ((fun _ => 0) k))))] := hD
  refine W.widen (k := 1) (n := 20) (Nat.le_of_ble_eq_true rfl) (Nat.le_of_ble_eq_true rfl) ?_
  refine va_putF (D := D) (ci := 2) (v := .ref q1) (ty := .array .int) (C := "LightDoses$Changes") (T := T_Ch) (N := 4) hx hb hts in_Ch t_Ch tok_Ch n_Ch hown hK hP hD hS 0 rfl rfl 1 (by decide) (hts _ wd_479) (fun _ h9 => h9) rfl hin rfl (by decide +kernel) rfl rfl (Nat.le_of_ble_eq_true rfl) d_Ch_init_14 (fun H locs hP hD hS => ?_)
  have hP : va_P D vwCl [(h0, .inr (2, [.int (iI fst0), .ref q1, .null, .int (iI 0)])), (q1, .inl (cI, 20, .inl (fun k => iI ((fun _ => 0) k))))] H := hP
  have hD : va_D A [(h0, .inr (2, [.int (iI fst0), .ref q1, .null, .int (iI 0)])), (q1, .inl (cI, 20, .inl (fun k => iI ((fun _ => 0) k))))] := hD
  refine lv_aload_n hx hb d_Ch_init_17 rfl (lv_at hl 0 rfl) ?_
  refine nv_bipush (z := 20) hx hb d_Ch_init_18 (by decide) ?_
  refine nv_newi hx hb (hts _ wd_76) hK hP hD hS hA 0 rfl 20 rfl (by decide) (Nat.le_of_ble_eq_true rfl) (Nat.le_of_ble_eq_true rfl) d_Ch_init_20 (fun q2 H hP hD hS => ?_)
  have hP : va_P D vwCl [(h0, .inr (2, [.int (iI fst0), .ref q1, .null, .int (iI 0)])), (q1, .inl (cI, 20, .inl (fun k => iI ((fun _ => 0) k)))), (q2, .inl (cI, 20, .inl (fun k => iI ((fun _ => 0) k))))] H := hP
  have hD : va_D A [(h0, .inr (2, [.int (iI fst0), .ref q1, .null, .int (iI 0)])), (q1, .inl (cI, 20, .inl (fun k => iI ((fun _ => 0) k)))), (q2, .inl (cI, 20, .inl (fun k => iI ((fun _ => 0) k))))] := hD
  refine W.widen (k := 2) (n := 40) (Nat.le_of_ble_eq_true rfl) (Nat.le_of_ble_eq_true rfl) ?_
  refine va_putF (D := D) (ci := 2) (v := .ref q2) (ty := .array .int) (C := "LightDoses$Changes") (T := T_Ch) (N := 4) hx hb hts in_Ch t_Ch tok_Ch n_Ch hown hK hP hD hS 0 rfl rfl 2 (by decide) (hts _ wd_480) (fun _ h9 => h9) rfl hin rfl (by decide +kernel) rfl rfl (Nat.le_of_ble_eq_true rfl) d_Ch_init_22 (fun H locs hP hD hS => ?_)
  have hP : va_P D vwCl [(h0, .inr (2, [.int (iI fst0), .ref q1, .ref q2, .int (iI 0)])), (q1, .inl (cI, 20, .inl (fun k => iI ((fun _ => 0) k)))), (q2, .inl (cI, 20, .inl (fun k => iI ((fun _ => 0) k))))] H := hP
  have hD : va_D A [(h0, .inr (2, [.int (iI fst0), .ref q1, .ref q2, .int (iI 0)])), (q1, .inl (cI, 20, .inl (fun k => iI ((fun _ => 0) k)))), (q2, .inl (cI, 20, .inl (fun k => iI ((fun _ => 0) k))))] := hD
  refine lv_aload_n hx hb d_Ch_init_25 rfl (lv_at hl 0 rfl) ?_
  refine nv_iconst (n := 0) hx hb d_Ch_init_26 ?_
  refine va_put (D := D) (ci := 2) (v := .int (iI 0)) (ty := .int) (C := "LightDoses$Changes") (T := T_Ch) (N := 4) hx hb hts in_Ch t_Ch tok_Ch n_Ch hown hK hP hD hS 0 rfl rfl 3 (by decide) (hts _ wd_481) (fun _ h9 => h9) rfl (by decide +kernel) rfl rfl (Nat.le_of_ble_eq_true rfl) d_Ch_init_27 (fun H locs hP hD hS => ?_)
  have hP : va_P D vwCl [(h0, .inr (2, [.int (iI fst0), .ref q1, .ref q2, .int (iI 0)])), (q1, .inl (cI, 20, .inl (fun k => iI ((fun _ => 0) k)))), (q2, .inl (cI, 20, .inl (fun k => iI ((fun _ => 0) k))))] H := hP
  have hD : va_D A [(h0, .inr (2, [.int (iI fst0), .ref q1, .ref q2, .int (iI 0)])), (q1, .inl (cI, 20, .inl (fun k => iI ((fun _ => 0) k)))), (q2, .inl (cI, 20, .inl (fun k => iI ((fun _ => 0) k))))] := hD
  have hP9 := hP.sub (ws' := [(h0, .inr (2, [.int (iI fst0), .ref q1, .ref q2, .int (iI 0)])), (q1, .inl (cI, 20, .inl (fun k => iI ((fun _ => 0) k)))), (q2, .inl (cI, 20, .inl (fun k => iI ((fun _ => 0) k))))]) [0, 1, 2] rfl
  have hD9 := hD.sub (ws' := [(h0, .inr (2, [.int (iI fst0), .ref q1, .ref q2, .int (iI 0)])), (q1, .inl (cI, 20, .inl (fun k => iI ((fun _ => 0) k)))), (q2, .inl (cI, 20, .inl (fun k => iI ((fun _ => 0) k))))]) [0, 1, 2] (by decide) rfl
  exact W.vret hx hb hr (fun t ht hW => ⟨⟨((fst0), ((fun _ => 0)), ((fun _ => 0)), (0)), rfl, v, q1, q2, by rw [ht]; exact hP9, va_K.moved hW.alike hK, hD9⟩, hS.F ht⟩) hS.2.2 d_Ch_init_30
