/-! MODULE Exhibit -/
theorem d_Ex_addRow_0 : decode prog_6_method_2_code 0 = .ok (.aload_n 0, 1) := by decide +kernel
theorem d_Ex_addRow_1 : decode prog_6_method_2_code 1 = .ok (.getfield 25, 3) := by decide +kernel
theorem d_Ex_addRow_4 : decode prog_6_method_2_code 4 = .ok (.bipush 16, 2) := by decide +kernel
theorem d_Ex_addRow_6 : decode prog_6_method_2_code 6 = .ok (.if_icmp .lt 4, 3) := by decide +kernel
theorem d_Ex_addRow_9 : decode prog_6_method_2_code 9 = .ok (.return_, 1) := by decide +kernel
theorem d_Ex_addRow_10 : decode prog_6_method_2_code 10 = .ok (.aload_n 0, 1) := by decide +kernel
theorem d_Ex_addRow_11 : decode prog_6_method_2_code 11 = .ok (.getfield 25, 3) := by decide +kernel
theorem d_Ex_addRow_14 : decode prog_6_method_2_code 14 = .ok (.istore_n 3, 1) := by decide +kernel
theorem d_Ex_addRow_15 : decode prog_6_method_2_code 15 = .ok (.iload_n 3, 1) := by decide +kernel
theorem d_Ex_addRow_16 : decode prog_6_method_2_code 16 = .ok (.ifCond .le 49, 3) := by decide +kernel
theorem d_Ex_addRow_19 : decode prog_6_method_2_code 19 = .ok (.aload_n 0, 1) := by decide +kernel
theorem d_Ex_addRow_20 : decode prog_6_method_2_code 20 = .ok (.getfield 19, 3) := by decide +kernel
theorem d_Ex_addRow_23 : decode prog_6_method_2_code 23 = .ok (.iload_n 3, 1) := by decide +kernel
theorem d_Ex_addRow_24 : decode prog_6_method_2_code 24 = .ok (.iconst 1, 1) := by decide +kernel
theorem d_Ex_addRow_25 : decode prog_6_method_2_code 25 = .ok (.isub, 1) := by decide +kernel
theorem d_Ex_addRow_26 : decode prog_6_method_2_code 26 = .ok (.iaload, 1) := by decide +kernel
theorem d_Ex_addRow_27 : decode prog_6_method_2_code 27 = .ok (.iload_n 1, 1) := by decide +kernel
theorem d_Ex_addRow_28 : decode prog_6_method_2_code 28 = .ok (.if_icmp .le 37, 3) := by decide +kernel
theorem d_Ex_addRow_31 : decode prog_6_method_2_code 31 = .ok (.aload_n 0, 1) := by decide +kernel
theorem d_Ex_addRow_32 : decode prog_6_method_2_code 32 = .ok (.getfield 19, 3) := by decide +kernel
theorem d_Ex_addRow_35 : decode prog_6_method_2_code 35 = .ok (.iload_n 3, 1) := by decide +kernel
theorem d_Ex_addRow_36 : decode prog_6_method_2_code 36 = .ok (.aload_n 0, 1) := by decide +kernel
theorem d_Ex_addRow_37 : decode prog_6_method_2_code 37 = .ok (.getfield 19, 3) := by decide +kernel
theorem d_Ex_addRow_40 : decode prog_6_method_2_code 40 = .ok (.iload_n 3, 1) := by decide +kernel
theorem d_Ex_addRow_41 : decode prog_6_method_2_code 41 = .ok (.iconst 1, 1) := by decide +kernel
theorem d_Ex_addRow_42 : decode prog_6_method_2_code 42 = .ok (.isub, 1) := by decide +kernel
theorem d_Ex_addRow_43 : decode prog_6_method_2_code 43 = .ok (.iaload, 1) := by decide +kernel
theorem d_Ex_addRow_44 : decode prog_6_method_2_code 44 = .ok (.iastore, 1) := by decide +kernel
theorem d_Ex_addRow_45 : decode prog_6_method_2_code 45 = .ok (.aload_n 0, 1) := by decide +kernel
theorem d_Ex_addRow_46 : decode prog_6_method_2_code 46 = .ok (.getfield 22, 3) := by decide +kernel
theorem d_Ex_addRow_49 : decode prog_6_method_2_code 49 = .ok (.iload_n 3, 1) := by decide +kernel
theorem d_Ex_addRow_50 : decode prog_6_method_2_code 50 = .ok (.aload_n 0, 1) := by decide +kernel
theorem d_Ex_addRow_51 : decode prog_6_method_2_code 51 = .ok (.getfield 22, 3) := by decide +kernel
theorem d_Ex_addRow_54 : decode prog_6_method_2_code 54 = .ok (.iload_n 3, 1) := by decide +kernel
theorem d_Ex_addRow_55 : decode prog_6_method_2_code 55 = .ok (.iconst 1, 1) := by decide +kernel
theorem d_Ex_addRow_56 : decode prog_6_method_2_code 56 = .ok (.isub, 1) := by decide +kernel
theorem d_Ex_addRow_57 : decode prog_6_method_2_code 57 = .ok (.iaload, 1) := by decide +kernel
theorem d_Ex_addRow_58 : decode prog_6_method_2_code 58 = .ok (.iastore, 1) := by decide +kernel
theorem d_Ex_addRow_59 : decode prog_6_method_2_code 59 = .ok (.iinc 3 (-1), 3) := by decide +kernel
theorem d_Ex_addRow_62 : decode prog_6_method_2_code 62 = .ok (.goto (-47), 3) := by decide +kernel
theorem d_Ex_addRow_65 : decode prog_6_method_2_code 65 = .ok (.aload_n 0, 1) := by decide +kernel
theorem d_Ex_addRow_66 : decode prog_6_method_2_code 66 = .ok (.getfield 19, 3) := by decide +kernel
theorem d_Ex_addRow_69 : decode prog_6_method_2_code 69 = .ok (.iload_n 3, 1) := by decide +kernel
theorem d_Ex_addRow_70 : decode prog_6_method_2_code 70 = .ok (.iload_n 1, 1) := by decide +kernel
theorem d_Ex_addRow_71 : decode prog_6_method_2_code 71 = .ok (.iastore, 1) := by decide +kernel
theorem d_Ex_addRow_72 : decode prog_6_method_2_code 72 = .ok (.aload_n 0, 1) := by decide +kernel
theorem d_Ex_addRow_73 : decode prog_6_method_2_code 73 = .ok (.getfield 22, 3) := by decide +kernel
theorem d_Ex_addRow_76 : decode prog_6_method_2_code 76 = .ok (.iload_n 3, 1) := by decide +kernel
theorem d_Ex_addRow_77 : decode prog_6_method_2_code 77 = .ok (.iload_n 2, 1) := by decide +kernel
theorem d_Ex_addRow_78 : decode prog_6_method_2_code 78 = .ok (.iastore, 1) := by decide +kernel
theorem d_Ex_addRow_79 : decode prog_6_method_2_code 79 = .ok (.aload_n 0, 1) := by decide +kernel
theorem d_Ex_addRow_80 : decode prog_6_method_2_code 80 = .ok (.dup, 1) := by decide +kernel
theorem d_Ex_addRow_81 : decode prog_6_method_2_code 81 = .ok (.getfield 25, 3) := by decide +kernel
theorem d_Ex_addRow_84 : decode prog_6_method_2_code 84 = .ok (.iconst 1, 1) := by decide +kernel
theorem d_Ex_addRow_85 : decode prog_6_method_2_code 85 = .ok (.iadd, 1) := by decide +kernel
theorem d_Ex_addRow_86 : decode prog_6_method_2_code 86 = .ok (.putfield 25, 3) := by decide +kernel
theorem d_Ex_addRow_89 : decode prog_6_method_2_code 89 = .ok (.return_, 1) := by decide +kernel
def vc_Ex_addRow (kd : Int) (es : Nat → Int) (ef : Nat → Int) (et : Nat → Int) (en : Int) (from_ : Int) (to_ : Int) (post : (Nat → Int) → (Nat → Int) → Int → Prop) : Prop := (r32 en) ∧ ((en < 16 → ∃ (I3 : Int → (Nat → Int) → (Nat → Int) → Prop) (μ4 : Int → (Nat → Int) → (Nat → Int) → Nat), I3 en ef et ∧ ∀ (i : Int) (gf : Nat → Int) (gt : Nat → Int), I3 i gf gt → (r32 i) ∧ ((i ≤ 0 → (0 ≤ i ∧ i < 16) ∧ ((0 ≤ i ∧ i < 16) ∧ (post (va_up gf (i).toNat from_) (va_up gt (i).toNat to_) (en + 1)))) ∧ (0 < i → (0 ≤ i - 1 ∧ i - 1 < 16) ∧ ((r32 (gf (i - 1).toNat)) ∧ ((r32 from_) ∧ ((gf (i - 1).toNat ≤ from_ → (0 ≤ i ∧ i < 16) ∧ ((0 ≤ i ∧ i < 16) ∧ (post (va_up gf (i).toNat from_) (va_up gt (i).toNat to_) (en + 1)))) ∧ (from_ < gf (i - 1).toNat → (0 ≤ i - 1 ∧ i - 1 < 16) ∧ ((0 ≤ i ∧ i < 16) ∧ ((0 ≤ i - 1 ∧ i - 1 < 16) ∧ ((0 ≤ i ∧ i < 16) ∧ (I3 (i - 1) (va_up gf (i).toNat (gf (i - 1).toNat)) (va_up gt (i).toNat (gt (i - 1).toNat)) ∧ μ4 (i - 1) (va_up gf (i).toNat (gf (i - 1).toNat)) (va_up gt (i).toNat (gt (i - 1).toNat)) < μ4 i gf gt))))))))))) ∧ (16 ≤ en → post ef et en))
set_option maxHeartbeats 4000000 in
set_option maxRecDepth 100000 in
theorem m_Ex_addRow (l : Launch) (D : va_G) (cI cJ cO cZ : ClassId) (h0 h1 h2 h3 : Nat) (sz : Nat) (kd : Int) (es : Nat → Int) (ef : Nat → Int) (et : Nat → Int) (en : Int) (from_ : Int) (to_ : Int) (post : (Nat → Int) → (Nat → Int) → Int → Prop) (v : vc_Ex_addRow kd es ef et en from_ to_ post) : Met l ⟨"LightDoses$Exhibit", "addRow", "(II)V"⟩ (.code ⟨"LightDoses$Exhibit", "addRow", "(II)V"⟩ prog_6_method_2_code 4 none :: TG) { frames := 0, cells := 0, slots := 0, locals := 0 } (va_Pc [.ref h0, .int (iI from_), .int (iI to_)] (fun U => U.heap.size = sz ∧ va_P D vwCl [(h0, .inr (4, [.int (iI kd), .ref h1, .ref h2, .ref h3, .int (iI en)])), (h1, .inl (cI, 8, .inl (fun k => iI (es k)))), (h2, .inl (cI, 16, .inl (fun k => iI (ef k)))), (h3, .inl (cI, 16, .inl (fun k => iI (et k))))] U.heap ∧ va_K D vwCl (tyx cI cJ cO cZ) U ∧ va_D (fun _ => True) [(h0, .inr (4, [.int (iI kd), .ref h1, .ref h2, .ref h3, .int (iI en)])), (h1, .inl (cI, 8, .inl (fun k => iI (es k)))), (h2, .inl (cI, 16, .inl (fun k => iI (ef k)))), (h3, .inl (cI, 16, .inl (fun k => iI (et k))))])) (va_Qv (fun u : (Nat → Int) × (Nat → Int) × Int => post u.1 u.2.1 u.2.2) (fun u t => va_P D vwCl [(h0, .inr (4, [.int (iI kd), .ref h1, .ref h2, .ref h3, .int (iI u.2.2)])), (h1, .inl (cI, 8, .inl (fun k => iI (es k)))), (h2, .inl (cI, 16, .inl (fun k => iI (u.1 k)))), (h3, .inl (cI, 16, .inl (fun k => iI (u.2.1 k))))] t.heap ∧ va_K D vwCl (tyx cI cJ cO cZ) t ∧ va_D (va_A [(h0, .inr (4, [.int (iI kd), .ref h1, .ref h2, .ref h3, .int (iI en)])), (h1, .inl (cI, 8, .inl (fun k => iI (es k)))), (h2, .inl (cI, 16, .inl (fun k => iI (ef k)))), (h3, .inl (cI, 16, .inl (fun k => iI (et k))))] sz) [(h0, .inr (4, [.int (iI kd), .ref h1, .ref h2, .ref h3, .int (iI u.2.2)])), (h1, .inl (cI, 8, .inl (fun k => iI (es k)))), (h2, .inl (cI, 16, .inl (fun k => iI (u.1 k)))), (h3, .inl (cI, 16, .inl (fun k => iI (u.2.1 k))))]) (va_A [(h0, .inr (4, [.int (iI kd), .ref h1, .ref h2, .ref h3, .int (iI en)])), (h1, .inl (cI, 8, .inl (fun k => iI (es k)))), (h2, .inl (cI, 16, .inl (fun k => iI (ef k)))), (h3, .inl (cI, 16, .inl (fun k => iI (et k))))] sz)) 0 0 (va_A [(h0, .inr (4, [.int (iI kd), .ref h1, .ref h2, .ref h3, .int (iI en)])), (h1, .inl (cI, 8, .inl (fun k => iI (es k)))), (h2, .inl (cI, 16, .inl (fun k => iI (ef k)))), (h3, .inl (cI, 16, .inl (fun k => iI (et k))))] sz) := by
  refine Met.ofW (cc := prog_6_method_2_code) (maxL := 4) (ret := none) (by decide) rfl ?_
  intro p e s m args below meth c s₁ B hml hv
  obtain ⟨rfl, hsz, hP, hK, hD0⟩ := hv
  have hx := B.exec
  have hb := B.bytes
  have hr := B.returns
  have hts0 := atoms_spec (ws := (.code ⟨"LightDoses$Exhibit", "addRow", "(II)V"⟩ prog_6_method_2_code 4 none :: TG)) B.pre
  have hts : ∀ w ∈ TG, w.before _ s = true := fun w h => hts0 w (List.mem_cons_of_mem _ h)
  have hown : s.vm.findClass "LightDoses$Exhibit" = some m.cls := findClass_of_methodNamed B.named
  have hlocks := B.notSynchronized
  subst hsz
  have hD := hD0.self (sz := s.heap.size)
  generalize hAe : va_A [(h0, .inr (4, [.int (iI kd), .ref h1, .ref h2, .ref h3, .int (iI en)])), (h1, .inl (cI, 8, .inl (fun k => iI (es k)))), (h2, .inl (cI, 16, .inl (fun k => iI (ef k)))), (h3, .inl (cI, 16, .inl (fun k => iI (et k))))] s.heap.size = A at hD ⊢
  have hA : ∀ q : Nat, s.heap.size ≤ q → A q := fun q h => by rw [← hAe]; exact Or.inr h
  have hS : va_S A s.heap s.heap [] := va_S.rf
  have hP : va_P D vwCl [(h0, .inr (4, [.int (iI kd), .ref h1, .ref h2, .ref h3, .int (iI en)])), (h1, .inl (cI, 8, .inl (fun k => iI (es k)))), (h2, .inl (cI, 16, .inl (fun k => iI (ef k)))), (h3, .inl (cI, 16, .inl (fun k => iI (et k))))] s.heap := hP
  have hl := lv_entry ([Value.ref h0, Value.int (iI from_), Value.int (iI to_)]) (n := 4) (Nat.le_of_ble_eq_true rfl)
  rw [lg_entry_eq]
  generalize (lg_sl ([Value.ref h0, Value.int (iI from_), Value.int (iI to_)]) ++ List.replicate (4 - (lg_sl ([Value.ref h0, Value.int (iI from_), Value.int (iI to_)])).length) Slot.unset).toArray = ls at hl ⊢
  have hl : lv_has ls 4 [(0, .ref h0), (1, .int (iI from_)), (2, .int (iI to_))] := hl
  unfold vc_Ex_addRow at v
  obtain ⟨H, hH⟩ : ∃ H, H = s.heap := ⟨_, rfl⟩
  obtain ⟨locs, hlc⟩ : ∃ L : List Loc, L = [] := ⟨_, rfl⟩
  rw [← hlc] at hS ⊢
  have hP : va_P D vwCl [(h0, .inr (4, [.int (iI kd), .ref h1, .ref h2, .ref h3, .int (iI en)])), (h1, .inl (cI, 8, .inl (fun k => iI (es k)))), (h2, .inl (cI, 16, .inl (fun k => iI (ef k)))), (h3, .inl (cI, 16, .inl (fun k => iI (et k))))] H := by rw [hH]; exact hP
  have hS : va_S A s.heap H locs := by rw [hH]; exact hS
  have hW0 : ∀ {X : Heap → Prop}, X H → X s.heap := fun h => by rw [← hH]; exact h
  refine hW0 (X := fun Z => W p l e _ s m _ below meth c Z locs 0 0 _ _) ?_
  refine lv_aload_n hx hb d_Ex_addRow_0 rfl (lv_at hl 0 rfl) ?_
  refine va_get (D := D) (ci := 4) (v := .int (iI en)) (C := "LightDoses$Exhibit") (T := T_Ex) (N := 5) hx hb hts in_Ex hown hK hP 0 rfl rfl 4 (by decide) (hts _ wd_362) (fun _ h9 => h9) rfl d_Ex_addRow_1 ?_
  refine nv_bipush (z := 16) hx hb d_Ex_addRow_4 (by decide) ?_
  obtain ⟨k1, v⟩ := v
  refine nv_icmp_lt (tgt := 10) hx hb d_Ex_addRow_6 (by decide) k1 (by decide) (fun c2 => ?_) (fun c2 => ?_)
  · replace v := v.1 c2
    refine lv_aload_n hx hb d_Ex_addRow_10 rfl (lv_at hl 0 rfl) ?_
    refine va_get (D := D) (ci := 4) (v := .int (iI en)) (C := "LightDoses$Exhibit") (T := T_Ex) (N := 5) hx hb hts in_Ex hown hK hP 0 rfl rfl 4 (by decide) (hts _ wd_362) (fun _ h9 => h9) rfl d_Ex_addRow_11 ?_
    refine lv_istore_n (lv' := [(3, .int (iI en)), (0, .ref h0), (1, .int (iI from_)), (2, .int (iI to_))]) hx hb d_Ex_addRow_14 rfl hl (by decide) rfl (fun ls hl => ?_)
    obtain ⟨I3, μ4, v21, v22⟩ := v
    have L23 : ∀ (N : Nat) (i : Int) (gf : Nat → Int) (gt : Nat → Int) (H : Heap) (locs : List Loc) (ls : Array Slot), μ4 i gf gt < N → I3 i gf gt → va_P D vwCl [(h0, .inr (4, [.int (iI kd), .ref h1, .ref h2, .ref h3, .int (iI en)])), (h1, .inl (cI, 8, .inl (fun k => iI (es k)))), (h2, .inl (cI, 16, .inl (fun k => iI (gf k)))), (h3, .inl (cI, 16, .inl (fun k => iI (gt k))))] H → va_D A [(h0, .inr (4, [.int (iI kd), .ref h1, .ref h2, .ref h3, .int (iI en)])), (h1, .inl (cI, 8, .inl (fun k => iI (es k)))), (h2, .inl (cI, 16, .inl (fun k => iI (gf k)))), (h3, .inl (cI, 16, .inl (fun k => iI (gt k))))] → va_S A s.heap H locs → lv_has ls 4 [(0, .ref h0), (1, .int (iI from_)), (2, .int (iI to_)), (3, .int (iI i))] → W p l e (headSpec (.code ⟨"LightDoses$Exhibit", "addRow", "(II)V"⟩ prog_6_method_2_code 4 none :: TG) { frames := 0, cells := 0, slots := 0, locals := 0 }).room s m ([Value.ref h0, Value.int (iI from_), Value.int (iI to_)] : List Value).toArray below meth c H locs 0 0 (MQ below (va_Qv (fun u : (Nat → Int) × (Nat → Int) × Int => post u.1 u.2.1 u.2.2) (fun u t => va_P D vwCl [(h0, .inr (4, [.int (iI kd), .ref h1, .ref h2, .ref h3, .int (iI u.2.2)])), (h1, .inl (cI, 8, .inl (fun k => iI (es k)))), (h2, .inl (cI, 16, .inl (fun k => iI (u.1 k)))), (h3, .inl (cI, 16, .inl (fun k => iI (u.2.1 k))))] t.heap ∧ va_K D vwCl (tyx cI cJ cO cZ) t ∧ va_D A [(h0, .inr (4, [.int (iI kd), .ref h1, .ref h2, .ref h3, .int (iI u.2.2)])), (h1, .inl (cI, 8, .inl (fun k => iI (es k)))), (h2, .inl (cI, 16, .inl (fun k => iI (u.1 k)))), (h3, .inl (cI, 16, .inl (fun k => iI (u.2.1 k))))]) A) ([Value.ref h0, Value.int (iI from_), Value.int (iI to_)] : List Value).toArray s 0 0 A) (F0 m 15 ls []) := by
      intro N
      induction N with
      | zero => intro i gf gt H locs ls hN; exact absurd hN (Nat.not_lt_zero _)
      | succ N ih5 =>
        intro i gf gt H locs ls hN6 hI hP hD hS hl
        have v := v22 i gf gt hI
        refine lv_iload_n hx hb d_Ex_addRow_15 rfl (lv_at hl 3 rfl) ?_
        obtain ⟨k7, v⟩ := v
        refine nv_if_le (tgt := 65) hx hb d_Ex_addRow_16 (by decide) k7 (fun c8 => ?_) (fun c8 => ?_)
        · replace v := v.1 c8
          refine lv_aload_n hx hb d_Ex_addRow_65 rfl (lv_at hl 0 rfl) ?_
          refine va_get (D := D) (ci := 4) (v := .ref h2) (C := "LightDoses$Exhibit") (T := T_Ex) (N := 5) hx hb hts in_Ex hown hK hP 0 rfl rfl 2 (by decide) (hts _ wd_358) (fun _ h9 => h9) rfl d_Ex_addRow_66 ?_
          refine lv_iload_n hx hb d_Ex_addRow_69 rfl (lv_at hl 3 rfl) ?_
          refine lv_iload_n hx hb d_Ex_addRow_70 rfl (lv_at hl 1 rfl) ?_
          obtain ⟨k9, v⟩ := v
          refine nv_iast (f := gf) hx hb hK hP hD hS 2 0 rfl rfl (i).toNat (Int.toNat_of_nonneg k9.1).symm (by omega) (by decide) d_Ex_addRow_71 (fun H locs hP hD hS => ?_)
          have hP : va_P D vwCl [(h0, .inr (4, [.int (iI kd), .ref h1, .ref h2, .ref h3, .int (iI en)])), (h1, .inl (cI, 8, .inl (fun k => iI (es k)))), (h2, .inl (cI, 16, .inl (fun k => iI ((va_up gf (i).toNat from_) k)))), (h3, .inl (cI, 16, .inl (fun k => iI (gt k))))] H := hP
          have hD : va_D A [(h0, .inr (4, [.int (iI kd), .ref h1, .ref h2, .ref h3, .int (iI en)])), (h1, .inl (cI, 8, .inl (fun k => iI (es k)))), (h2, .inl (cI, 16, .inl (fun k => iI ((va_up gf (i).toNat from_) k)))), (h3, .inl (cI, 16, .inl (fun k => iI (gt k))))] := hD
          refine lv_aload_n hx hb d_Ex_addRow_72 rfl (lv_at hl 0 rfl) ?_
          refine va_get (D := D) (ci := 4) (v := .ref h3) (C := "LightDoses$Exhibit") (T := T_Ex) (N := 5) hx hb hts in_Ex hown hK hP 0 rfl rfl 3 (by decide) (hts _ wd_360) (fun _ h9 => h9) rfl d_Ex_addRow_73 ?_
          refine lv_iload_n hx hb d_Ex_addRow_76 rfl (lv_at hl 3 rfl) ?_
          refine lv_iload_n hx hb d_Ex_addRow_77 rfl (lv_at hl 2 rfl) ?_
          obtain ⟨k10, v⟩ := v
          refine nv_iast (f := gt) hx hb hK hP hD hS 3 0 rfl rfl (i).toNat (Int.toNat_of_nonneg k10.1).symm (by omega) (by decide) d_Ex_addRow_78 (fun H locs hP hD hS => ?_)
          have hP : va_P D vwCl [(h0, .inr (4, [.int (iI kd), .ref h1, .ref h2, .ref h3, .int (iI en)])), (h1, .inl (cI, 8, .inl (fun k => iI (es k)))), (h2, .inl (cI, 16, .inl (fun k => iI ((va_up gf (i).toNat from_) k)))), (h3, .inl (cI, 16, .inl (fun k => iI ((va_up gt (i).toNat to_) k))))] H := hP
          have hD : va_D A [(h0, .inr (4, [.int (iI kd), .ref h1, .ref h2, .ref h3, .int (iI en)])), (h1, .inl (cI, 8, .inl (fun k => iI (es k)))), (h2, .inl (cI, 16, .inl (fun k => iI ((va_up gf (i).toNat from_) k)))), (h3, .inl (cI, 16, .inl (fun k => iI ((va_up gt (i).toNat to_) k))))] := hD
          refine lv_aload_n hx hb d_Ex_addRow_79 rfl (lv_at hl 0 rfl) ?_
          refine lv_dup hx hb d_Ex_addRow_80 rfl ?_
          refine va_get (D := D) (ci := 4) (v := .int (iI en)) (C := "LightDoses$Exhibit") (T := T_Ex) (N := 5) hx hb hts in_Ex hown hK hP 0 rfl rfl 4 (by decide) (hts _ wd_362) (fun _ h9 => h9) rfl d_Ex_addRow_81 ?_
          refine nv_iconst (n := 1) hx hb d_Ex_addRow_84 ?_
          refine nv_iadd (z := en + 1) hx hb d_Ex_addRow_85 (by first | rfl | omega) ?_
          refine va_put (D := D) (ci := 4) (v := .int (iI (en + 1))) (ty := .int) (C := "LightDoses$Exhibit") (T := T_Ex) (N := 5) hx hb hts in_Ex t_Ex tok_Ex n_Ex hown hK hP hD hS 0 rfl rfl 4 (by decide) (hts _ wd_362) (fun _ h9 => h9) rfl (by decide +kernel) rfl rfl (Nat.le_of_ble_eq_true rfl) d_Ex_addRow_86 (fun H locs hP hD hS => ?_)
          have hP : va_P D vwCl [(h0, .inr (4, [.int (iI kd), .ref h1, .ref h2, .ref h3, .int (iI (en + 1))])), (h1, .inl (cI, 8, .inl (fun k => iI (es k)))), (h2, .inl (cI, 16, .inl (fun k => iI ((va_up gf (i).toNat from_) k)))), (h3, .inl (cI, 16, .inl (fun k => iI ((va_up gt (i).toNat to_) k))))] H := hP
          have hD : va_D A [(h0, .inr (4, [.int (iI kd), .ref h1, .ref h2, .ref h3, .int (iI (en + 1))])), (h1, .inl (cI, 8, .inl (fun k => iI (es k)))), (h2, .inl (cI, 16, .inl (fun k => iI ((va_up gf (i).toNat from_) k)))), (h3, .inl (cI, 16, .inl (fun k => iI ((va_up gt (i).toNat to_) k))))] := hD
          have hP9 := hP.sub (ws' := [(h0, .inr (4, [.int (iI kd), .ref h1, .ref h2, .ref h3, .int (iI (en + 1))])), (h1, .inl (cI, 8, .inl (fun k => iI (es k)))), (h2, .inl (cI, 16, .inl (fun k => iI ((va_up gf (i).toNat from_) k)))), (h3, .inl (cI, 16, .inl (fun k => iI ((va_up gt (i).toNat to_) k))))]) [0, 1, 2, 3] rfl
          have hD9 := hD.sub (ws' := [(h0, .inr (4, [.int (iI kd), .ref h1, .ref h2, .ref h3, .int (iI (en + 1))])), (h1, .inl (cI, 8, .inl (fun k => iI (es k)))), (h2, .inl (cI, 16, .inl (fun k => iI ((va_up gf (i).toNat from_) k)))), (h3, .inl (cI, 16, .inl (fun k => iI ((va_up gt (i).toNat to_) k))))]) [0, 1, 2, 3] (by decide) rfl
          exact W.vret hx hb hr (fun t ht hW => ⟨⟨((va_up gf (i).toNat from_), (va_up gt (i).toNat to_), (en + 1)), rfl, v, by rw [ht]; exact hP9, va_K.moved hW.alike hK, hD9⟩, hS.F ht⟩) hS.2.2 d_Ex_addRow_89
        · replace v := v.2 c8
          refine lv_aload_n hx hb d_Ex_addRow_19 rfl (lv_at hl 0 rfl) ?_
          refine va_get (D := D) (ci := 4) (v := .ref h2) (C := "LightDoses$Exhibit") (T := T_Ex) (N := 5) hx hb hts in_Ex hown hK hP 0 rfl rfl 2 (by decide) (hts _ wd_358) (fun _ h9 => h9) rfl d_Ex_addRow_20 ?_
          refine lv_iload_n hx hb d_Ex_addRow_23 rfl (lv_at hl 3 rfl) ?_
          refine nv_iconst (n := 1) hx hb d_Ex_addRow_24 ?_
          refine nv_isub (z := i - 1) hx hb d_Ex_addRow_25 (by first | rfl | omega) ?_
          obtain ⟨k11, v⟩ := v
          refine nv_iald (f := gf) hx hb hK 0 (hP 2 _ rfl) rfl (i - 1).toNat (Int.toNat_of_nonneg k11.1).symm (by omega) (by decide) d_Ex_addRow_26 ?_
          refine lv_iload_n hx hb d_Ex_addRow_27 rfl (lv_at hl 1 rfl) ?_
          obtain ⟨k12, v⟩ := v
          obtain ⟨k13, v⟩ := v
          refine nv_icmp_le (tgt := 65) hx hb d_Ex_addRow_28 (by decide) k12 k13 (fun c14 => ?_) (fun c14 => ?_)
          · replace v := v.1 c14
            refine lv_aload_n hx hb d_Ex_addRow_65 rfl (lv_at hl 0 rfl) ?_
            refine va_get (D := D) (ci := 4) (v := .ref h2) (C := "LightDoses$Exhibit") (T := T_Ex) (N := 5) hx hb hts in_Ex hown hK hP 0 rfl rfl 2 (by decide) (hts _ wd_358) (fun _ h9 => h9) rfl d_Ex_addRow_66 ?_
            refine lv_iload_n hx hb d_Ex_addRow_69 rfl (lv_at hl 3 rfl) ?_
            refine lv_iload_n hx hb d_Ex_addRow_70 rfl (lv_at hl 1 rfl) ?_
            obtain ⟨k15, v⟩ := v
            refine nv_iast (f := gf) hx hb hK hP hD hS 2 0 rfl rfl (i).toNat (Int.toNat_of_nonneg k15.1).symm (by omega) (by decide) d_Ex_addRow_71 (fun H locs hP hD hS => ?_)
            have hP : va_P D vwCl [(h0, .inr (4, [.int (iI kd), .ref h1, .ref h2, .ref h3, .int (iI en)])), (h1, .inl (cI, 8, .inl (fun k => iI (es k)))), (h2, .inl (cI, 16, .inl (fun k => iI ((va_up gf (i).toNat from_) k)))), (h3, .inl (cI, 16, .inl (fun k => iI (gt k))))] H := hP
            have hD : va_D A [(h0, .inr (4, [.int (iI kd), .ref h1, .ref h2, .ref h3, .int (iI en)])), (h1, .inl (cI, 8, .inl (fun k => iI (es k)))), (h2, .inl (cI, 16, .inl (fun k => iI ((va_up gf (i).toNat from_) k)))), (h3, .inl (cI, 16, .inl (fun k => iI (gt k))))] := hD
            refine lv_aload_n hx hb d_Ex_addRow_72 rfl (lv_at hl 0 rfl) ?_
            refine va_get (D := D) (ci := 4) (v := .ref h3) (C := "LightDoses$Exhibit") (T := T_Ex) (N := 5) hx hb hts in_Ex hown hK hP 0 rfl rfl 3 (by decide) (hts _ wd_360) (fun _ h9 => h9) rfl d_Ex_addRow_73 ?_
            refine lv_iload_n hx hb d_Ex_addRow_76 rfl (lv_at hl 3 rfl) ?_
            refine lv_iload_n hx hb d_Ex_addRow_77 rfl (lv_at hl 2 rfl) ?_
            obtain ⟨k16, v⟩ := v
            refine nv_iast (f := gt) hx hb hK hP hD hS 3 0 rfl rfl (i).toNat (Int.toNat_of_nonneg k16.1).symm (by omega) (by decide) d_Ex_addRow_78 (fun H locs hP hD hS => ?_)
            have hP : va_P D vwCl [(h0, .inr (4, [.int (iI kd), .ref h1, .ref h2, .ref h3, .int (iI en)])), (h1, .inl (cI, 8, .inl (fun k => iI (es k)))), (h2, .inl (cI, 16, .inl (fun k => iI ((va_up gf (i).toNat from_) k)))), (h3, .inl (cI, 16, .inl (fun k => iI ((va_up gt (i).toNat to_) k))))] H := hP
            have hD : va_D A [(h0, .inr (4, [.int (iI kd), .ref h1, .ref h2, .ref h3, .int (iI en)])), (h1, .inl (cI, 8, .inl (fun k => iI (es k)))), (h2, .inl (cI, 16, .inl (fun k => iI ((va_up gf (i).toNat from_) k)))), (h3, .inl (cI, 16, .inl (fun k => iI ((va_up gt (i).toNat to_) k))))] := hD
            refine lv_aload_n hx hb d_Ex_addRow_79 rfl (lv_at hl 0 rfl) ?_
            refine lv_dup hx hb d_Ex_addRow_80 rfl ?_
            refine va_get (D := D) (ci := 4) (v := .int (iI en)) (C := "LightDoses$Exhibit") (T := T_Ex) (N := 5) hx hb hts in_Ex hown hK hP 0 rfl rfl 4 (by decide) (hts _ wd_362) (fun _ h9 => h9) rfl d_Ex_addRow_81 ?_
            refine nv_iconst (n := 1) hx hb d_Ex_addRow_84 ?_
            refine nv_iadd (z := en + 1) hx hb d_Ex_addRow_85 (by first | rfl | omega) ?_
            refine va_put (D := D) (ci := 4) (v := .int (iI (en + 1))) (ty := .int) (C := "LightDoses$Exhibit") (T := T_Ex) (N := 5) hx hb hts in_Ex t_Ex tok_Ex n_Ex hown hK hP hD hS 0 rfl rfl 4 (by decide) (hts _ wd_362) (fun _ h9 => h9) rfl (by decide +kernel) rfl rfl (Nat.le_of_ble_eq_true rfl) d_Ex_addRow_86 (fun H locs hP hD hS => ?_)
            have hP : va_P D vwCl [(h0, .inr (4, [.int (iI kd), .ref h1, .ref h2, .ref h3, .int (iI (en + 1))])), (h1, .inl (cI, 8, .inl (fun k => iI (es k)))), (h2, .inl (cI, 16, .inl (fun k => iI ((va_up gf (i).toNat from_) k)))), (h3, .inl (cI, 16, .inl (fun k => iI ((va_up gt (i).toNat to_) k))))] H := hP
            have hD : va_D A [(h0, .inr (4, [.int (iI kd), .ref h1, .ref h2, .ref h3, .int (iI (en + 1))])), (h1, .inl (cI, 8, .inl (fun k => iI (es k)))), (h2, .inl (cI, 16, .inl (fun k => iI ((va_up gf (i).toNat from_) k)))), (h3, .inl (cI, 16, .inl (fun k => iI ((va_up gt (i).toNat to_) k))))] := hD
            have hP9 := hP.sub (ws' := [(h0, .inr (4, [.int (iI kd), .ref h1, .ref h2, .ref h3, .int (iI (en + 1))])), (h1, .inl (cI, 8, .inl (fun k => iI (es k)))), (h2, .inl (cI, 16, .inl (fun k => iI ((va_up gf (i).toNat from_) k)))), (h3, .inl (cI, 16, .inl (fun k => iI ((va_up gt (i).toNat to_) k))))]) [0, 1, 2, 3] rfl
            have hD9 := hD.sub (ws' := [(h0, .inr (4, [.int (iI kd), .ref h1, .ref h2, .ref h3, .int (iI (en + 1))])), (h1, .inl (cI, 8, .inl (fun k => iI (es k)))), (h2, .inl (cI, 16, .inl (fun k => iI ((va_up gf (i).toNat from_) k)))), (h3, .inl (cI, 16, .inl (fun k => iI ((va_up gt (i).toNat to_) k))))]) [0, 1, 2, 3] (by decide) rfl
            exact W.vret hx hb hr (fun t ht hW => ⟨⟨((va_up gf (i).toNat from_), (va_up gt (i).toNat to_), (en + 1)), rfl, v, by rw [ht]; exact hP9, va_K.moved hW.alike hK, hD9⟩, hS.F ht⟩) hS.2.2 d_Ex_addRow_89
          · replace v := v.2 c14
            refine lv_aload_n hx hb d_Ex_addRow_31 rfl (lv_at hl 0 rfl) ?_
            refine va_get (D := D) (ci := 4) (v := .ref h2) (C := "LightDoses$Exhibit") (T := T_Ex) (N := 5) hx hb hts in_Ex hown hK hP 0 rfl rfl 2 (by decide) (hts _ wd_358) (fun _ h9 => h9) rfl d_Ex_addRow_32 ?_
            refine lv_iload_n hx hb d_Ex_addRow_35 rfl (lv_at hl 3 rfl) ?_
            refine lv_aload_n hx hb d_Ex_addRow_36 rfl (lv_at hl 0 rfl) ?_
            refine va_get (D := D) (ci := 4) (v := .ref h2) (C := "LightDoses$Exhibit") (T := T_Ex) (N := 5) hx hb hts in_Ex hown hK hP 0 rfl rfl 2 (by decide) (hts _ wd_358) (fun _ h9 => h9) rfl d_Ex_addRow_37 ?_
            refine lv_iload_n hx hb d_Ex_addRow_40 rfl (lv_at hl 3 rfl) ?_
            refine nv_iconst (n := 1) hx hb d_Ex_addRow_41 ?_
            refine nv_isub (z := i - 1) hx hb d_Ex_addRow_42 (by first | rfl | omega) ?_
            obtain ⟨k17, v⟩ := v
            refine nv_iald (f := gf) hx hb hK 0 (hP 2 _ rfl) rfl (i - 1).toNat (Int.toNat_of_nonneg k17.1).symm (by omega) (by decide) d_Ex_addRow_43 ?_
            obtain ⟨k18, v⟩ := v
            refine nv_iast (f := gf) hx hb hK hP hD hS 2 0 rfl rfl (i).toNat (Int.toNat_of_nonneg k18.1).symm (by omega) (by decide) d_Ex_addRow_44 (fun H locs hP hD hS => ?_)
            have hP : va_P D vwCl [(h0, .inr (4, [.int (iI kd), .ref h1, .ref h2, .ref h3, .int (iI en)])), (h1, .inl (cI, 8, .inl (fun k => iI (es k)))), (h2, .inl (cI, 16, .inl (fun k => iI ((va_up gf (i).toNat (gf (i - 1).toNat)) k)))), (h3, .inl (cI, 16, .inl (fun k => iI (gt k))))] H := hP
            have hD : va_D A [(h0, .inr (4, [.int (iI kd), .ref h1, .ref h2, .ref h3, .int (iI en)])), (h1, .inl (cI, 8, .inl (fun k => iI (es k)))), (h2, .inl (cI, 16, .inl (fun k => iI ((va_up gf (i).toNat (gf (i - 1).toNat)) k)))), (h3, .inl (cI, 16, .inl (fun k => iI (gt k))))] := hD
            refine lv_aload_n hx hb d_Ex_addRow_45 rfl (lv_at hl 0 rfl) ?_
            refine va_get (D := D) (ci := 4) (v := .ref h3) (C := "LightDoses$Exhibit") (T := T_Ex) (N := 5) hx hb hts in_Ex hown hK hP 0 rfl rfl 3 (by decide) (hts _ wd_360) (fun _ h9 => h9) rfl d_Ex_addRow_46 ?_
            refine lv_iload_n hx hb d_Ex_addRow_49 rfl (lv_at hl 3 rfl) ?_
            refine lv_aload_n hx hb d_Ex_addRow_50 rfl (lv_at hl 0 rfl) ?_
            refine va_get (D := D) (ci := 4) (v := .ref h3) (C := "LightDoses$Exhibit") (T := T_Ex) (N := 5) hx hb hts in_Ex hown hK hP 0 rfl rfl 3 (by decide) (hts _ wd_360) (fun _ h9 => h9) rfl d_Ex_addRow_51 ?_
            refine lv_iload_n hx hb d_Ex_addRow_54 rfl (lv_at hl 3 rfl) ?_
            refine nv_iconst (n := 1) hx hb d_Ex_addRow_55 ?_
            refine nv_isub (z := i - 1) hx hb d_Ex_addRow_56 (by first | rfl | omega) ?_
            obtain ⟨k19, v⟩ := v
            refine nv_iald (f := gt) hx hb hK 0 (hP 3 _ rfl) rfl (i - 1).toNat (Int.toNat_of_nonneg k19.1).symm (by omega) (by decide) d_Ex_addRow_57 ?_
            obtain ⟨k20, v⟩ := v
            refine nv_iast (f := gt) hx hb hK hP hD hS 3 0 rfl rfl (i).toNat (Int.toNat_of_nonneg k20.1).symm (by omega) (by decide) d_Ex_addRow_58 (fun H locs hP hD hS => ?_)
            have hP : va_P D vwCl [(h0, .inr (4, [.int (iI kd), .ref h1, .ref h2, .ref h3, .int (iI en)])), (h1, .inl (cI, 8, .inl (fun k => iI (es k)))), (h2, .inl (cI, 16, .inl (fun k => iI ((va_up gf (i).toNat (gf (i - 1).toNat)) k)))), (h3, .inl (cI, 16, .inl (fun k => iI ((va_up gt (i).toNat (gt (i - 1).toNat)) k))))] H := hP
            have hD : va_D A [(h0, .inr (4, [.int (iI kd), .ref h1, .ref h2, .ref h3, .int (iI en)])), (h1, .inl (cI, 8, .inl (fun k => iI (es k)))), (h2, .inl (cI, 16, .inl (fun k => iI ((va_up gf (i).toNat (gf (i - 1).toNat)) k)))), (h3, .inl (cI, 16, .inl (fun k => iI ((va_up gt (i).toNat (gt (i - 1).toNat)) k))))] := hD
            refine nv_iinc (k := 3) (z := i - 1) (lv' := [(3, .int (iI (i - 1))), (0, .ref h0), (1, .int (iI from_)), (2, .int (iI to_))]) hx hb d_Ex_addRow_59 hl rfl (by omega) (by decide) rfl (fun ls hl => ?_)
            refine lv_goto (tgt := 15) hx hb d_Ex_addRow_62 (by decide) ?_
            exact ih5 (i - 1) (va_up gf (i).toNat (gf (i - 1).toNat)) (va_up gt (i).toNat (gt (i - 1).toNat)) H locs ls (Nat.lt_of_lt_of_le v.2 (Nat.le_of_lt_succ hN6)) v.1 hP hD hS (lv_sub hl [1, 2, 3, 0] rfl)
    exact L23 _ en ef et H locs ls (Nat.lt_succ_self _) v21 hP hD hS (lv_sub hl [1, 2, 3, 0] rfl)
  · replace v := v.2 c2
    have hP9 := hP.sub (ws' := [(h0, .inr (4, [.int (iI kd), .ref h1, .ref h2, .ref h3, .int (iI en)])), (h1, .inl (cI, 8, .inl (fun k => iI (es k)))), (h2, .inl (cI, 16, .inl (fun k => iI (ef k)))), (h3, .inl (cI, 16, .inl (fun k => iI (et k))))]) [0, 1, 2, 3] rfl
    have hD9 := hD.sub (ws' := [(h0, .inr (4, [.int (iI kd), .ref h1, .ref h2, .ref h3, .int (iI en)])), (h1, .inl (cI, 8, .inl (fun k => iI (es k)))), (h2, .inl (cI, 16, .inl (fun k => iI (ef k)))), (h3, .inl (cI, 16, .inl (fun k => iI (et k))))]) [0, 1, 2, 3] (by decide) rfl
    exact W.vret hx hb hr (fun t ht hW => ⟨⟨((ef), (et), (en)), rfl, v, by rw [ht]; exact hP9, va_K.moved hW.alike hK, hD9⟩, hS.F ht⟩) hS.2.2 d_Ex_addRow_9

theorem d_Ex_init_0 : decode prog_6_method_1_code 0 = .ok (.aload_n 0, 1) := by decide +kernel
theorem d_Ex_init_1 : decode prog_6_method_1_code 1 = .ok (.invokespecial 3, 3) := by decide +kernel
theorem d_Ex_init_4 : decode prog_6_method_1_code 4 = .ok (.aload_n 0, 1) := by decide +kernel
theorem d_Ex_init_5 : decode prog_6_method_1_code 5 = .ok (.iload_n 1, 1) := by decide +kernel
theorem d_Ex_init_6 : decode prog_6_method_1_code 6 = .ok (.putfield 9, 3) := by decide +kernel
theorem d_Ex_init_9 : decode prog_6_method_1_code 9 = .ok (.aload_n 0, 1) := by decide +kernel
theorem d_Ex_init_10 : decode prog_6_method_1_code 10 = .ok (.bipush 8, 2) := by decide +kernel
theorem d_Ex_init_12 : decode prog_6_method_1_code 12 = .ok (.newarray .int, 2) := by decide +kernel
theorem d_Ex_init_14 : decode prog_6_method_1_code 14 = .ok (.putfield 15, 3) := by decide +kernel
theorem d_Ex_init_17 : decode prog_6_method_1_code 17 = .ok (.aload_n 0, 1) := by decide +kernel
theorem d_Ex_init_18 : decode prog_6_method_1_code 18 = .ok (.bipush 16, 2) := by decide +kernel
theorem d_Ex_init_20 : decode prog_6_method_1_code 20 = .ok (.newarray .int, 2) := by decide +kernel
theorem d_Ex_init_22 : decode prog_6_method_1_code 22 = .ok (.putfield 19, 3) := by decide +kernel
theorem d_Ex_init_25 : decode prog_6_method_1_code 25 = .ok (.aload_n 0, 1) := by decide +kernel
theorem d_Ex_init_26 : decode prog_6_method_1_code 26 = .ok (.bipush 16, 2) := by decide +kernel
theorem d_Ex_init_28 : decode prog_6_method_1_code 28 = .ok (.newarray .int, 2) := by decide +kernel
theorem d_Ex_init_30 : decode prog_6_method_1_code 30 = .ok (.putfield 22, 3) := by decide +kernel
theorem d_Ex_init_33 : decode prog_6_method_1_code 33 = .ok (.aload_n 0, 1) := by decide +kernel
theorem d_Ex_init_34 : decode prog_6_method_1_code 34 = .ok (.iconst 0, 1) := by decide +kernel
theorem d_Ex_init_35 : decode prog_6_method_1_code 35 = .ok (.putfield 25, 3) := by decide +kernel
theorem d_Ex_init_38 : decode prog_6_method_1_code 38 = .ok (.return_, 1) := by decide +kernel
def vc_Ex_init (kd0 : Int) (post : Int → (Nat → Int) → (Nat → Int) → (Nat → Int) → Int → Prop) : Prop := post kd0 (fun _ => 0) (fun _ => 0) (fun _ => 0) 0
set_option maxHeartbeats 4000000 in
set_option maxRecDepth 100000 in
theorem m_Ex_init (l : Launch) (D : va_G) (cI cJ cO cZ : ClassId) (h0 : Nat) (sz : Nat) (kd0 : Int) (post : Int → (Nat → Int) → (Nat → Int) → (Nat → Int) → Int → Prop) (v : vc_Ex_init kd0 post) : Met l ⟨"LightDoses$Exhibit", "<init>", "(I)V"⟩ (.code ⟨"LightDoses$Exhibit", "<init>", "(I)V"⟩ prog_6_method_1_code 2 none :: TG) { frames := 1, cells := 3, slots := 40, locals := 24 } (va_Pc [.ref h0, .int (iI kd0)] (fun U => U.heap.size = sz ∧ va_P D vwCl [(h0, .inr (4, [.int (iI 0), .null, .null, .null, .int (iI 0)]))] U.heap ∧ va_K D vwCl (tyx cI cJ cO cZ) U ∧ va_D (fun _ => True) [(h0, .inr (4, [.int (iI 0), .null, .null, .null, .int (iI 0)]))])) (va_Qv (fun u : Int × (Nat → Int) × (Nat → Int) × (Nat → Int) × Int => post u.1 u.2.1 u.2.2.1 u.2.2.2.1 u.2.2.2.2) (fun u t => ∃ (h1 h2 h3 : Nat), va_P D vwCl [(h0, .inr (4, [.int (iI u.1), .ref h1, .ref h2, .ref h3, .int (iI u.2.2.2.2)])), (h1, .inl (cI, 8, .inl (fun k => iI (u.2.1 k)))), (h2, .inl (cI, 16, .inl (fun k => iI (u.2.2.1 k)))), (h3, .inl (cI, 16, .inl (fun k => iI (u.2.2.2.1 k))))] t.heap ∧ va_K D vwCl (tyx cI cJ cO cZ) t ∧ va_D (va_A [(h0, .inr (4, [.int (iI 0), .null, .null, .null, .int (iI 0)]))] sz) [(h0, .inr (4, [.int (iI u.1), .ref h1, .ref h2, .ref h3, .int (iI u.2.2.2.2)])), (h1, .inl (cI, 8, .inl (fun k => iI (u.2.1 k)))), (h2, .inl (cI, 16, .inl (fun k => iI (u.2.2.1 k)))), (h3, .inl (cI, 16, .inl (fun k => iI (u.2.2.2.1 k))))]) (va_A [(h0, .inr (4, [.int (iI 0), .null, .null, .null, .int (iI 0)]))] sz)) 3 40 (va_A [(h0, .inr (4, [.int (iI 0), .null, .null, .null, .int (iI 0)]))] sz) := by
  refine Met.ofW (cc := prog_6_method_1_code) (maxL := 2) (ret := none) (by decide) rfl ?_
  intro p e s m args below meth c s₁ B hml hv
  obtain ⟨rfl, hsz, hP, hK, hD0⟩ := hv
  have hx := B.exec
  have hb := B.bytes
  have hr := B.returns
  have hts0 := atoms_spec (ws := (.code ⟨"LightDoses$Exhibit", "<init>", "(I)V"⟩ prog_6_method_1_code 2 none :: TG)) B.pre
  have hts : ∀ w ∈ TG, w.before _ s = true := fun w h => hts0 w (List.mem_cons_of_mem _ h)
  have hown : s.vm.findClass "LightDoses$Exhibit" = some m.cls := findClass_of_methodNamed B.named
  have hlocks := B.notSynchronized
  have hin : meth.name = "<init>" := (name_of_methodNamed B.named B.method).1
  subst hsz
  have hD := hD0.self (sz := s.heap.size)
  generalize hAe : va_A [(h0, .inr (4, [.int (iI 0), .null, .null, .null, .int (iI 0)]))] s.heap.size = A at hD ⊢
  have hA : ∀ q : Nat, s.heap.size ≤ q → A q := fun q h => by rw [← hAe]; exact Or.inr h
  have hS : va_S A s.heap s.heap [] := va_S.rf
  have hP : va_P D vwCl [(h0, .inr (4, [.int (iI 0), .null, .null, .null, .int (iI 0)]))] s.heap := hP
  have hl := lv_entry ([Value.ref h0, Value.int (iI kd0)]) (n := 2) (Nat.le_of_ble_eq_true rfl)
  rw [lg_entry_eq]
  generalize (lg_sl ([Value.ref h0, Value.int (iI kd0)]) ++ List.replicate (2 - (lg_sl ([Value.ref h0, Value.int (iI kd0)])).length) Slot.unset).toArray = ls at hl ⊢
  have hl : lv_has ls 2 [(0, .ref h0), (1, .int (iI kd0))] := hl
  unfold vc_Ex_init at v
  obtain ⟨H, hH⟩ : ∃ H, H = s.heap := ⟨_, rfl⟩
  obtain ⟨locs, hlc⟩ : ∃ L : List Loc, L = [] := ⟨_, rfl⟩
  rw [← hlc] at hS ⊢
  have hP : va_P D vwCl [(h0, .inr (4, [.int (iI 0), .null, .null, .null, .int (iI 0)]))] H := by rw [hH]; exact hP
  have hS : va_S A s.heap H locs := by rw [hH]; exact hS
  have hW0 : ∀ {X : Heap → Prop}, X H → X s.heap := fun h => by rw [← hH]; exact h
  refine hW0 (X := fun Z => W p l e _ s m _ below meth c Z locs 0 0 _ _) ?_
  refine lv_aload_n hx hb d_Ex_init_0 rfl (lv_at hl 0 rfl) ?_
  refine W.objInit hx hb hown (hts _ wd_353) (hts _ wd_31) (hts _ wd_32) rfl (by rw [hml]; exact hl.1) rfl d_Ex_init_1 (Nat.le_of_ble_eq_true rfl) (Nat.le_of_ble_eq_true rfl) ?_
  refine W.eq (g2 := F0 m 4 ls []) rfl ?_
  refine lv_aload_n hx hb d_Ex_init_4 rfl (lv_at hl 0 rfl) ?_
  refine lv_iload_n hx hb d_Ex_init_5 rfl (lv_at hl 1 rfl) ?_
  refine va_putF (D := D) (ci := 4) (v := .int (iI kd0)) (ty := .int) (C := "LightDoses$Exhibit") (T := T_Ex) (N := 5) hx hb hts in_Ex t_Ex tok_Ex n_Ex hown hK hP hD hS 0 rfl rfl 0 (by decide) (hts _ wd_354) (fun _ h9 => h9) rfl hin rfl (by decide +kernel) rfl rfl (Nat.le_of_ble_eq_true rfl) d_Ex_init_6 (fun H locs hP hD hS => ?_)
  have hP : va_P D vwCl [(h0, .inr (4, [.int (iI kd0), .null, .null, .null, .int (iI 0)]))] H := hP
  have hD : va_D A [(h0, .inr (4, [.int (iI kd0), .null, .null, .null, .int (iI 0)]))] := hD
  refine lv_aload_n hx hb d_Ex_init_9 rfl (lv_at hl 0 rfl) ?_
  refine nv_bipush (z := 8) hx hb d_Ex_init_10 (by decide) ?_
  refine nv_newi hx hb (hts _ wd_76) hK hP hD hS hA 0 rfl 8 rfl (by decide) (Nat.le_of_ble_eq_true rfl) (Nat.le_of_ble_eq_true rfl) d_Ex_init_12 (fun q1 H hP hD hS => ?_)
  have hP : va_P D vwCl [(h0, .inr (4, [.int (iI kd0), .null, .null, .null, .int (iI 0)])), (q1, .inl (cI, 8, .inl (fun k => iI ((fun _ => 0) k))))] H := hP
  have hD : va_D A [(h0, .inr (4, [.int (iI kd0), .null, .null, .null, .int (iI 0)])), (q1, .inl (cI, 8, .inl (fun k => iI ((fun _ => 0) k))))] := hD
  refine W.widen (k := 1) (n := 8) (Nat.le_of_ble_eq_true rfl) (Nat.le_of_ble_eq_true rfl) ?_
  refine va_putF (D := D) (ci := 4) (v := .ref q1) (ty := .array .int) (C := "LightDoses$Exhibit") (T := T_Ex) (N := 5) hx hb hts in_Ex t_Ex tok_Ex n_Ex hown hK hP hD hS 0 rfl rfl 1 (by decide) (hts _ wd_356) (fun _ h9 => h9) rfl hin rfl (by decide +kernel) rfl rfl (Nat.le_of_ble_eq_true rfl) d_Ex_init_14 (fun H locs hP hD hS => ?_)
  have hP : va_P D vwCl [(h0, .inr (4, [.int (iI kd0), .ref q1, .null, .null, .int (iI 0)])), (q1, .inl (cI, 8, .inl (fun k => iI ((fun _ => 0) k))))] H := hP
  have hD : va_D A [(h0, .inr (4, [.int (iI kd0), .ref q1, .null, .null, .int (iI 0)])), (q1, .inl (cI, 8, .inl (fun k => iI ((fun _ => 0) k))))] := hD
  refine lv_aload_n hx hb d_Ex_init_17 rfl (lv_at hl 0 rfl) ?_
  refine nv_bipush (z := 16) hx hb d_Ex_init_18 (by decide) ?_
  refine nv_newi hx hb (hts _ wd_76) hK hP hD hS hA 0 rfl 16 rfl (by decide) (Nat.le_of_ble_eq_true rfl) (Nat.le_of_ble_eq_true rfl) d_Ex_init_20 (fun q2 H hP hD hS => ?_)
  have hP : va_P D vwCl [(h0, .inr (4, [.int (iI kd0), .ref q1, .null, .null, .int (iI 0)])), (q1, .inl (cI, 8, .inl (fun k => iI ((fun _ => 0) k)))), (q2, .inl (cI, 16, .inl (fun k => iI ((fun _ => 0) k))))] H := hP
  have hD : va_D A [(h0, .inr (4, [.int (iI kd0), .ref q1, .null, .null, .int (iI 0)])), (q1, .inl (cI, 8, .inl (fun k => iI ((fun _ => 0) k)))), (q2, .inl (cI, 16, .inl (fun k => iI ((fun _ => 0) k))))] := hD
  refine W.widen (k := 2) (n := 24) (Nat.le_of_ble_eq_true rfl) (Nat.le_of_ble_eq_true rfl) ?_
  refine va_putF (D := D) (ci := 4) (v := .ref q2) (ty := .array .int) (C := "LightDoses$Exhibit") (T := T_Ex) (N := 5) hx hb hts in_Ex t_Ex tok_Ex n_Ex hown hK hP hD hS 0 rfl rfl 2 (by decide) (hts _ wd_358) (fun _ h9 => h9) rfl hin rfl (by decide +kernel) rfl rfl (Nat.le_of_ble_eq_true rfl) d_Ex_init_22 (fun H locs hP hD hS => ?_)
  have hP : va_P D vwCl [(h0, .inr (4, [.int (iI kd0), .ref q1, .ref q2, .null, .int (iI 0)])), (q1, .inl (cI, 8, .inl (fun k => iI ((fun _ => 0) k)))), (q2, .inl (cI, 16, .inl (fun k => iI ((fun _ => 0) k))))] H := hP
  have hD : va_D A [(h0, .inr (4, [.int (iI kd0), .ref q1, .ref q2, .null, .int (iI 0)])), (q1, .inl (cI, 8, .inl (fun k => iI ((fun _ => 0) k)))), (q2, .inl (cI, 16, .inl (fun k => iI ((fun _ => 0) k))))] := hD
  refine lv_aload_n hx hb d_Ex_init_25 rfl (lv_at hl 0 rfl) ?_
  refine nv_bipush (z := 16) hx hb d_Ex_init_26 (by decide) ?_
  refine nv_newi hx hb (hts _ wd_76) hK hP hD hS hA 0 rfl 16 rfl (by decide) (Nat.le_of_ble_eq_true rfl) (Nat.le_of_ble_eq_true rfl) d_Ex_init_28 (fun q3 H hP hD hS => ?_)
  have hP : va_P D vwCl [(h0, .inr (4, [.int (iI kd0), .ref q1, .ref q2, .null, .int (iI 0)])), (q1, .inl (cI, 8, .inl (fun k => iI ((fun _ => 0) k)))), (q2, .inl (cI, 16, .inl (fun k => iI ((fun _ => 0) k)))), (q3, .inl (cI, 16, .inl (fun k => iI ((fun _ => 0) k))))] H := hP
  have hD : va_D A [(h0, .inr (4, [.int (iI kd0), .ref q1, .ref q2, .null, .int (iI 0)])), (q1, .inl (cI, 8, .inl (fun k => iI ((fun _ => 0) k)))), (q2, .inl (cI, 16, .inl (fun k => iI ((fun _ => 0) k)))), (q3, .inl (cI, 16, .inl (fun k => iI ((fun _ => 0) k))))] := hD
  refine W.widen (k := 3) (n := 40) (Nat.le_of_ble_eq_true rfl) (Nat.le_of_ble_eq_true rfl) ?_
  refine va_putF (D := D) (ci := 4) (v := .ref q3) (ty := .array .int) (C := "LightDoses$Exhibit") (T := T_Ex) (N := 5) hx hb hts in_Ex t_Ex tok_Ex n_Ex hown hK hP hD hS 0 rfl rfl 3 (by decide) (hts _ wd_360) (fun _ h9 => h9) rfl hin rfl (by decide +kernel) rfl rfl (Nat.le_of_ble_eq_true rfl) d_Ex_init_30 (fun H locs hP hD hS => ?_)
  have hP : va_P D vwCl [(h0, .inr (4, [.int (iI kd0), .ref q1, .ref q2, .ref q3, .int (iI 0)])), (q1, .inl (cI, 8, .inl (fun k => iI ((fun _ => 0) k)))), (q2, .inl (cI, 16, .inl (fun k => iI ((fun _ => 0) k)))), (q3, .inl (cI, 16, .inl (fun k => iI ((fun _ => 0) k))))] H := hP
  have hD : va_D A [(h0, .inr (4, [.int (iI kd0), .ref q1, .ref q2, .ref q3, .int (iI 0)])), (q1, .inl (cI, 8, .inl (fun k => iI ((fun _ => 0) k)))), (q2, .inl (cI, 16, .inl (fun k => iI ((fun _ => 0) k)))), (q3, .inl (cI, 16, .inl (fun k => iI ((fun _ => 0) k))))] := hD
  refine lv_aload_n hx hb d_Ex_init_33 rfl (lv_at hl 0 rfl) ?_
  refine nv_iconst (n := 0) hx hb d_Ex_init_34 ?_
  refine va_put (D := D) (ci := 4) (v := .int (iI 0)) (ty := .int) (C := "LightDoses$Exhibit") (T := T_Ex) (N := 5) hx hb hts in_Ex t_Ex tok_Ex n_Ex hown hK hP hD hS 0 rfl rfl 4 (by decide) (hts _ wd_362) (fun _ h9 => h9) rfl (by decide +kernel) rfl rfl (Nat.le_of_ble_eq_true rfl) d_Ex_init_35 (fun H locs hP hD hS => ?_)
  have hP : va_P D vwCl [(h0, .inr (4, [.int (iI kd0), .ref q1, .ref q2, .ref q3, .int (iI 0)])), (q1, .inl (cI, 8, .inl (fun k => iI ((fun _ => 0) k)))), (q2, .inl (cI, 16, .inl (fun k => iI ((fun _ => 0) k)))), (q3, .inl (cI, 16, .inl (fun k => iI ((fun _ => 0) k))))] H := hP
  have hD : va_D A [(h0, .inr (4, [.int (iI kd0), .ref q1, .ref q2, .ref q3, .int (iI 0)])), (q1, .inl (cI, 8, .inl (fun k => iI ((fun _ => 0) k)))), (q2, .inl (cI, 16, .inl (fun k => iI ((fun _ => 0) k)))), (q3, .inl (cI, 16, .inl (fun k => iI ((fun _ => 0) k))))] := hD
  have hP9 := hP.sub (ws' := [(h0, .inr (4, [.int (iI kd0), .ref q1, .ref q2, .ref q3, .int (iI 0)])), (q1, .inl (cI, 8, .inl (fun k => iI ((fun _ => 0) k)))), (q2, .inl (cI, 16, .inl (fun k => iI ((fun _ => 0) k)))), (q3, .inl (cI, 16, .inl (fun k => iI ((fun _ => 0) k))))]) [0, 1, 2, 3] rfl
  have hD9 := hD.sub (ws' := [(h0, .inr (4, [.int (iI kd0), .ref q1, .ref q2, .ref q3, .int (iI 0)])), (q1, .inl (cI, 8, .inl (fun k => iI ((fun _ => 0) k)))), (q2, .inl (cI, 16, .inl (fun k => iI ((fun _ => 0) k)))), (q3, .inl (cI, 16, .inl (fun k => iI ((fun _ => 0) k))))]) [0, 1, 2, 3] (by decide) rfl
  exact W.vret hx hb hr (fun t ht hW => ⟨⟨((kd0), ((fun _ => 0)), ((fun _ => 0)), ((fun _ => 0)), (0)), rfl, v, q1, q2, q3, by rw [ht]; exact hP9, va_K.moved hW.alike hK, hD9⟩, hS.F ht⟩) hS.2.2 d_Ex_init_38
