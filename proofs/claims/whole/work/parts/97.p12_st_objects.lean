/-! STEPS: objects. -/
section STEPS
variable {qd : Nat} {AA : LdA} {CC : LdC} {MM : MdC} {f : Nat → Int} {x1 x2 x3 : Int}
theorem st_shines (h : Rl CC MM) (r1 : r32 x1) (r2 : r32 x2) (r3 : r32 x3) : vl_shines AA CC MM f x1 x2 x3 Rl := by
  unfold vl_shines
  refine ⟨_, ?_, fun k f1 C1 hh => hh⟩
  unfold vw_shines
  obtain ⟨h1, h2, h3, h4, h5, h6, h7, h8, h9, h10, h11, h12, h13⟩ := id h
  by_cases c1 : 0 ≤ x1 ∧ x1 < (CC.nl : Int)
  · by_cases c2 : 0 ≤ x2 ∧ x2 < (CC.no : Int)
    · obtain ⟨o, rfl⟩ : ∃ o : Nat, x2 = o := ⟨x2.toNat, by omega⟩
      obtain ⟨l, rfl⟩ : ∃ l : Nat, x1 = l := ⟨x1.toNat, by omega⟩
      by_cases c3 : 0 ≤ x3 ∧ x3 ≤ 1000
      · obtain ⟨o1, o2, o3, o4, o5, o6, o7⟩ := h8.1 o (by omega)
        have b1 := o7 l (by omega)
        refine Or.inl ⟨o, rfl, by omega, _, ?_, fun z y0 y1 hh => hh⟩
        unfold vc_LD_shines
        rw [Int.toNat_natCast]
        refine ⟨r1, ⟨by omega, by omega⟩, c1, s_exOf (by omega) h1.1, r3, c3, ⟨by omega, by omega⟩, ⟨by omega, by omega⟩, ⟨by omega, by omega⟩, by decide, ?_⟩
        refine ⟨_, ?_, fun z u0 u1 u2 hh => hh⟩
        unfold vc_Md_shines
        rw [show ((12 : Int) * l + o).toNat = 12 * l + o by omega]
        refine ⟨r1, ⟨by omega, by omega⟩, fun _ => ⟨r2, ⟨by omega, by omega⟩, fun _ => ⟨r3, fun _ => ⟨⟨by omega, by omega⟩, ⟨by omega, by omega⟩, rfl, fun _ => ⟨by rw [up_self, b1.2], ⟨by omega, by omega⟩⟩, ?_⟩, fun u => absurd c3 u⟩, fun u => by omega⟩, fun u => by omega⟩
        refine ⟨h1, h2, ⟨Or.inl rfl, Or.inl rfl⟩, h4, h5, h6, h7, ⟨fun p hp => ?_, fun p p1 p2 => ⟨(h8.2 p p1 p2).1, fun j hj => ?_⟩⟩, h9, h10, h11, fr0 rfl, fr0 rfl⟩
        · show ObR (va_up CC.EC o (((CC.EC o).kd, va_up (CC.EC o).es l x3, (CC.EC o).ef, (CC.EC o).et, (CC.EC o).en) : ExC) p) p MM.ca (va_up MM.sa (12 * l + o) x3) MM.ra MM.fa MM.ta
          by_cases e : p = o
          · subst e
            rw [show va_up CC.EC p (((CC.EC p).kd, va_up (CC.EC p).es l x3, (CC.EC p).ef, (CC.EC p).et, (CC.EC p).en) : ExC) p = (((CC.EC p).kd, va_up (CC.EC p).es l x3, (CC.EC p).ef, (CC.EC p).et, (CC.EC p).en) : ExC) from if_pos rfl]
            refine ⟨o1, o2, o3, o4, o5, o6, fun j hj => ?_⟩
            show (0 ≤ va_up (CC.EC p).es l x3 j ∧ va_up (CC.EC p).es l x3 j ≤ 1000) ∧ va_up MM.sa (12 * l + p) x3 (12 * j + p) = va_up (CC.EC p).es l x3 j
            by_cases e2 : j = l
            · subst e2; rw [up_self, up_self]; exact ⟨c3, rfl⟩
            · rw [up_ne e2, up_ne (by omega)]; exact o7 j hj
          · rw [show va_up CC.EC o (((CC.EC o).kd, va_up (CC.EC o).es l x3, (CC.EC o).ef, (CC.EC o).et, (CC.EC o).en) : ExC) p = CC.EC p from if_neg e]
            obtain ⟨p1, p2, p3, p4, p5, p6, p7⟩ := h8.1 p hp
            refine ⟨p1, p2, p3, p4, p5, p6, fun j hj => ?_⟩
            have hp2 : p < CC.no := hp
            rw [up_ne (by omega)]; exact p7 j hj
        · show va_up MM.sa (12 * l + o) x3 (12 * j + p) = 0
          have p1' : CC.no ≤ p := p1
          rw [up_ne (by omega)]; exact (h8.2 p p1 p2).2 j hj
      · refine Or.inr (Or.inr ⟨o, rfl, by omega, ⟨r1, ⟨by omega, by omega⟩, fun _ => ⟨s_exOf (by omega) h1.1, r3, fun u => absurd u c3, fun _ => rfl⟩, fun u => absurd c1 u⟩, by decide, ?_⟩)
        refine ⟨_, ?_, fun z u0 u1 u2 hh => hh⟩
        exact ⟨r1, ⟨by omega, by omega⟩, fun _ => ⟨r2, ⟨by omega, by omega⟩, fun _ => ⟨r3, fun u => absurd u c3, fun _ => ⟨rfl, fun u => absurd u (by decide), h⟩⟩, fun u => by omega⟩, fun u => by omega⟩
    · refine Or.inr (Or.inl ⟨⟨r1, ⟨by omega, by omega⟩, fun _ => ⟨r2, ⟨by omega, by omega⟩, fun u => absurd u c2, fun _ => rfl⟩, fun u => absurd c1 u⟩, by decide, ?_⟩)
      refine ⟨_, ?_, fun z u0 u1 u2 hh => hh⟩
      exact ⟨r1, ⟨by omega, by omega⟩, fun _ => ⟨r2, ⟨by omega, by omega⟩, fun u => by omega, fun _ => ⟨r3, fun _ => ⟨rfl, fun u => absurd u (by decide), h⟩, fun _ => ⟨rfl, fun u => absurd u (by decide), h⟩⟩⟩, fun u => by omega⟩
  · refine Or.inr (Or.inl ⟨⟨r1, ⟨by omega, by omega⟩, fun u => absurd u c1, fun _ => rfl⟩, by decide, ?_⟩)
    refine ⟨_, ?_, fun z u0 u1 u2 hh => hh⟩
    exact ⟨r1, ⟨by omega, by omega⟩, fun u => by omega, fun _ => ⟨r3, fun _ => ⟨rfl, fun u => absurd u (by decide), h⟩, fun _ => ⟨rfl, fun u => absurd u (by decide), h⟩⟩⟩
theorem rows_next {f g f' g' F T : Nat → Int} {N : Nat} {a b n' : Int} (h : ∀ u v, chMap f g N u v ↔ chMap F T N u v) (hi : insPost f g N a b f' g' n') : ∀ u v, chMap f' g' (N + 1) u v ↔ chMap (va_up F N a) (va_up T N b) (N + 1) u v := by
  obtain ⟨_, k, hk, i1, i2, _, _⟩ := hi
  intro u v
  rw [insAt_ex i1 i2 hk, h u v]
  constructor
  · rintro (⟨rfl, rfl⟩ | ⟨i, j1, rfl, rfl⟩)
    · exact ⟨N, by omega, up_self, up_self⟩
    · exact ⟨i, by omega, up_ne (by omega), up_ne (by omega)⟩
  · rintro ⟨i, j1, rfl, rfl⟩
    by_cases e : i = N
    · subst e; exact Or.inl ⟨up_self, up_self⟩
    · exact Or.inr ⟨i, by omega, (up_ne e).symm, (up_ne e).symm⟩
theorem st_shown (h : Rl CC MM) (r1 : r32 x1) (r2 : r32 x2) (r3 : r32 x3) : vl_shown AA CC MM f x1 x2 x3 Rl := by
  unfold vl_shown
  refine ⟨_, ?_, fun k f1 C1 hh => hh⟩
  unfold vw_shown
  obtain ⟨h1, h2, h3, h4, h5, h6, h7, h8, h9, h10, h11, h12, h13⟩ := id h
  by_cases c1 : 0 ≤ x1 ∧ x1 < (CC.no : Int)
  · obtain ⟨o, rfl⟩ : ∃ o : Nat, x1 = o := ⟨x1.toNat, by omega⟩
    obtain ⟨o1, o2, o3, o4, o5, o6, o7⟩ := h8.1 o (by omega)
    have o8 := o5.1
    by_cases c2 : 0 ≤ x2 ∧ x2 < 26280
    · by_cases c3 : (CC.EC o).en < 16
      · by_cases c4 : x2 < x3 ∧ x3 ≤ 26280
        · refine Or.inl ⟨o, rfl, by omega, _, ?_, fun z y0 y1 y2 y3 hh => hh⟩
          unfold vc_LD_shown
          have add := s_Ex_addRow (kd := (CC.EC o).kd) (es := (CC.EC o).es) (et := (CC.EC o).et) (x := x2) (y := x3) (by omega) o5.2.1 (fun i hi => by have := o5.2.2 i hi; exact ⟨by omega, by omega⟩) r2
          rw [← o3] at add
          refine ⟨s_exOf (by omega) h1.1, r2, c2, ⟨by omega, by omega⟩, fun _ => ⟨r3, c4, _, add, fun y10 y11 y12 hp => ?_⟩, fun u => by omega⟩
          have hn := hp.1
          refine ⟨⟨by omega, by omega⟩, by decide, ?_⟩
          refine ⟨_, ?_, fun z u0 u1 u2 u3 u4 hh => hh⟩
          unfold vc_Md_shown
          rw [Int.toNat_natCast, o4]
          have e16 : ((16 : Int) * o + (CC.EC o).en).toNat = 16 * o + (CC.EC o).en.toNat := by omega
          rw [e16]
          refine ⟨r1, ⟨by omega, by omega⟩, fun _ => ⟨r2, fun _ => ⟨⟨by omega, by omega⟩, ⟨by omega, by omega⟩, fun u => by omega, fun _ => ⟨r3, fun u => by omega, fun _ => ⟨fun u => by omega, fun _ => ⟨⟨by omega, by omega⟩, ⟨by omega, by omega⟩, ⟨by omega, by omega⟩, ⟨by omega, by omega⟩, ⟨by omega, by omega⟩, ⟨by omega, by omega⟩, ⟨by omega, by omega⟩, rfl, fun _ => ⟨by rw [up_self, up_self]; omega, by rw [up_self]; exact ⟨by omega, by omega⟩⟩, ?_⟩⟩⟩⟩, fun u => absurd c2 u⟩, fun u => by omega⟩
          refine ⟨h1, h2, ⟨Or.inl rfl, Or.inl rfl⟩, h4, h5, h6, h7, ⟨fun p hp2 => ?_, fun p p1 p2 => ⟨?_, (h8.2 p p1 p2).2⟩⟩, h9, h10, h11, fr0 rfl, fr0 rfl⟩
          · show ObR (va_up CC.EC o (((CC.EC o).kd, (CC.EC o).es, y10, y11, y12) : ExC) p) p MM.ca MM.sa (va_up MM.ra o ((CC.EC o).en + 1)) (va_up MM.fa (16 * o + (CC.EC o).en.toNat) x2) (va_up MM.ta (16 * o + (CC.EC o).en.toNat) x3)
            by_cases e : p = o
            · subst e
              rw [show va_up CC.EC p (((CC.EC p).kd, (CC.EC p).es, y10, y11, y12) : ExC) p = (((CC.EC p).kd, (CC.EC p).es, y10, y11, y12) : ExC) from if_pos rfl]
              have en2 : y12.toNat = (CC.EC p).en.toNat + 1 := by omega
              have F : ∀ g : Nat → Int, ∀ a : Int, rowF (va_up g (16 * p + (CC.EC p).en.toNat) a) p = va_up (rowF g p) (CC.EC p).en.toNat a := fun g a => funext (fun k => by
                show va_up g (16 * p + (CC.EC p).en.toNat) a (16 * p + k) = va_up (rowF g p) (CC.EC p).en.toNat a k
                by_cases e2 : k = (CC.EC p).en.toNat
                · rw [e2, up_self, up_self]
                · rw [up_ne e2, up_ne (by omega)])
              have hp' := hp
              refine ⟨o1, o2, ?_, ?_, ?_, ?_, o7⟩
              · show y12 = (y12.toNat : Int)
                omega
              · show va_up MM.ra p ((CC.EC p).en + 1) p = y12
                rw [up_self]; omega
              · show rowOK y10 y11 y12.toNat
                rw [en2]
                obtain ⟨_, k, hk, i1, i2, i3, i4⟩ := hp
                refine ⟨by omega, insAt_nsrt i1 hk o5.2.1 i3 (fun j q1 q2 => by have := i4 j q1 q2; omega), ?_⟩
                exact (insAt_all (P := fun u v => 0 ≤ u ∧ u < v ∧ v ≤ 26280) i1 i2 hk).mpr ⟨by omega, o5.2.2⟩
              · show ∀ u v, chMap y10 y11 y12.toNat u v ↔ chMap (rowF (va_up MM.fa (16 * p + (CC.EC p).en.toNat) x2) p) (rowF (va_up MM.ta (16 * p + (CC.EC p).en.toNat) x3) p) y12.toNat u v
                rw [F, F, en2]
                exact rows_next o6 hp'
            · rw [show va_up CC.EC o (((CC.EC o).kd, (CC.EC o).es, y10, y11, y12) : ExC) p = CC.EC p from if_neg e]
              obtain ⟨p1, p2, p3, p4, p5, p6, p7⟩ := h8.1 p hp2
              refine ⟨p1, p2, p3, by rw [up_ne e]; exact p4, p5, fun u v => (p6 u v).trans ?_, p7⟩
              have p8 := p5.1
              have G : ∀ g : Nat → Int, ∀ a : Int, ∀ k, k < (CC.EC p).en.toNat → rowF (va_up g (16 * o + (CC.EC o).en.toNat) a) p k = rowF g p k := fun g a k hk => up_ne (by omega)
              constructor
              · rintro ⟨k, k1, k2, k3⟩; exact ⟨k, k1, by rw [G _ _ k k1]; exact k2, by rw [G _ _ k k1]; exact k3⟩
              · rintro ⟨k, k1, k2, k3⟩; exact ⟨k, k1, by rw [G _ _ k k1] at k2; exact k2, by rw [G _ _ k k1] at k3; exact k3⟩
          · show va_up MM.ra o ((CC.EC o).en + 1) p = 0
            have p1' : CC.no ≤ p := p1
            rw [up_ne (by omega)]; exact (h8.2 p p1 p2).1
        · refine Or.inr (Or.inr (Or.inr (Or.inr ⟨o, rfl, by omega, ⟨s_exOf (by omega) h1.1, r2, fun _ => ⟨⟨by omega, by omega⟩, fun _ => ⟨r3, fun u => absurd u c4, fun _ => rfl⟩, fun u => by omega⟩, fun u => absurd c2 u⟩, by decide, ?_⟩)))
          refine ⟨_, ?_, fun z u0 u1 u2 u3 u4 hh => hh⟩
          unfold vc_Md_shown
          rw [Int.toNat_natCast, o4]
          exact ⟨r1, ⟨by omega, by omega⟩, fun _ => ⟨r2, fun _ => ⟨⟨by omega, by omega⟩, ⟨by omega, by omega⟩, fun u => by omega, fun _ => ⟨r3, fun _ => ⟨rfl, fun u => absurd u (by decide), h⟩, fun _ => ⟨fun _ => ⟨rfl, fun u => absurd u (by decide), h⟩, fun u => by omega⟩⟩⟩, fun u => absurd c2 u⟩, fun u => by omega⟩
      · refine Or.inr (Or.inr (Or.inr (Or.inl ⟨o, rfl, by omega, ⟨s_exOf (by omega) h1.1, r2, fun _ => ⟨⟨by omega, by omega⟩, fun u => absurd u c3, fun _ => rfl⟩, fun u => absurd c2 u⟩, by decide, ?_⟩)))
        refine ⟨_, ?_, fun z u0 u1 u2 u3 u4 hh => hh⟩
        unfold vc_Md_shown
        rw [Int.toNat_natCast, o4]
        exact ⟨r1, ⟨by omega, by omega⟩, fun _ => ⟨r2, fun _ => ⟨⟨by omega, by omega⟩, ⟨by omega, by omega⟩, fun _ => ⟨r3, fun _ => ⟨rfl, fun u => absurd u (by decide), h⟩, fun _ => ⟨fun _ => ⟨rfl, fun u => absurd u (by decide), h⟩, fun _ => ⟨rfl, fun u => absurd u (by decide), h⟩⟩⟩, fun u => by omega⟩, fun u => absurd c2 u⟩, fun u => by omega⟩
    · refine Or.inr (Or.inr (Or.inl ⟨o, rfl, by omega, ⟨s_exOf (by omega) h1.1, r2, fun u => absurd u c2, fun _ => rfl⟩, by decide, ?_⟩))
      refine ⟨_, ?_, fun z u0 u1 u2 u3 u4 hh => hh⟩
      exact ⟨r1, ⟨by omega, by omega⟩, fun _ => ⟨r2, fun u => absurd u c2, fun _ => ⟨r3, fun _ => ⟨rfl, fun u => absurd u (by decide), h⟩, fun _ => ⟨fun _ => ⟨rfl, fun u => absurd u (by decide), h⟩, fun _ => ⟨rfl, fun u => absurd u (by decide), h⟩⟩⟩⟩, fun u => by omega⟩
  · refine Or.inr (Or.inl ⟨⟨r1, ⟨by omega, by omega⟩, fun u => absurd u c1, fun _ => rfl⟩, by decide, ?_⟩)
    refine ⟨_, ?_, fun z u0 u1 u2 u3 u4 hh => hh⟩
    exact ⟨r1, ⟨by omega, by omega⟩, fun u => by omega, fun _ => ⟨r3, r2, fun _ => ⟨rfl, fun u => absurd u (by decide), h⟩, fun _ => ⟨fun _ => ⟨rfl, fun u => absurd u (by decide), h⟩, fun _ => ⟨rfl, fun u => absurd u (by decide), h⟩⟩⟩⟩
theorem al_T {Q : Prop} : (∃ P : Prop, P ∧ (P → Q)) ↔ Q := ⟨fun ⟨P, a, b⟩ => b a, fun q => ⟨Q, q, fun a => a⟩⟩
theorem al_FE {md : Int} : vc_AL_add0FE md (fun _ => True) := by
  simp only [vc_AL_add0FE, vc_AL_add1FE, vc_AL_grow0F, vc_AL_grow1F, al_T]
theorem al_FL {md : Int} : vc_AL_add0FL md (fun _ => True) := by
  simp only [vc_AL_add0FL, vc_AL_add1FL, vc_AL_grow0F, vc_AL_grow1F, al_T]
theorem al_SE {n cap : Nat} {md : Int} {g : Nat → Option Nat} : vc_AL_add0SE n md cap g (fun _ => True) := by
  simp only [vc_AL_add0SE, vc_AL_add1SE, al_T]
theorem al_SL {n cap : Nat} {md : Int} {g : Nat → Option Nat} : vc_AL_add0SL n md cap g (fun _ => True) := by
  simp only [vc_AL_add0SL, vc_AL_add1SL, al_T]
theorem al_GE {md : Int} {g : Nat → Option Nat} {xa : Nat → Nat} : vc_AL_add0GE md g xa (fun _ => True) := by
  simp only [vc_AL_add0GE, vc_AL_add1GE, vc_AL_grow0G, vc_AL_grow1G, vc_Ars_copyOf0G, vc_Ars_copyOf1G, al_T]
theorem st_object (h : Rl CC MM) (hA : ldA qd AA CC) (r1 : r32 x1) : vl_object AA CC MM f x1 x2 x3 Rl := by
  unfold vl_object
  refine ⟨_, ?_, fun k f1 C1 hh => hh⟩
  unfold vw_object
  obtain ⟨h1, h2, h3, h4, h5, h6, h7, h8, h9, h10, h11, h12, h13⟩ := id h
  have hA3 := hA.2.2.1
  by_cases c1 : 0 ≤ x1 ∧ x1 < 6
  · by_cases c2 : CC.no < 12
    · -- the new object
      have new : ∀ z : Int, z = CC.no → r32 z ∧ (r32 0 ∧ ∃ Pm3, vc_Md_object MM.th MM.no MM.ca MM.ba MM.nl MM.xa MM.sa MM.da MM.la MM.ra MM.fa MM.ta MM.ua MM.uh MM.uo MM.ma MM.mh MM.ml MM.nf MM.fo MM.fh MM.fs MM.rs MM.ic MM.mn MM.bh MM.bo MM.ya MM.np MM.pa MM.nc MM.cp x1 Pm3 ∧ ∀ (z1 : Int) (u0 : Int) (u1 : Nat → Int) (u2 : Int) (u3 : Int), Pm3 z1 u0 u1 u2 u3 → u0 = 0 ∧ ((0 : Int) = 0 → (va_up f 0 z) 0 = z1 ∧ r32 z1) ∧ Rl ((CC.no + 1, CC.nl, 0, CC.po, CC.ba, CC.dl, CC.ds, CC.fo, CC.fh, CC.fs, CC.fn, CC.bh, CC.bo, CC.bn, CC.kh, CC.kc, CC.kp, CC.kn, va_up CC.EC CC.no ((x1, fun _ => 0, fun _ => 0, fun _ => 0, 0) : ExC), CC.LC) : LdC) ((u0, u2, u1, MM.ba, MM.nl, MM.xa, MM.sa, MM.da, MM.la, MM.ra, MM.fa, MM.ta, MM.ua, MM.uh, MM.uo, MM.ma, MM.mh, MM.ml, MM.nf, MM.fo, MM.fh, MM.fs, MM.rs, u3, MM.mn, MM.bh, MM.bo, MM.ya, MM.np, MM.pa, MM.nc, MM.cp) : MdC)) := by
        intro z hz
        refine ⟨⟨by omega, by omega⟩, by decide, ?_⟩
        refine ⟨_, ?_, fun z u0 u1 u2 u3 hh => hh⟩
        have hno := h1.2
        unfold vc_Md_object
        rw [hno, Int.toNat_natCast]
        refine ⟨r1, fun _ => ⟨⟨by omega, by omega⟩, fun u => by omega, fun _ => ⟨⟨by omega, by omega⟩, rfl, fun _ => ⟨by rw [up_self]; omega, ⟨by omega, by omega⟩⟩, ?_⟩⟩, fun u => by omega⟩
        refine ⟨⟨?_, ?_⟩, h2, ⟨Or.inl rfl, Or.inl rfl⟩, h4, h5, h6, h7, ⟨fun p hp => ?_, fun p p1 p2 => ?_⟩, h9, h10, h11, fr0 rfl, fr0 rfl⟩
        · show CC.no + 1 ≤ 12
          omega
        · show (CC.no : Int) + 1 = ((CC.no + 1 : Nat) : Int)
          omega
        · show ObR (va_up CC.EC CC.no ((x1, fun _ => 0, fun _ => 0, fun _ => 0, 0) : ExC) p) p (va_up MM.ca CC.no x1) MM.sa MM.ra MM.fa MM.ta
          have hp2 : p < CC.no + 1 := hp
          by_cases e : p = CC.no
          · rw [e, show va_up CC.EC CC.no ((x1, fun _ => 0, fun _ => 0, fun _ => 0, 0) : ExC) CC.no = ((x1, fun _ => 0, fun _ => 0, fun _ => 0, 0) : ExC) from if_pos rfl]
            have w := h8.2 CC.no (Nat.le_refl _) c2
            refine ⟨c1, up_self, rfl, w.1, ⟨Nat.zero_le _, fun i j _ q => absurd q (Nat.not_lt_zero _), fun i q => absurd q (Nat.not_lt_zero _)⟩, fun u v => Iff.rfl.trans ⟨fun ⟨i, q, _⟩ => absurd q (Nat.not_lt_zero _), fun ⟨i, q, _⟩ => absurd q (Nat.not_lt_zero _)⟩, fun j hj => ⟨⟨Int.le_refl 0, show (0 : Int) ≤ 1000 by decide⟩, w.2 j hj⟩⟩
          · rw [show va_up CC.EC CC.no ((x1, fun _ => 0, fun _ => 0, fun _ => 0, 0) : ExC) p = CC.EC p from if_neg e]
            obtain ⟨p1, p2, p3, p4, p5, p6, p7⟩ := h8.1 p (by omega)
            exact ⟨p1, by rw [up_ne e]; exact p2, p3, p4, p5, p6, p7⟩
        · have p1' : CC.no + 1 ≤ p := p1
          exact h8.2 p (by omega) p2
      rcases Nat.eq_zero_or_pos CC.no with z0 | z0
      · refine Or.inl ⟨z0, c2, _, ?_, fun z y0 y1 y2 y3 y4 hh => hh⟩
        refine ⟨r1, c1, _, ?_, fun _ _ _ _ _ hh => hh⟩
        refine ⟨fun _ => True, al_FE, fun _ _ => ?_⟩
        exact new 0 (by omega)
      · obtain ⟨a1, a2⟩ := hA3 z0
        rcases Nat.lt_or_ge CC.no AA.xc with z1 | z1
        · refine Or.inr (Or.inl ⟨z0, z1, c2, _, ?_, fun z y0 y1 y2 y3 y4 hh => hh⟩)
          refine ⟨r1, c1, ⟨by omega, by omega⟩, fun _ => ⟨_, ?_, fun _ _ _ _ _ hh => hh⟩, fun u => by omega⟩
          refine ⟨fun _ => True, al_SE, fun _ _ => ?_⟩
          exact new ((CC.no : Int) + 1 - 1) (by omega)
        · refine Or.inr (Or.inr (Or.inl ⟨by omega, by omega, c2, _, ?_, fun z y0 y1 y2 y3 y4 hh => hh⟩))
          refine ⟨r1, c1, _, ?_, fun _ _ _ _ _ hh => hh⟩
          refine ⟨fun _ => True, al_GE, fun _ _ => ?_⟩
          exact new 10 (by omega)
    · refine Or.inr (Or.inr (Or.inr (Or.inr ⟨⟨r1, fun _ => ⟨⟨by omega, by omega⟩, fun u => by omega, fun _ => rfl⟩, fun u => absurd c1 u⟩, by decide, ?_⟩)))
      refine ⟨_, ?_, fun z u0 u1 u2 u3 hh => hh⟩
      exact ⟨r1, fun _ => ⟨⟨by omega, by omega⟩, fun _ => ⟨rfl, fun u => absurd u (by decide), h⟩, fun u => by omega⟩, fun u => by omega⟩
  · refine Or.inr (Or.inr (Or.inr (Or.inl ⟨⟨r1, fun u => absurd u c1, fun _ => rfl⟩, by decide, ?_⟩)))
    refine ⟨_, ?_, fun z u0 u1 u2 u3 hh => hh⟩
    exact ⟨r1, fun u => by omega, fun _ => ⟨⟨by omega, by omega⟩, fun _ => ⟨rfl, fun u => absurd u (by decide), h⟩, fun _ => ⟨rfl, fun u => absurd u (by decide), h⟩⟩⟩
end STEPS
