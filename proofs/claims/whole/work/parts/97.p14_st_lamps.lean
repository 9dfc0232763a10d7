/-! STEPS: lamps, the calls. -/
section STEPS
variable {qd : Nat} {AA : LdA} {CC : LdC} {MM : MdC} {f : Nat → Int} {x1 x2 x3 : Int}
theorem pres_core {on : Int} (h : Rl CC MM) (r1 : r32 x1) (r2 : r32 x2) (ho : on = 0 ∨ on = 1) : vw_presence AA CC f x1 x2 on (fun k f1 C1 => r32 k ∧ (∃ Pm, vc_Md_presence MM.th MM.no MM.ca MM.ba MM.nl MM.xa MM.sa MM.da MM.la MM.ra MM.fa MM.ta MM.ua MM.uh MM.uo MM.ma MM.mh MM.ml MM.nf MM.fo MM.fh MM.fs MM.rs MM.ic MM.mn MM.bh MM.bo MM.ya MM.np MM.pa MM.nc MM.cp x1 x2 on Pm ∧ ∀ (z : Int) (u0 : Int) (u1 : Nat → Int) (u2 : Nat → Int) (u3 : Nat → Int) (u4 : Nat → Int) (u5 : Int), Pm z u0 u1 u2 u3 u4 u5 → u0 = k ∧ (k = 0 → f1 0 = z ∧ r32 z) ∧ Rl C1 ((u0, MM.no, MM.ca, MM.ba, MM.nl, MM.xa, MM.sa, MM.da, u4, MM.ra, MM.fa, MM.ta, u3, u1, u2, MM.ma, MM.mh, MM.ml, MM.nf, MM.fo, MM.fh, MM.fs, MM.rs, u5, MM.mn, MM.bh, MM.bo, MM.ya, MM.np, MM.pa, MM.nc, MM.cp) : MdC))) := by
  unfold vw_presence
  obtain ⟨h1, h2, h3, h4, h5, h6, h7, h8, h9, h10, h11, h12, h13⟩ := id h
  have hnl := h2.2
  by_cases c1 : 0 ≤ x1 ∧ x1 < (CC.nl : Int)
  · obtain ⟨l, rfl⟩ : ∃ l : Nat, x1 = l := ⟨x1.toNat, by omega⟩
    have laR := h9.1 l (by omega)
    obtain ⟨⟨a1, a1', a1k⟩, a2, a3, a4, a5, a6, a7, a8, a9, a10, a11⟩ := laR
    by_cases c2 : 0 ≤ x2 ∧ x2 < 26280
    · have spec := s_Md_presence (th := MM.th) (no := MM.no) (ca := MM.ca) (ba := MM.ba) (xa := MM.xa) (sa := MM.sa) (da := MM.da) (la := MM.la) (ra := MM.ra) (fa := MM.fa) (ta := MM.ta) (nf := MM.nf) (fo := MM.fo) (fh := MM.fh) (fs := MM.fs) (rs := MM.rs) (ic := MM.ic) (mn := MM.mn) (bh := MM.bh) (bo := MM.bo) (ya := MM.ya) (np := MM.np) (pa := MM.pa) (nc := MM.nc) (cp := MM.cp) (nl := MM.nl) (ua := MM.ua) (ma := MM.ma) (l := l) (hour := x2) (on := on) (by omega) (by omega) c2 ho (a4.trans a1) (a5.trans a1') a6 a9
      have cx := told_ex (hour := x2) a8
      by_cases c3 : (CC.LC l).wn.toNat < 20 ∨ ∃ i, i < (CC.LC l).wn.toNat ∧ (CC.LC l).wh i = x2
      · refine Or.inl ⟨l, rfl, by omega, _, ?_, fun z y0 y1 y2 y3 y4 y5 y6 y7 hh => hh⟩
        unfold vc_LD_presence
        have chk := s_LD_checkChange (fst := (CC.LC l).wfst) a1k.1 r2 c3
        have trn := s_Lp_turn (on := on) a1k c2 ho c3
        rw [← a1] at chk trn
        rw [← a1', ← a2] at trn
        refine ⟨s_LD_lampOf (by omega) (by omega), r2, c2, chk, _, trn, ?_⟩
        rintro y7 y8 y9 y10 y11 y12 y13 ⟨N', eN, tol, lok⟩
        refine ⟨⟨?_, ?_⟩, by decide, ?_⟩
        · omega
        · have := lok.1.1; omega
        refine ⟨_, spec, ?_⟩
        rintro z u0 u1 u2 u3 u4 u5 ⟨-, hs⟩
        obtain ⟨e0, e5, k, N2, hk, ez, e3, e1, e2, tm, lit⟩ := hs (c3.imp id cx.mp)
        subst e0 e5 ez e3
        obtain ⟨en, same⟩ := told_same a8 tol tm
        have hN2 : N' = N2 := by omega
        subst hN2
        have lo := lok.1.1
        refine ⟨rfl, fun _ => ⟨by rw [up_self]; omega, ⟨by omega, by omega⟩⟩, ?_⟩
        refine ⟨h1, h2, ⟨Or.inl rfl, Or.inl rfl⟩, h4, h5, h6, h7, h8, ⟨fun j hj => ?_, fun j j1 j2 => ?_⟩, h10, h11, fr0 rfl, fr0 rfl⟩
        · have hj2 : j < CC.nl := hj
          show LaR (va_up CC.LC l (((CC.LC l).wfst, y7, y8, y9, (CC.LC l).mfst, (CC.LC l).mh, (CC.LC l).mv, (CC.LC l).mn, y10, y11, y12, y13) : LpC) j) j MM.xa u4 (va_up MM.ua l (N' : Int)) u1 u2 MM.ma MM.mh MM.ml
          by_cases e : j = l
          · subst e
            rw [show va_up CC.LC j (((CC.LC j).wfst, y7, y8, y9, (CC.LC j).mfst, (CC.LC j).mh, (CC.LC j).mv, (CC.LC j).mn, y10, y11, y12, y13) : LpC) j = (((CC.LC j).wfst, y7, y8, y9, (CC.LC j).mfst, (CC.LC j).mh, (CC.LC j).mv, (CC.LC j).mn, y10, y11, y12, y13) : LpC) from if_pos rfl]
            have ey : y9.toNat = N' := by omega
            have bit : ∀ i, i < N' → lstF u2 j i = 0 ∨ lstF u2 j i = 1 := fun i hi => by
              rcases (tm.2.1 _ _).mp ⟨i, hi, rfl, rfl⟩ with ⟨_, q⟩ | ⟨_, p, p1, _, p3⟩
              · rw [q]; exact ho
              · rw [← p3]; exact a7 p p1
            refine ⟨⟨?_, a1', ?_⟩, a2, a3, ?_, a5, ?_, ?_, ?_, a9, a10, fun hr hhr => ?_⟩
            · show y9 = (y9.toNat : Int)
              omega
            · show lpOK y7 y8 y9.toNat (CC.LC j).mfst (CC.LC j).mh (CC.LC j).mv (CC.LC j).mn.toNat y10 y11 y12 y13
              rw [ey]; exact lok
            · show va_up MM.ua j (N' : Int) j = y9
              rw [up_self]; omega
            · show mlOK (lstF u1 j) (lstF u2 j) y9.toNat
              rw [ey]; exact tm.1
            · show ∀ i, i < y9.toNat → lstF u2 j i = 0 ∨ lstF u2 j i = 1
              rw [ey]; exact bit
            · show ∀ u v, chMap y7 y8 y9.toNat u v ↔ chMap (lstF u1 j) (lstF u2 j) y9.toNat u v
              rw [ey]; exact same
            · show u4 (26280 * j + hr) = lpLux y7 y8 y9.toNat (CC.LC j).mfst (CC.LC j).mh (CC.LC j).mv (CC.LC j).mn.toNat hr
              rw [ey]
              obtain ⟨v, v1, v2⟩ := lit.2 hr hhr
              rw [a3] at v1
              exact light_is lok.1.2.1 lok.2.1.2.1 bit same a10 v1 v2
          · rw [show va_up CC.LC l (((CC.LC l).wfst, y7, y8, y9, (CC.LC l).mfst, (CC.LC l).mh, (CC.LC l).mv, (CC.LC l).mn, y10, y11, y12, y13) : LpC) j = CC.LC j from if_neg e]
            refine LaR_congr (h9.1 j hj2) rfl (fun k2 hk2 => lit.1 _ (by omega)) (up_ne e) rfl (fun i hi => ⟨⟨?_, ?_⟩, rfl, rfl⟩)
            · rw [e1]
              show MM.uh (20 * j + i) = va_up MM.uh (20 * l + k) x2 (20 * j + i)
              have ne : 20 * j + i ≠ 20 * l + k := by omega
              exact (up_ne ne).symm
            · rw [e2]
              show MM.uo (20 * j + i) = va_up MM.uo (20 * l + k) on (20 * j + i)
              have ne : 20 * j + i ≠ 20 * l + k := by omega
              exact (up_ne ne).symm
        · have j1' : CC.nl ≤ j := j1
          exact ⟨(up_ne (by omega)).trans (h9.2 j j1 j2).1, (h9.2 j j1 j2).2⟩
      · refine Or.inr (Or.inr (Or.inr ⟨l, rfl, by omega, ?_, by decide, ?_⟩))
        · unfold vt_LD_presence2
          have chk := f_LD_checkChange (fst := (CC.LC l).wfst) a1k.1 r2 c3
          rw [← a1] at chk
          exact ⟨s_LD_lampOf (by omega) (by omega), r2, fun _ => Or.inr ⟨rfl, chk⟩, fun u => absurd c2 u⟩
        · refine ⟨_, spec, ?_⟩
          rintro z u0 u1 u2 u3 u4 u5 ⟨hs, -⟩
          obtain ⟨e0, e1, e2, e3, e4, e5⟩ := hs (fun c => c3 (c.imp id cx.mpr))
          subst e0 e1 e2 e3 e4 e5
          exact ⟨rfl, fun u => absurd u (by decide), h⟩
    · refine Or.inr (Or.inr (Or.inl ⟨l, rfl, by omega, ⟨s_LD_lampOf (by omega) (by omega), r2, fun u => absurd u c2, fun _ => rfl⟩, by decide, ?_⟩))
      refine ⟨_, ?_, fun z u0 u1 u2 u3 u4 u5 hh => hh⟩
      exact ⟨r1, ⟨by omega, by omega⟩, fun _ => ⟨r2, fun u => absurd u c2, fun _ => ⟨fun a k => a = 0, fun _ _ => 0, rfl, fun a k ha => ⟨⟨by omega, by omega⟩, fun _ => ⟨rfl, fun u => absurd u (by decide), h⟩, fun _ => ⟨rfl, fun u => absurd u (by decide), h⟩⟩⟩⟩, fun u => by omega⟩
  · refine Or.inr (Or.inl ⟨⟨r1, ⟨by omega, by omega⟩, fun u => absurd u c1, fun _ => rfl⟩, by decide, ?_⟩)
    refine ⟨_, ?_, fun z u0 u1 u2 u3 u4 u5 hh => hh⟩
    exact ⟨r1, ⟨by omega, by omega⟩, fun u => by omega, fun _ => ⟨fun a k => a = 0, fun _ _ => 0, rfl, fun a k ha => ⟨⟨by omega, by omega⟩, fun _ => ⟨rfl, fun u => absurd u (by decide), h⟩, fun _ => ⟨rfl, fun u => absurd u (by decide), h⟩⟩⟩⟩
theorem st_presence (h : Rl CC MM) (r1 : r32 x1) (r2 : r32 x2) : vl_presence AA CC MM f x1 x2 x3 Rl := by
  unfold vl_presence
  exact ⟨fun c => ⟨_, pres_core h r1 r2 (Or.inl rfl), fun k f1 C1 hh => ⟨hh.1, fun _ => hh.2, fun u => absurd c u⟩⟩, fun c => ⟨_, pres_core h r1 r2 (Or.inr rfl), fun k f1 C1 hh => ⟨hh.1, fun u => absurd u c, fun _ => hh.2⟩⟩⟩
theorem st_meter (h : Rl CC MM) (r1 : r32 x1) (r2 : r32 x2) (r3 : r32 x3) : vl_meter AA CC MM f x1 x2 x3 Rl := by
  unfold vl_meter
  refine ⟨_, ?_, fun k f1 C1 hh => hh⟩
  unfold vw_meter
  obtain ⟨h1, h2, h3, h4, h5, h6, h7, h8, h9, h10, h11, h12, h13⟩ := id h
  have hnl := h2.2
  by_cases c1 : 0 ≤ x1 ∧ x1 < (CC.nl : Int)
  · obtain ⟨l, rfl⟩ : ∃ l : Nat, x1 = l := ⟨x1.toNat, by omega⟩
    have laR := h9.1 l (by omega)
    obtain ⟨⟨a1, a1', a1k⟩, a2, a3, a4, a5, a6, a7, a8, a9, a10, a11⟩ := laR
    by_cases c2 : 0 ≤ x2 ∧ x2 < 26280
    · have spec := s_Md_meter (th := MM.th) (no := MM.no) (ca := MM.ca) (ba := MM.ba) (xa := MM.xa) (sa := MM.sa) (da := MM.da) (la := MM.la) (ra := MM.ra) (fa := MM.fa) (ta := MM.ta) (nf := MM.nf) (fo := MM.fo) (fh := MM.fh) (fs := MM.fs) (rs := MM.rs) (ic := MM.ic) (mn := MM.mn) (bh := MM.bh) (bo := MM.bo) (ya := MM.ya) (np := MM.np) (pa := MM.pa) (nc := MM.nc) (cp := MM.cp) (nl := MM.nl) (ua := MM.ua) (ma := MM.ma) (l := l) (hour := x2) (lx := x3) (by omega) (by omega) c2 r3 (a4.trans a1) (a5.trans a1') a6 a9
      have cx := told_ex (hour := x2) a10
      by_cases c3 : (CC.LC l).mn.toNat < 20 ∨ ∃ i, i < (CC.LC l).mn.toNat ∧ (CC.LC l).mh i = x2
      · have chk := s_LD_checkChange (fst := (CC.LC l).mfst) a1k.2.1 r2 c3
        rw [← a1'] at chk
        by_cases c4 : 0 ≤ x3 ∧ x3 ≤ 5000
        · refine Or.inl ⟨l, rfl, by omega, _, ?_, fun z y0 y1 y2 y3 y4 y5 y6 y7 hh => hh⟩
          unfold vc_LD_meter
          have trn := s_Lp_measure (lux := x3) a1k c2 c4 c3
          rw [← a1, ← a1', ← a2] at trn
          refine ⟨s_LD_lampOf (by omega) (by omega), r2, c2, chk, r3, c4, _, trn, ?_⟩
          rintro y7 y8 y9 y10 y11 y12 y13 ⟨N', eN, tol, lok⟩
          have lo := lok.2.1.1
          refine ⟨⟨by omega, by omega⟩, by decide, ?_⟩
          refine ⟨_, spec, ?_⟩
          rintro z u0 u1 u2 u3 u4 u5 ⟨-, hs⟩
          obtain ⟨e0, e5, k, N2, hk, ez, e3, e1, e2, tm, lit⟩ := (hs (c3.imp id cx.mp)).2 c4
          subst e0 e5 ez e3
          obtain ⟨en, same⟩ := told_same a10 tol tm
          have hN2 : N' = N2 := by omega
          subst hN2
          refine ⟨rfl, fun _ => ⟨by rw [up_self]; omega, ⟨by omega, by omega⟩⟩, ?_⟩
          refine ⟨h1, h2, ⟨Or.inl rfl, Or.inl rfl⟩, h4, h5, h6, h7, h8, ⟨fun j hj => ?_, fun j j1 j2 => ?_⟩, h10, h11, fr0 rfl, fr0 rfl⟩
          · have hj2 : j < CC.nl := hj
            show LaR (va_up CC.LC l (((CC.LC l).wfst, (CC.LC l).wh, (CC.LC l).wv, (CC.LC l).wn, (CC.LC l).mfst, y7, y8, y9, y10, y11, y12, y13) : LpC) j) j MM.xa u4 MM.ua MM.uh MM.uo (va_up MM.ma l (N' : Int)) u1 u2
            by_cases e : j = l
            · subst e
              rw [show va_up CC.LC j (((CC.LC j).wfst, (CC.LC j).wh, (CC.LC j).wv, (CC.LC j).wn, (CC.LC j).mfst, y7, y8, y9, y10, y11, y12, y13) : LpC) j = (((CC.LC j).wfst, (CC.LC j).wh, (CC.LC j).wv, (CC.LC j).wn, (CC.LC j).mfst, y7, y8, y9, y10, y11, y12, y13) : LpC) from if_pos rfl]
              have ey : y9.toNat = N' := by omega
              refine ⟨⟨a1, ?_, ?_⟩, a2, a3, a4, ?_, a6, a7, a8, ?_, ?_, fun hr hhr => ?_⟩
              · show y9 = (y9.toNat : Int)
                omega
              · show lpOK (CC.LC j).wh (CC.LC j).wv (CC.LC j).wn.toNat (CC.LC j).mfst y7 y8 y9.toNat y10 y11 y12 y13
                rw [ey]; exact lok
              · show va_up MM.ma j (N' : Int) j = y9
                rw [up_self]; omega
              · show mlOK (lstF u1 j) (lstF u2 j) y9.toNat
                rw [ey]; exact tm.1
              · show ∀ u v, chMap y7 y8 y9.toNat u v ↔ chMap (lstF u1 j) (lstF u2 j) y9.toNat u v
                rw [ey]; exact same
              · show u4 (26280 * j + hr) = lpLux (CC.LC j).wh (CC.LC j).wv (CC.LC j).wn.toNat (CC.LC j).mfst y7 y8 y9.toNat hr
                rw [ey]
                obtain ⟨v, v1, v2⟩ := lit.2 hr hhr
                rw [a3] at v1
                exact light_is lok.1.2.1 lok.2.1.2.1 a7 a8 same v1 v2
            · rw [show va_up CC.LC l (((CC.LC l).wfst, (CC.LC l).wh, (CC.LC l).wv, (CC.LC l).wn, (CC.LC l).mfst, y7, y8, y9, y10, y11, y12, y13) : LpC) j = CC.LC j from if_neg e]
              refine LaR_congr (h9.1 j hj2) rfl (fun k2 hk2 => lit.1 _ (by omega)) rfl (up_ne e) (fun i hi => ⟨⟨rfl, rfl⟩, ?_, ?_⟩)
              · rw [e1]
                show MM.mh (20 * j + i) = va_up MM.mh (20 * l + k) x2 (20 * j + i)
                have ne : 20 * j + i ≠ 20 * l + k := by omega
                exact (up_ne ne).symm
              · rw [e2]
                show MM.ml (20 * j + i) = va_up MM.ml (20 * l + k) x3 (20 * j + i)
                have ne : 20 * j + i ≠ 20 * l + k := by omega
                exact (up_ne ne).symm
          · have j1' : CC.nl ≤ j := j1
            exact ⟨(h9.2 j j1 j2).1, (up_ne (by omega)).trans (h9.2 j j1 j2).2⟩
        · refine Or.inr (Or.inr (Or.inr (Or.inr ⟨l, rfl, by omega, ?_, by decide, ?_⟩)))
          · exact ⟨s_LD_lampOf (by omega) (by omega), r2, fun _ => Or.inl ⟨chk, r3, fun u => absurd u c4, fun _ => rfl⟩, fun u => absurd c2 u⟩
          · refine ⟨_, spec, ?_⟩
            rintro z u0 u1 u2 u3 u4 u5 ⟨-, hs⟩
            obtain ⟨e0, e1, e2, e3, e4, e5⟩ := (hs (c3.imp id cx.mp)).1 c4
            subst e0 e1 e2 e3 e4 e5
            exact ⟨rfl, fun u => absurd u (by decide), h⟩
      · refine Or.inr (Or.inr (Or.inr (Or.inl ⟨l, rfl, by omega, ?_, by decide, ?_⟩)))
        · have chk := f_LD_checkChange (fst := (CC.LC l).mfst) a1k.2.1 r2 c3
          rw [← a1'] at chk
          exact ⟨s_LD_lampOf (by omega) (by omega), r2, fun _ => Or.inr ⟨rfl, chk⟩, fun u => absurd c2 u⟩
        · refine ⟨_, spec, ?_⟩
          rintro z u0 u1 u2 u3 u4 u5 ⟨hs, -⟩
          obtain ⟨e0, e1, e2, e3, e4, e5⟩ := hs (fun c => c3 (c.imp id cx.mpr))
          subst e0 e1 e2 e3 e4 e5
          exact ⟨rfl, fun u => absurd u (by decide), h⟩
    · refine Or.inr (Or.inr (Or.inl ⟨l, rfl, by omega, ⟨s_LD_lampOf (by omega) (by omega), r2, fun u => absurd u c2, fun _ => rfl⟩, by decide, ?_⟩))
      refine ⟨_, ?_, fun z u0 u1 u2 u3 u4 u5 hh => hh⟩
      exact ⟨r1, ⟨by omega, by omega⟩, fun _ => ⟨r2, fun u => absurd u c2, fun _ => ⟨fun a k => a = 0, fun _ _ => 0, rfl, fun a k ha => ⟨⟨by omega, by omega⟩, fun _ => ⟨r3, fun _ => ⟨rfl, fun u => absurd u (by decide), h⟩, fun _ => ⟨rfl, fun u => absurd u (by decide), h⟩⟩, fun _ => ⟨r3, fun _ => ⟨rfl, fun u => absurd u (by decide), h⟩, fun _ => ⟨rfl, fun u => absurd u (by decide), h⟩⟩⟩⟩⟩, fun u => by omega⟩
  · refine Or.inr (Or.inl ⟨⟨r1, ⟨by omega, by omega⟩, fun u => absurd u c1, fun _ => rfl⟩, by decide, ?_⟩)
    refine ⟨_, ?_, fun z u0 u1 u2 u3 u4 u5 hh => hh⟩
    exact ⟨r1, ⟨by omega, by omega⟩, fun u => by omega, fun _ => ⟨fun a k => a = 0, fun _ _ => 0, rfl, fun a k ha => ⟨⟨by omega, by omega⟩, fun _ => ⟨r3, fun _ => ⟨rfl, fun u => absurd u (by decide), h⟩, fun _ => ⟨rfl, fun u => absurd u (by decide), h⟩⟩, fun _ => ⟨r3, fun _ => ⟨rfl, fun u => absurd u (by decide), h⟩, fun _ => ⟨rfl, fun u => absurd u (by decide), h⟩⟩⟩⟩⟩
theorem st_lamp (h : Rl CC MM) (hA : ldA qd AA CC) (r1 : r32 x1) : vl_lamp AA CC MM f x1 x2 x3 Rl := by
  unfold vl_lamp
  refine ⟨_, ?_, fun k f1 C1 hh => hh⟩
  unfold vw_lamp
  obtain ⟨h1, h2, h3, h4, h5, h6, h7, h8, h9, h10, h11, h12, h13⟩ := id h
  have hA4 := hA.2.2.2.1
  by_cases c1 : CC.nl < 8
  · by_cases c2 : 0 ≤ x1 ∧ x1 ≤ 5000
    · have new : ∀ (z : Int) (y0 : Int) (y1 : Nat → Int) (y2 : Nat → Int) (y3 : Int) (y4 : Int) (y5 : Nat → Int) (y6 : Nat → Int) (y7 : Int) (y8 : Nat → Int) (y9 : Nat → Int) (y10 : Nat → Int) (y11 : Int), z = CC.nl → (y0 = 1 ∧ y3 = 0 ∧ y4 = x1 ∧ y7 = 0 ∧ lpOK y1 y2 0 y4 y5 y6 0 y8 y9 y10 y11) → r32 z ∧ (r32 0 ∧ ∃ Pm3, vc_Md_lamp MM.th MM.no MM.ca MM.ba MM.nl MM.xa MM.sa MM.da MM.la MM.ra MM.fa MM.ta MM.ua MM.uh MM.uo MM.ma MM.mh MM.ml MM.nf MM.fo MM.fh MM.fs MM.rs MM.ic MM.mn MM.bh MM.bo MM.ya MM.np MM.pa MM.nc MM.cp x1 Pm3 ∧ ∀ (z1 : Int) (u0 : Int) (u1 : Nat → Int) (u2 : Int) (u3 : Nat → Int) (u4 : Int), Pm3 z1 u0 u1 u2 u3 u4 → u0 = 0 ∧ ((0 : Int) = 0 → (va_up f 0 z) 0 = z1 ∧ r32 z1) ∧ Rl ((CC.no, CC.nl + 1, 0, CC.po, CC.ba, CC.dl, CC.ds, CC.fo, CC.fh, CC.fs, CC.fn, CC.bh, CC.bo, CC.bn, CC.kh, CC.kc, CC.kp, CC.kn, CC.EC, va_up CC.LC CC.nl ((y0, y1, y2, y3, y4, y5, y6, y7, y8, y9, y10, y11) : LpC)) : LdC) ((u0, MM.no, MM.ca, MM.ba, u2, u1, MM.sa, MM.da, u3, MM.ra, MM.fa, MM.ta, MM.ua, MM.uh, MM.uo, MM.ma, MM.mh, MM.ml, MM.nf, MM.fo, MM.fh, MM.fs, MM.rs, u4, MM.mn, MM.bh, MM.bo, MM.ya, MM.np, MM.pa, MM.nc, MM.cp) : MdC)) := by
        rintro z y0 y1 y2 y3 y4 y5 y6 y7 y8 y9 y10 y11 hz ⟨rfl, rfl, rfl, rfl, lok⟩
        refine ⟨⟨by omega, by omega⟩, by decide, ?_⟩
        refine ⟨_, ?_, fun z u0 u1 u2 u3 u4 hh => hh⟩
        have hnl := h2.2
        have w := h9.2 CC.nl (Nat.le_refl _) c1
        have m0 : ∀ F V : Nat → Int, mlOK F V 0 := fun F V => ⟨Nat.zero_le _, fun i q => absurd q (Nat.not_lt_zero _), fun i j q => absurd q (Nat.not_lt_zero _), fun i q => absurd q (Nat.not_lt_zero _)⟩
        unfold vc_Md_lamp
        rw [hnl, Int.toNat_natCast, show (CC.nl : Int) + 1 - 1 = (CC.nl : Int) by omega]
        refine ⟨⟨by omega, by omega⟩, fun u => by omega, fun _ => ⟨r1, fun _ => ⟨⟨by omega, by omega⟩, _, s_Md_light (MN := 0) (UN := 0) c1 w.2 w.1 (m0 _ _) (m0 _ _), ?_⟩, fun u => absurd c2 u⟩⟩
        rintro g r ⟨rfl, g1, g2⟩
        refine ⟨rfl, fun _ => ⟨by rw [up_self]; omega, ⟨by omega, by omega⟩⟩, ?_⟩
        refine ⟨h1, ⟨?_, ?_⟩, ⟨Or.inl rfl, Or.inl rfl⟩, h4, h5, h6, h7, h8, ⟨fun j hj => ?_, fun j j1 j2 => ?_⟩, h10, h11, fr0 rfl, fr0 rfl⟩
        · show CC.nl + 1 ≤ 8
          omega
        · show (CC.nl : Int) + 1 = ((CC.nl + 1 : Nat) : Int)
          omega
        · have hj2 : j < CC.nl + 1 := hj
          show LaR (va_up CC.LC CC.nl ((1, y1, y2, 0, y4, y5, y6, 0, y8, y9, y10, y11) : LpC) j) j (va_up MM.xa CC.nl y4) g MM.ua MM.uh MM.uo MM.ma MM.mh MM.ml
          by_cases e : j = CC.nl
          · rw [e, show va_up CC.LC CC.nl ((1, y1, y2, 0, y4, y5, y6, 0, y8, y9, y10, y11) : LpC) CC.nl = ((1, y1, y2, 0, y4, y5, y6, 0, y8, y9, y10, y11) : LpC) from if_pos rfl]
            have em : ∀ (F V F' V' : Nat → Int) (u v : Int), chMap F V 0 u v ↔ chMap F' V' 0 u v := fun F V F' V' u v => ⟨fun ⟨i, q, _⟩ => absurd q (Nat.not_lt_zero _), fun ⟨i, q, _⟩ => absurd q (Nat.not_lt_zero _)⟩
            refine ⟨⟨rfl, rfl, lok⟩, rfl, up_self, w.1, w.2, m0 _ _, fun i q => absurd q (Nat.not_lt_zero _), em _ _ _ _, m0 _ _, em _ _ _ _, fun hr hhr => ?_⟩
            obtain ⟨v, v1, v2⟩ := g2 hr hhr
            rw [up_self] at v1
            exact light_is (wh := y1) (wv := y2) (WN := 0) (md := y4) (h2 := y5) (v2 := y6) (MN' := 0) lok.1.2.1 lok.2.1.2.1 (fun i q => absurd q (Nat.not_lt_zero _)) (em _ _ _ _) (em _ _ _ _) v1 v2
          · rw [show va_up CC.LC CC.nl ((1, y1, y2, 0, y4, y5, y6, 0, y8, y9, y10, y11) : LpC) j = CC.LC j from if_neg e]
            exact LaR_congr (h9.1 j (by omega)) (up_ne e) (fun k2 hk2 => g1 _ (by omega)) rfl rfl (fun i hi => ⟨⟨rfl, rfl⟩, rfl, rfl⟩)
        · have j1' : CC.nl + 1 ≤ j := j1
          exact h9.2 j (by omega) j2
      rcases Nat.eq_zero_or_pos CC.nl with z0 | z0
      · refine Or.inl ⟨z0, c1, _, ?_, fun z y0 y1 y2 y3 y4 y5 y6 y7 y8 y9 y10 y11 hh => hh⟩
        refine ⟨r1, c2, _, s_Lp_init c2, fun y0 y1 y2 y3 y4 y5 y6 y7 y8 y9 y10 y11 hy => ?_⟩
        refine ⟨fun _ => True, al_FL, fun _ _ => ?_⟩
        exact new 0 _ _ _ _ _ _ _ _ _ _ _ _ (by omega) hy
      · obtain ⟨a1, a2⟩ := hA4 z0
        refine Or.inr (Or.inl ⟨z0, by omega, c1, _, ?_, fun z y0 y1 y2 y3 y4 y5 y6 y7 y8 y9 y10 y11 hh => hh⟩)
        refine ⟨⟨by omega, by omega⟩, fun _ => ⟨r1, c2, _, s_Lp_init c2, fun y0 y1 y2 y3 y4 y5 y6 y7 y8 y9 y10 y11 hy => ?_⟩, fun u => by omega⟩
        refine ⟨fun _ => True, al_SL, fun _ _ => ?_⟩
        exact new ((CC.nl : Int) + 1 - 1) _ _ _ _ _ _ _ _ _ _ _ _ (by omega) hy
    · refine Or.inr (Or.inr (Or.inr ⟨⟨⟨by omega, by omega⟩, fun _ => ⟨r1, fun u => absurd u c2, fun _ => rfl⟩, fun u => by omega⟩, by decide, ?_⟩))
      refine ⟨_, ?_, fun z u0 u1 u2 u3 u4 hh => hh⟩
      exact ⟨⟨by omega, by omega⟩, fun u => by omega, fun _ => ⟨r1, fun u => absurd u c2, fun _ => ⟨rfl, fun u => absurd u (by decide), h⟩⟩⟩
  · refine Or.inr (Or.inr (Or.inl ⟨⟨⟨by omega, by omega⟩, fun u => by omega, fun _ => rfl⟩, by decide, ?_⟩))
    refine ⟨_, ?_, fun z u0 u1 u2 u3 u4 hh => hh⟩
    exact ⟨⟨by omega, by omega⟩, fun _ => ⟨r1, fun _ => ⟨rfl, fun u => absurd u (by decide), h⟩, fun _ => ⟨rfl, fun u => absurd u (by decide), h⟩⟩, fun u => by omega⟩
end STEPS
