/-! STEPS: lamps. -/
def mdTold (F V : Nat → Int) (N : Nat) (hour val : Int) (F' V' : Nat → Int) (N' : Nat) : Prop := mlOK F' V' N' ∧ (∀ h v, chMap F' V' N' h v ↔ (h = hour ∧ v = val) ∨ (h ≠ hour ∧ chMap F V N h v)) ∧ ((∃ i, i < N ∧ F i = hour) → N' = N) ∧ ((∀ i, i < N → F i ≠ hour) → N' = N + 1)
theorem tel_put {F V : Nat → Int} {N k : Nat} {hour val : Int} (hm : mlOK F V N) (hk : k < N) (he : F k = hour) (hv : 0 ≤ val ∧ val ≤ 5000) : mdTold F V N hour val (va_up F k hour) (va_up V k val) N := by
  obtain ⟨m1, m2, m3, m4⟩ := hm
  have eF : ∀ i, va_up F k hour i = F i := fun i => by
    by_cases e : i = k
    · rw [e, up_self, he]
    · rw [up_ne e]
  have eF2 : va_up F k hour = F := funext eF
  rw [eF2]
  refine ⟨⟨m1, m2, m3, fun i hi => ?_⟩, fun h v => ?_, fun _ => rfl, fun q => absurd he (q k hk)⟩
  · by_cases e : i = k
    · rw [e, up_self]; exact hv
    · rw [up_ne e]; exact m4 i hi
  · constructor
    · rintro ⟨i, hi, rfl, rfl⟩
      by_cases e : i = k
      · subst e; exact Or.inl ⟨he, up_self⟩
      · exact Or.inr ⟨fun q => e (m3 i k hi hk (q.trans he.symm)), i, hi, rfl, (up_ne e).symm⟩
    · rintro (⟨rfl, rfl⟩ | ⟨hne, i, hi, rfl, rfl⟩)
      · exact ⟨k, hk, he, up_self⟩
      · have e : i ≠ k := fun q => hne (by rw [q]; exact he)
        exact ⟨i, hi, rfl, up_ne e⟩
theorem tel_add {F V : Nat → Int} {N : Nat} {hour val : Int} (hm : mlOK F V N) (hN : N < 20) (hno : ∀ i, i < N → F i ≠ hour) (hr : 0 ≤ hour ∧ hour < 26280) (hv : 0 ≤ val ∧ val ≤ 5000) : mdTold F V N hour val (va_up F N hour) (va_up V N val) (N + 1) := by
  obtain ⟨m1, m2, m3, m4⟩ := hm
  refine ⟨⟨by omega, fun i hi => ?_, fun i j hi hj => ?_, fun i hi => ?_⟩, fun h v => ?_, fun ⟨i, hi, e⟩ => absurd e (hno i hi), fun _ => rfl⟩
  · by_cases e : i = N
    · rw [e, up_self]; exact hr
    · rw [up_ne e]; exact m2 i (by omega)
  · by_cases e : i = N
    · by_cases e2 : j = N
      · intro _; omega
      · rw [e, up_self, up_ne e2]; intro q; exact absurd q.symm (hno j (by omega))
    · by_cases e2 : j = N
      · rw [e2, up_self, up_ne e]; intro q; exact absurd q (hno i (by omega))
      · rw [up_ne e, up_ne e2]; exact m3 i j (by omega) (by omega)
  · by_cases e : i = N
    · rw [e, up_self]; exact hv
    · rw [up_ne e]; exact m4 i (by omega)
  · constructor
    · rintro ⟨i, hi, rfl, rfl⟩
      by_cases e : i = N
      · subst e; exact Or.inl ⟨up_self, up_self⟩
      · rw [up_ne e, up_ne e]; exact Or.inr ⟨hno i (by omega), i, by omega, rfl, rfl⟩
    · rintro (⟨rfl, rfl⟩ | ⟨hne, i, hi, rfl, rfl⟩)
      · exact ⟨N, by omega, up_self, up_self⟩
      · exact ⟨i, by omega, up_ne (by omega), up_ne (by omega)⟩
theorem lst_up {g : Nat → Int} {lp k : Nat} {x : Int} : lstF (va_up g (20 * lp + k) x) lp = va_up (lstF g lp) k x := funext (fun i => by
  show va_up g (20 * lp + k) x (20 * lp + i) = va_up (lstF g lp) k x i
  by_cases e : i = k
  · rw [e, up_self, up_self]
  · rw [up_ne e, up_ne (by omega)])
theorem chMap_congr {f g f' g' : Nat → Int} {N : Nat} (e : ∀ i, i < N → f i = f' i ∧ g i = g' i) {u v : Int} : chMap f g N u v ↔ chMap f' g' N u v := by
  constructor
  · rintro ⟨i, h1, h2, h3⟩; exact ⟨i, h1, by rw [← (e i h1).1]; exact h2, by rw [← (e i h1).2]; exact h3⟩
  · rintro ⟨i, h1, h2, h3⟩; exact ⟨i, h1, by rw [(e i h1).1]; exact h2, by rw [(e i h1).2]; exact h3⟩
theorem mlOK_congr {f g f' g' : Nat → Int} {N : Nat} (e : ∀ i, i < N → f i = f' i ∧ g i = g' i) (h : mlOK f g N) : mlOK f' g' N := by
  obtain ⟨m1, m2, m3, m4⟩ := h
  refine ⟨m1, fun i hi => by rw [← (e i hi).1]; exact m2 i hi, fun i j hi hj => by rw [← (e i hi).1, ← (e j hj).1]; exact m3 i j hi hj, fun i hi => by rw [← (e i hi).2]; exact m4 i hi⟩
theorem LaR_congr {C : LpC} {j : Nat} {xa la ua uh uo ma mh ml xa' la' ua' uh' uo' ma' mh' ml' : Nat → Int} (h : LaR C j xa la ua uh uo ma mh ml) (e1 : xa' j = xa j) (e2 : ∀ k, k < 26280 → la' (26280 * j + k) = la (26280 * j + k)) (e3 : ua' j = ua j) (e4 : ma' j = ma j)
    (e5 : ∀ i, i < 20 → (lstF uh j i = lstF uh' j i ∧ lstF uo j i = lstF uo' j i) ∧ lstF mh j i = lstF mh' j i ∧ lstF ml j i = lstF ml' j i) : LaR C j xa' la' ua' uh' uo' ma' mh' ml' := by
  obtain ⟨a1, a2, a3, a4, a5, a6, a7, a8, a9, a10, a11⟩ := h
  have n1 := a6.1
  have n2 := a9.1
  exact ⟨a1, a2, by rw [e1]; exact a3, by rw [e3]; exact a4, by rw [e4]; exact a5, mlOK_congr (fun i hi => (e5 i (by omega)).1) a6, fun i hi => by rw [← (e5 i (by omega)).1.2]; exact a7 i hi, fun u v => (a8 u v).trans (chMap_congr (fun i hi => (e5 i (by omega)).1)), mlOK_congr (fun i hi => (e5 i (by omega)).2) a9, fun u v => (a10 u v).trans (chMap_congr (fun i hi => (e5 i (by omega)).2)), fun k hk => by rw [e2 k hk]; exact a11 k hk⟩
section MDS
variable {th no : Int} {ca ba : Nat → Int} {nl : Int} {xa sa da la ra fa ta ua uh uo ma mh ml : Nat → Int} {nf : Int} {fo fh fs : Nat → Int} {rs ic mn : Int} {bh bo ya : Nat → Int} {np : Int} {pa : Nat → Int} {nc : Int} {cp : Nat → Int}
/-- what light leaves -/
def litIs (la xa uh uo mh ml : Nat → Int) (lp UN MN : Nat) (g : Nat → Int) : Prop := (∀ x, (x < 26280 * lp ∨ 26280 * lp + 26280 ≤ x) → g x = la x) ∧ ∀ h, h < 26280 → ∃ v, paint (lstF mh lp) (lstF ml lp) MN MN (xa lp) h v ∧ dark (lstF uh lp) (lstF uo lp) UN UN h v (g (26280 * lp + h))
theorem s_Md_presence {l UN MN : Nat} {hour on : Int} (hl8 : nl ≤ 8) (hl : (l : Int) < nl) (hh : 0 ≤ hour ∧ hour < 26280) (ho : on = 0 ∨ on = 1) (hua : ua l = UN) (hma : ma l = MN) (hu : mlOK (lstF uh l) (lstF uo l) UN) (hm : mlOK (lstF mh l) (lstF ml l) MN) :
    vc_Md_presence th no ca ba nl xa sa da la ra fa ta ua uh uo ma mh ml nf fo fh fs rs ic mn bh bo ya np pa nc cp l hour on (fun z t uh' uo' ua' la' ic' => (¬ (UN < 20 ∨ ∃ i, i < UN ∧ lstF uh l i = hour) → t = 2 ∧ uh' = uh ∧ uo' = uo ∧ ua' = ua ∧ la' = la ∧ ic' = ic) ∧ ((UN < 20 ∨ ∃ i, i < UN ∧ lstF uh l i = hour) → t = 0 ∧ ic' = 0 ∧ ∃ k N' : Nat, k < 20 ∧ z = N' ∧ ua' = va_up ua l N' ∧ uh' = va_up uh (20 * l + k) hour ∧ uo' = va_up uo (20 * l + k) on ∧ mdTold (lstF uh l) (lstF uo l) UN hour on (lstF uh' l) (lstF uo' l) N' ∧ litIs la xa uh' uo' mh ml l N' MN la')) := by
  have hu1 := hu.1
  unfold vc_Md_presence
  rw [Int.toNat_natCast, hua]
  refine ⟨⟨by omega, by omega⟩, ⟨by omega, by omega⟩, fun _ => ⟨⟨by omega, by omega⟩, fun _ => ⟨⟨by omega, by omega⟩, ?_⟩, fun u => absurd hh u⟩, fun u => by omega⟩
  refine ⟨fun at_ k => ∃ K p : Nat, k = K ∧ at_ = p ∧ K ≤ UN ∧ ((p = UN ∧ ∀ i, i < K → lstF uh l i ≠ hour) ∨ (p < K ∧ lstF uh l p = hour)), fun _ k => UN - k.toNat, ⟨0, UN, rfl, rfl, by omega, Or.inl ⟨rfl, fun i hi => by omega⟩⟩, ?_⟩
  rintro at_ k ⟨K, p, rfl, rfl, hK, hp⟩
  refine ⟨⟨by omega, by omega⟩, ⟨by omega, by omega⟩, ⟨by omega, by omega⟩, fun q => ⟨⟨by omega, by omega⟩, fun q2 => ?_, fun q2 => ⟨⟨by omega, by omega⟩, ⟨⟨by omega, by omega⟩, ho⟩, ⟨by omega, by omega⟩, fun q3 => ⟨⟨by omega, by omega⟩, ⟨by omega, by omega⟩, ?_⟩, fun q3 => ⟨⟨by omega, by omega⟩, ?_⟩⟩⟩, fun q => ?_⟩
  · have eK : K = UN := by omega
    subst eK
    refine ⟨fun _ => ⟨rfl, rfl, rfl, rfl, rfl, rfl⟩, fun c => ?_⟩
    rcases hp with ⟨hp1, hp2⟩ | ⟨hp1, hp2⟩
    · rcases c with c | ⟨i, i1, i2⟩
      · omega
      · exact absurd i2 (hp2 i i1)
    · omega
  · have eK : K = UN := by omega
    subst eK
    obtain ⟨hp1, hp2⟩ : p < K ∧ lstF uh l p = hour := hp.resolve_left (fun c => q3 (by omega))
    rw [show ((20 : Int) * l + p).toNat = 20 * l + p by omega]
    have tl : mdTold (lstF uh l) (lstF uo l) K hour on (lstF (va_up uh (20 * l + p) hour) l) (lstF (va_up uo (20 * l + p) on) l) K := by
      rw [lst_up, lst_up]; exact tel_put hu hp1 hp2 (by omega)
    refine ⟨_, s_Md_light (UN := K) (by omega) hma up_self hm tl.1, ?_⟩
    rintro g r ⟨rfl, g1, g2⟩
    refine ⟨⟨by omega, by omega⟩, fun c => absurd (Or.inr ⟨p, hp1, hp2⟩) c, fun _ => ⟨rfl, rfl, p, K, by omega, up_self, rfl, rfl, rfl, tl, g1, g2⟩⟩
  · have eK : K = UN := by omega
    subst eK
    have eP : p = K := by omega
    subst eP
    have hno : ∀ i, i < p → lstF uh l i ≠ hour := by
      rcases hp with ⟨_, hp2⟩ | ⟨hp1, _⟩
      · exact hp2
      · omega
    rw [show ((20 : Int) * l + p).toNat = 20 * l + p by omega]
    have tl : mdTold (lstF uh l) (lstF uo l) p hour on (lstF (va_up uh (20 * l + p) hour) l) (lstF (va_up uo (20 * l + p) on) l) (p + 1) := by
      rw [lst_up, lst_up]; exact tel_add hu (by omega) hno hh (by omega)
    rw [show (p : Int) + 1 = ((p + 1 : Nat) : Int) by omega]
    refine ⟨_, s_Md_light (UN := p + 1) (by omega) hma up_self hm tl.1, ?_⟩
    rintro g r ⟨rfl, g1, g2⟩
    refine ⟨⟨by omega, by omega⟩, fun c => absurd (Or.inl (by omega)) c, fun _ => ⟨rfl, rfl, p, p + 1, by omega, up_self, rfl, rfl, rfl, tl, g1, g2⟩⟩
  · have fk := hu.2.1 K (by omega)
    unfold lstF at fk
    rw [show ((20 : Int) * l + K).toNat = 20 * l + K by omega]
    refine ⟨⟨by omega, by omega⟩, ⟨by omega, by omega⟩, fun q2 => ⟨⟨K + 1, p, by omega, rfl, by omega, ?_⟩, by dsimp only; omega⟩, fun q2 => ⟨⟨K + 1, K, by omega, rfl, by omega, Or.inr ⟨by omega, q2⟩⟩, by dsimp only; omega⟩⟩
    rcases hp with ⟨hp1, hp2⟩ | ⟨hp1, hp2⟩
    · refine Or.inl ⟨hp1, fun i hi => ?_⟩
      by_cases e : i = K
      · rw [e]; exact q2
      · exact hp2 i (by omega)
    · exact Or.inr ⟨by omega, hp2⟩
theorem s_Md_meter {l UN MN : Nat} {hour lx : Int} (hl8 : nl ≤ 8) (hl : (l : Int) < nl) (hh : 0 ≤ hour ∧ hour < 26280) (hlx : r32 lx) (hua : ua l = UN) (hma : ma l = MN) (hu : mlOK (lstF uh l) (lstF uo l) UN) (hm : mlOK (lstF mh l) (lstF ml l) MN) :
    vc_Md_meter th no ca ba nl xa sa da la ra fa ta ua uh uo ma mh ml nf fo fh fs rs ic mn bh bo ya np pa nc cp l hour lx (fun z t mh' ml' ma' la' ic' => (¬ (MN < 20 ∨ ∃ i, i < MN ∧ lstF mh l i = hour) → t = 2 ∧ mh' = mh ∧ ml' = ml ∧ ma' = ma ∧ la' = la ∧ ic' = ic) ∧ ((MN < 20 ∨ ∃ i, i < MN ∧ lstF mh l i = hour) → (¬ (0 ≤ lx ∧ lx ≤ 5000) → t = 3 ∧ mh' = mh ∧ ml' = ml ∧ ma' = ma ∧ la' = la ∧ ic' = ic) ∧ (0 ≤ lx ∧ lx ≤ 5000 → t = 0 ∧ ic' = 0 ∧ ∃ k N' : Nat, k < 20 ∧ z = N' ∧ ma' = va_up ma l N' ∧ mh' = va_up mh (20 * l + k) hour ∧ ml' = va_up ml (20 * l + k) lx ∧ mdTold (lstF mh l) (lstF ml l) MN hour lx (lstF mh' l) (lstF ml' l) N' ∧ litIs la xa uh uo mh' ml' l UN N' la'))) := by
  have hm1 := hm.1
  unfold vc_Md_meter
  rw [Int.toNat_natCast, hma]
  refine ⟨⟨by omega, by omega⟩, ⟨by omega, by omega⟩, fun _ => ⟨⟨by omega, by omega⟩, fun _ => ⟨⟨by omega, by omega⟩, ?_⟩, fun u => absurd hh u⟩, fun u => by omega⟩
  refine ⟨fun at_ k => ∃ K p : Nat, k = K ∧ at_ = p ∧ K ≤ MN ∧ ((p = MN ∧ ∀ i, i < K → lstF mh l i ≠ hour) ∨ (p < K ∧ lstF mh l p = hour)), fun _ k => MN - k.toNat, ⟨0, MN, rfl, rfl, by omega, Or.inl ⟨rfl, fun i hi => by omega⟩⟩, ?_⟩
  rintro at_ k ⟨K, p, rfl, rfl, hK, hp⟩
  have full : MN ≤ K → 20 ≤ p → ¬ (MN < 20 ∨ ∃ i, i < MN ∧ lstF mh l i = hour) := fun q q2 c => by
    have eK : K = MN := by omega
    subst eK
    rcases hp with ⟨hp1, hp2⟩ | ⟨hp1, hp2⟩
    · rcases c with c | ⟨i, i1, i2⟩
      · omega
      · exact absurd i2 (hp2 i i1)
    · omega
  have room : MN ≤ K → p < 20 → (MN < 20 ∨ ∃ i, i < MN ∧ lstF mh l i = hour) := fun q q2 => by
    rcases hp with ⟨hp1, hp2⟩ | ⟨hp1, hp2⟩
    · exact Or.inl (by omega)
    · exact Or.inr ⟨p, by omega, hp2⟩
  refine ⟨⟨by omega, by omega⟩, ⟨by omega, by omega⟩, ⟨by omega, by omega⟩, fun q => ⟨⟨by omega, by omega⟩, fun q2 => ⟨hlx, fun _ => ⟨fun _ => ⟨rfl, rfl, rfl, rfl, rfl, rfl⟩, fun c => absurd c (full (by omega) (by omega))⟩, fun _ => ⟨fun _ => ⟨rfl, rfl, rfl, rfl, rfl, rfl⟩, fun c => absurd c (full (by omega) (by omega))⟩⟩, fun q2 => ⟨hlx, fun q4 => ⟨⟨by omega, by omega⟩, ⟨by omega, by omega⟩, ⟨by omega, by omega⟩, fun q3 => ⟨⟨by omega, by omega⟩, ⟨by omega, by omega⟩, ?_⟩, fun q3 => ⟨⟨by omega, by omega⟩, ?_⟩⟩, fun q4 => ⟨fun c => absurd (room (by omega) (by omega)) c, fun _ => ⟨fun _ => ⟨rfl, rfl, rfl, rfl, rfl, rfl⟩, fun c => absurd c q4⟩⟩⟩⟩, fun q => ?_⟩
  · have eK : K = MN := by omega
    subst eK
    obtain ⟨hp1, hp2⟩ : p < K ∧ lstF mh l p = hour := hp.resolve_left (fun c => q3 (by omega))
    rw [show ((20 : Int) * l + p).toNat = 20 * l + p by omega]
    have tl : mdTold (lstF mh l) (lstF ml l) K hour lx (lstF (va_up mh (20 * l + p) hour) l) (lstF (va_up ml (20 * l + p) lx) l) K := by
      rw [lst_up, lst_up]; exact tel_put hm hp1 hp2 (by omega)
    refine ⟨_, s_Md_light (MN := K) (by omega) up_self hua tl.1 hu, ?_⟩
    rintro g r ⟨rfl, g1, g2⟩
    exact ⟨⟨by omega, by omega⟩, fun c => absurd (Or.inr ⟨p, hp1, hp2⟩) c, fun _ => ⟨fun c => absurd q4 c, fun _ => ⟨rfl, rfl, p, K, by omega, up_self, rfl, rfl, rfl, tl, g1, g2⟩⟩⟩
  · have eK : K = MN := by omega
    subst eK
    have eP : p = K := by omega
    subst eP
    have hno : ∀ i, i < p → lstF mh l i ≠ hour := by
      rcases hp with ⟨_, hp2⟩ | ⟨hp1, _⟩
      · exact hp2
      · omega
    rw [show ((20 : Int) * l + p).toNat = 20 * l + p by omega]
    have tl : mdTold (lstF mh l) (lstF ml l) p hour lx (lstF (va_up mh (20 * l + p) hour) l) (lstF (va_up ml (20 * l + p) lx) l) (p + 1) := by
      rw [lst_up, lst_up]; exact tel_add hm (by omega) hno hh (by omega)
    rw [show (p : Int) + 1 = ((p + 1 : Nat) : Int) by omega]
    refine ⟨_, s_Md_light (MN := p + 1) (by omega) up_self hua tl.1 hu, ?_⟩
    rintro g r ⟨rfl, g1, g2⟩
    exact ⟨⟨by omega, by omega⟩, fun c => absurd (Or.inl (by omega)) c, fun _ => ⟨fun c => absurd q4 c, fun _ => ⟨rfl, rfl, p, p + 1, by omega, up_self, rfl, rfl, rfl, tl, g1, g2⟩⟩⟩
  · have fk := hm.2.1 K (by omega)
    unfold lstF at fk
    rw [show ((20 : Int) * l + K).toNat = 20 * l + K by omega]
    refine ⟨⟨by omega, by omega⟩, ⟨by omega, by omega⟩, fun q2 => ⟨⟨K + 1, p, by omega, rfl, by omega, ?_⟩, by dsimp only; omega⟩, fun q2 => ⟨⟨K + 1, K, by omega, rfl, by omega, Or.inr ⟨by omega, q2⟩⟩, by dsimp only; omega⟩⟩
    rcases hp with ⟨hp1, hp2⟩ | ⟨hp1, hp2⟩
    · refine Or.inl ⟨hp1, fun i hi => ?_⟩
      by_cases e : i = K
      · rw [e]; exact q2
      · exact hp2 i (by omega)
    · exact Or.inr ⟨by omega, hp2⟩
end MDS
/-- a list of the class and one of the Model: the same is told -/
theorem told_same {fh fv fh' fv' F V F' V' : Nat → Int} {N N2 : Nat} {hour val n' : Int} (h : ∀ u v, chMap fh fv N u v ↔ chMap F V N u v) (t : toldAs fh fv N hour val fh' fv' n') (m : mdTold F V N hour val F' V' N2) : n' = N2 ∧ ∀ u v, chMap fh' fv' N2 u v ↔ chMap F' V' N2 u v := by
  obtain ⟨N1, e1, t2, t3, t4, t5⟩ := t
  obtain ⟨m1, m2, m3, m4⟩ := m
  have eN : N1 = N2 := by
    by_cases c : ∃ i, i < N ∧ fh i = hour
    · obtain ⟨i, i1, i2⟩ := c
      obtain ⟨j, j1, j2, _⟩ := (h _ _).mp ⟨i, i1, rfl, rfl⟩
      rw [t4 ⟨i, i1, i2⟩, m3 ⟨j, j1, j2.trans i2⟩]
    · rw [t5 (fun i hi e => c ⟨i, hi, e⟩), m4 (fun j hj e => ?_)]
      obtain ⟨i, i1, i2, _⟩ := (h _ _).mpr ⟨j, hj, rfl, rfl⟩
      exact c ⟨i, i1, i2.trans e⟩
  subst eN
  refine ⟨e1, fun u v => ?_⟩
  rw [t3, m2, h]
theorem told_ex {fh fv F V : Nat → Int} {N : Nat} {hour : Int} (h : ∀ u v, chMap fh fv N u v ↔ chMap F V N u v) : (∃ i, i < N ∧ fh i = hour) ↔ ∃ i, i < N ∧ F i = hour := by
  constructor
  · rintro ⟨i, i1, i2⟩
    obtain ⟨j, j1, j2, _⟩ := (h _ _).mp ⟨i, i1, rfl, rfl⟩
    exact ⟨j, j1, j2.trans i2⟩
  · rintro ⟨i, i1, i2⟩
    obtain ⟨j, j1, j2, _⟩ := (h _ _).mpr ⟨i, i1, rfl, rfl⟩
    exact ⟨j, j1, j2.trans i2⟩
