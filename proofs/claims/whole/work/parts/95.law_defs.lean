/-! THE LAW: its records, its rows -/
/-! THE CLAIM OUT OF ONE WALK OF THE LAW'S BODY. Your part is whole_start (and what it stands on); all else here is the same for every law, but numbers. -/
def R_law : String := "LightDosesLaw"
def lw_P (b : Addr) (xs : List Int32) (args : Array Value) (s : State) : Prop := args = #[.ref b] ∧ s.IntsAt b xs ∧ xs.length ≤ 2048 ∧ (Jvm.Cond.and given_1 narrow_1).before args s = true
def lw_Q (_ : Array Value) (s : State) (o : Outcome) (t : State) : Prop := o = .returned (some (.int 1)) ∧ Framed s o t [] 601024 7293034
def lw_Z (below : List Frame) (a : Array Value) (s : State) : State → Prop := fun t => ∃ o, t.status = .running ∧ Ended t below o ∧ lw_Q a s o t
/-- the law's own end, with 1 on the stack, nothing written that was there before, its room as the claim has it -/
theorem lw_ret {p : Program} {l : Launch} {e : Env} {s : State} {m : MethodId} {below : List Frame} {meth : Method} {c : Code} {b : Nat} (hx : p.tables.exec = Jvm.exec) (hb : c.code = code) (hr : meth.sig.returnType = ret) (hlocks : meth.locks = false) {pc : Nat} {H : Heap} {ls : Array Slot} (hdg : decode code pc = .ok (.ireturn, 1)) : W p l e room_1 s m #[Value.ref b] below meth c H [] 601024 7293034 (lw_Z below #[Value.ref b] s) (F0 m pc ls [.int 1]) := by
  intro T hT X
  obtain ⟨fs, hret, hrun, hended, hW, hframe⟩ := X.leave (v := some (.int 1)) (hlocks := hlocks) (fun h => by rw [hr] at h; cases h)
  have hmeth' : T.vm.method? m = some meth := X.method'
  refine ⟨T.setFrames fs, ?_, .returned (some (.int 1)), hrun, hended, rfl, ⟨_, rfl⟩, hW, hframe⟩
  jvm_step X.here [X.here.top, hx, hb, hdg, hmeth', hr, ret, narrow_b1]
  (try refine ⟨rfl, ?_⟩); (try refine ⟨rfl, ?_⟩)
  first | (intro acts; rw [hret _ acts rfl rfl rfl]) | rw [hret _ _ rfl rfl rfl]
  exact Steps.refl _
/-- what holds at the law's entry: the machine, the code, the tables' words (any of lw_tbl by 'hts w (by decide +kernel)'), the script of L ints xs at the cell b, what the Statement gives of the start (any of its parts by flat_of_before) -/
def lw_At (p : Program) (s : State) (m : MethodId) (meth : Method) (c : Code) (b L : Nat) (xs : Nat → Int32) : Prop :=
  p.tables.exec = Jvm.exec ∧ c.code = code ∧ meth.sig.returnType = ret ∧ c.maxLocals = 7 ∧ s.vm.findClass R_law = some m.cls ∧ (∀ w ∈ lw_tbl, w.before #[Value.ref b] s = true) ∧ va_X b L xs s s.heap ∧ b < s.heap.size ∧ meth.locks = false ∧ (Jvm.Cond.and given_1 narrow_1).before #[Value.ref b] s = true
abbrev MdA : Type := Nat × Nat × Nat × Nat × Nat × Nat × Nat × Nat × Nat × Nat × Nat × Nat × Nat × Nat × Nat × Nat × Nat × Nat × Nat × Nat × Nat × Nat × Nat × Nat
abbrev MdA.a0 (C : MdA) : Nat := C.1
abbrev MdA.a1 (C : MdA) : Nat := C.2.1
abbrev MdA.a2 (C : MdA) : Nat := C.2.2.1
abbrev MdA.a3 (C : MdA) : Nat := C.2.2.2.1
abbrev MdA.a4 (C : MdA) : Nat := C.2.2.2.2.1
abbrev MdA.a5 (C : MdA) : Nat := C.2.2.2.2.2.1
abbrev MdA.a6 (C : MdA) : Nat := C.2.2.2.2.2.2.1
abbrev MdA.a7 (C : MdA) : Nat := C.2.2.2.2.2.2.2.1
abbrev MdA.a8 (C : MdA) : Nat := C.2.2.2.2.2.2.2.2.1
abbrev MdA.a9 (C : MdA) : Nat := C.2.2.2.2.2.2.2.2.2.1
abbrev MdA.a10 (C : MdA) : Nat := C.2.2.2.2.2.2.2.2.2.2.1
abbrev MdA.a11 (C : MdA) : Nat := C.2.2.2.2.2.2.2.2.2.2.2.1
abbrev MdA.a12 (C : MdA) : Nat := C.2.2.2.2.2.2.2.2.2.2.2.2.1
abbrev MdA.a13 (C : MdA) : Nat := C.2.2.2.2.2.2.2.2.2.2.2.2.2.1
abbrev MdA.a14 (C : MdA) : Nat := C.2.2.2.2.2.2.2.2.2.2.2.2.2.2.1
abbrev MdA.a15 (C : MdA) : Nat := C.2.2.2.2.2.2.2.2.2.2.2.2.2.2.2.1
abbrev MdA.a16 (C : MdA) : Nat := C.2.2.2.2.2.2.2.2.2.2.2.2.2.2.2.2.1
abbrev MdA.a17 (C : MdA) : Nat := C.2.2.2.2.2.2.2.2.2.2.2.2.2.2.2.2.2.1
abbrev MdA.a18 (C : MdA) : Nat := C.2.2.2.2.2.2.2.2.2.2.2.2.2.2.2.2.2.2.1
abbrev MdA.a19 (C : MdA) : Nat := C.2.2.2.2.2.2.2.2.2.2.2.2.2.2.2.2.2.2.2.1
abbrev MdA.a20 (C : MdA) : Nat := C.2.2.2.2.2.2.2.2.2.2.2.2.2.2.2.2.2.2.2.2.1
abbrev MdA.a21 (C : MdA) : Nat := C.2.2.2.2.2.2.2.2.2.2.2.2.2.2.2.2.2.2.2.2.2.1
abbrev MdA.a22 (C : MdA) : Nat := C.2.2.2.2.2.2.2.2.2.2.2.2.2.2.2.2.2.2.2.2.2.2.1
abbrev MdA.a23 (C : MdA) : Nat := C.2.2.2.2.2.2.2.2.2.2.2.2.2.2.2.2.2.2.2.2.2.2.2
abbrev MdC : Type := Int × Int × (Nat → Int) × (Nat → Int) × Int × (Nat → Int) × (Nat → Int) × (Nat → Int) × (Nat → Int) × (Nat → Int) × (Nat → Int) × (Nat → Int) × (Nat → Int) × (Nat → Int) × (Nat → Int) × (Nat → Int) × (Nat → Int) × (Nat → Int) × Int × (Nat → Int) × (Nat → Int) × (Nat → Int) × Int × Int × Int × (Nat → Int) × (Nat → Int) × (Nat → Int) × Int × (Nat → Int) × Int × (Nat → Int)
abbrev MdC.th (C : MdC) : Int := C.1
abbrev MdC.no (C : MdC) : Int := C.2.1
abbrev MdC.ca (C : MdC) : Nat → Int := C.2.2.1
abbrev MdC.ba (C : MdC) : Nat → Int := C.2.2.2.1
abbrev MdC.nl (C : MdC) : Int := C.2.2.2.2.1
abbrev MdC.xa (C : MdC) : Nat → Int := C.2.2.2.2.2.1
abbrev MdC.sa (C : MdC) : Nat → Int := C.2.2.2.2.2.2.1
abbrev MdC.da (C : MdC) : Nat → Int := C.2.2.2.2.2.2.2.1
abbrev MdC.la (C : MdC) : Nat → Int := C.2.2.2.2.2.2.2.2.1
abbrev MdC.ra (C : MdC) : Nat → Int := C.2.2.2.2.2.2.2.2.2.1
abbrev MdC.fa (C : MdC) : Nat → Int := C.2.2.2.2.2.2.2.2.2.2.1
abbrev MdC.ta (C : MdC) : Nat → Int := C.2.2.2.2.2.2.2.2.2.2.2.1
abbrev MdC.ua (C : MdC) : Nat → Int := C.2.2.2.2.2.2.2.2.2.2.2.2.1
abbrev MdC.uh (C : MdC) : Nat → Int := C.2.2.2.2.2.2.2.2.2.2.2.2.2.1
abbrev MdC.uo (C : MdC) : Nat → Int := C.2.2.2.2.2.2.2.2.2.2.2.2.2.2.1
abbrev MdC.ma (C : MdC) : Nat → Int := C.2.2.2.2.2.2.2.2.2.2.2.2.2.2.2.1
abbrev MdC.mh (C : MdC) : Nat → Int := C.2.2.2.2.2.2.2.2.2.2.2.2.2.2.2.2.1
abbrev MdC.ml (C : MdC) : Nat → Int := C.2.2.2.2.2.2.2.2.2.2.2.2.2.2.2.2.2.1
abbrev MdC.nf (C : MdC) : Int := C.2.2.2.2.2.2.2.2.2.2.2.2.2.2.2.2.2.2.1
abbrev MdC.fo (C : MdC) : Nat → Int := C.2.2.2.2.2.2.2.2.2.2.2.2.2.2.2.2.2.2.2.1
abbrev MdC.fh (C : MdC) : Nat → Int := C.2.2.2.2.2.2.2.2.2.2.2.2.2.2.2.2.2.2.2.2.1
abbrev MdC.fs (C : MdC) : Nat → Int := C.2.2.2.2.2.2.2.2.2.2.2.2.2.2.2.2.2.2.2.2.2.1
abbrev MdC.rs (C : MdC) : Int := C.2.2.2.2.2.2.2.2.2.2.2.2.2.2.2.2.2.2.2.2.2.2.1
abbrev MdC.ic (C : MdC) : Int := C.2.2.2.2.2.2.2.2.2.2.2.2.2.2.2.2.2.2.2.2.2.2.2.1
abbrev MdC.mn (C : MdC) : Int := C.2.2.2.2.2.2.2.2.2.2.2.2.2.2.2.2.2.2.2.2.2.2.2.2.1
abbrev MdC.bh (C : MdC) : Nat → Int := C.2.2.2.2.2.2.2.2.2.2.2.2.2.2.2.2.2.2.2.2.2.2.2.2.2.1
abbrev MdC.bo (C : MdC) : Nat → Int := C.2.2.2.2.2.2.2.2.2.2.2.2.2.2.2.2.2.2.2.2.2.2.2.2.2.2.1
abbrev MdC.ya (C : MdC) : Nat → Int := C.2.2.2.2.2.2.2.2.2.2.2.2.2.2.2.2.2.2.2.2.2.2.2.2.2.2.2.1
abbrev MdC.np (C : MdC) : Int := C.2.2.2.2.2.2.2.2.2.2.2.2.2.2.2.2.2.2.2.2.2.2.2.2.2.2.2.2.1
abbrev MdC.pa (C : MdC) : Nat → Int := C.2.2.2.2.2.2.2.2.2.2.2.2.2.2.2.2.2.2.2.2.2.2.2.2.2.2.2.2.2.1
abbrev MdC.nc (C : MdC) : Int := C.2.2.2.2.2.2.2.2.2.2.2.2.2.2.2.2.2.2.2.2.2.2.2.2.2.2.2.2.2.2.1
abbrev MdC.cp (C : MdC) : Nat → Int := C.2.2.2.2.2.2.2.2.2.2.2.2.2.2.2.2.2.2.2.2.2.2.2.2.2.2.2.2.2.2.2
abbrev wMdS (cI cJ cZ : ClassId) (BB : MdA) (MM : MdC) : va_W := wMd cI cJ cZ BB.a0 BB.a1 BB.a2 BB.a3 BB.a4 BB.a5 BB.a6 BB.a7 BB.a8 BB.a9 BB.a10 BB.a11 BB.a12 BB.a13 BB.a14 BB.a15 BB.a16 BB.a17 BB.a18 BB.a19 BB.a20 BB.a21 BB.a22 BB.a23 MM.th MM.no MM.ca MM.ba MM.nl MM.xa MM.sa MM.da MM.la MM.ra MM.fa MM.ta MM.ua MM.uh MM.uo MM.ma MM.mh MM.ml MM.nf MM.fo MM.fh MM.fs MM.rs MM.ic MM.mn MM.bh MM.bo MM.ya MM.np MM.pa MM.nc MM.cp
def LwF (p : Program) (l : Launch) (s : State) (m : MethodId) (meth : Method) (c : Code) (b L : Nat) (xs : Nat → Int32) (D : va_G) (cI cJ cO cZ : ClassId) (qd mi : Nat) : Prop :=
  p.tables.exec = Jvm.exec ∧ c.code = code ∧ c.maxLocals = 7 ∧ s.vm.findClass "LightDosesLaw" = some m.cls ∧ (∀ w ∈ TG, w.before #[Value.ref b] s = true) ∧ va_X b L xs s s.heap ∧ b < s.heap.size ∧ va_K D vwCl (tyx cI cJ cO cZ) s ∧ EvZ qd mi s ∧ EvN s ∧ ∀ e : Env, l.admits e → e.platform.stackTraces = false
theorem Ev.rf (s : State) : Ev s s := ⟨State.WarmedH.refl s, Nat.le_refl _, fun _ _ => rfl⟩
theorem nv_forget {p : Program} {l : Launch} {e : Env} {R : Room} {s : State} {m : MethodId} {args : Array Value} {below : List Frame} {meth : Method} {c : Code} {H : Heap} {locs : List Loc} {cells slots : Nat} {Q : State → Prop} {g : JFrame} (hS : va_S (fun q => s.heap.size ≤ q) s.heap H locs) (k : va_S (fun q => s.heap.size ≤ q) s.heap H [] → W p l e R s m args below meth c H [] cells slots Q g) : W p l e R s m args below meth c H locs cells slots Q g :=
  fun T hT X => k ⟨hS.1, hS.2.1, fun q h => by cases h⟩ T hT (Stand.forget (locs := []) (extra := locs) X (fun y hy => hS.2.2 y hy))
theorem nv_sld {p : Program} {l : Launch} {e : Env} {R : Room} {s : State} {m : MethodId} {args : Array Value} {below : List Frame} {meth : Method} {c : Code} {H : Heap} {locs : List Loc} {cells slots : Nat} {Q : State → Prop} {cc : ByteArray} {pc : Nat} {ls : Array Slot} {rest : List Value} {A : Nat → Prop} {H0 : Heap} (hexec : p.tables.exec = Jvm.exec) (hb : c.code = cc) {b L : Nat} {xs : Nat → Int32} (hX : va_X b L xs s H0) (hbl : b < H0.size) (hbA : ¬ A b) (hS : va_S A H0 H locs) {z x : Int} (k : Nat) (hz : z = (k : Int)) (hk : k < L) (hL : L < 2147483648) (hx : xs k = iI x) (hdg : decode cc pc = .ok (.iaload, 1))
    (kk : W p l e R s m args below meth c H locs cells slots Q (F0 m (pc + 1) ls (.int (iI x) :: rest))) : W p l e R s m args below meth c H locs cells slots Q (F0 m pc ls (.int (iI z) :: .ref b :: rest)) :=
  va_sld hexec hb hX hbl hbA hS (iI_in hz hk hL) hdg (by rw [iI_clamp hz (by omega), hx]; exact kk)
theorem d_law_0 : decode code 0 = .ok (.new 8, 3) := by decide +kernel
theorem d_law_3 : decode code 3 = .ok (.dup, 1) := by decide +kernel
theorem d_law_4 : decode code 4 = .ok (.invokespecial 70, 3) := by decide +kernel
theorem d_law_7 : decode code 7 = .ok (.astore_n 1, 1) := by decide +kernel
theorem d_law_8 : decode code 8 = .ok (.new 71, 3) := by decide +kernel
theorem d_law_11 : decode code 11 = .ok (.dup, 1) := by decide +kernel
theorem d_law_12 : decode code 12 = .ok (.invokespecial 73, 3) := by decide +kernel
theorem d_law_15 : decode code 15 = .ok (.astore_n 2, 1) := by decide +kernel
theorem d_law_16 : decode code 16 = .ok (.iconst 1, 1) := by decide +kernel
theorem d_law_17 : decode code 17 = .ok (.newarray .long, 2) := by decide +kernel
theorem d_law_19 : decode code 19 = .ok (.astore_n 3, 1) := by decide +kernel
theorem d_law_20 : decode code 20 = .ok (.iconst 0, 1) := by decide +kernel
theorem d_law_21 : decode code 21 = .ok (.istore 4, 2) := by decide +kernel
theorem d_law_23 : decode code 23 = .ok (.iload 4, 2) := by decide +kernel
theorem d_law_25 : decode code 25 = .ok (.aload_n 0, 1) := by decide +kernel
theorem d_law_26 : decode code 26 = .ok (.arraylength, 1) := by decide +kernel
theorem d_law_27 : decode code 27 = .ok (.iconst 4, 1) := by decide +kernel
theorem d_law_28 : decode code 28 = .ok (.isub, 1) := by decide +kernel
theorem d_law_29 : decode code 29 = .ok (.if_icmp .gt 1315, 3) := by decide +kernel
theorem d_law_32 : decode code 32 = .ok (.aload_n 0, 1) := by decide +kernel
theorem d_law_33 : decode code 33 = .ok (.iload 4, 2) := by decide +kernel
theorem d_law_35 : decode code 35 = .ok (.iaload, 1) := by decide +kernel
theorem d_law_36 : decode code 36 = .ok (.bipush 31, 2) := by decide +kernel
theorem d_law_38 : decode code 38 = .ok (.iand, 1) := by decide +kernel
theorem d_law_39 : decode code 39 = .ok (.tableswitch 1299 0 18 #[89, 145, 213, 269, 349, 417, 497, 593, 673, 753, 833, 846, 914, 994, 1007, 1075, 1131, 1187, 1243], 89) := by decide +kernel
theorem d_law_128 : decode code 128 = .ok (.aload_n 1, 1) := by decide +kernel
theorem d_law_129 : decode code 129 = .ok (.aload_n 0, 1) := by decide +kernel
theorem d_law_130 : decode code 130 = .ok (.iload 4, 2) := by decide +kernel
theorem d_law_132 : decode code 132 = .ok (.iconst 1, 1) := by decide +kernel
theorem d_law_133 : decode code 133 = .ok (.iadd, 1) := by decide +kernel
theorem d_law_134 : decode code 134 = .ok (.iaload, 1) := by decide +kernel
theorem d_law_135 : decode code 135 = .ok (.aload_n 3, 1) := by decide +kernel
theorem d_law_136 : decode code 136 = .ok (.invokestatic 74, 3) := by decide +kernel
theorem d_law_139 : decode code 139 = .ok (.istore 5, 2) := by decide +kernel
theorem d_law_141 : decode code 141 = .ok (.aload_n 2, 1) := by decide +kernel
theorem d_law_142 : decode code 142 = .ok (.aload_n 0, 1) := by decide +kernel
theorem d_law_143 : decode code 143 = .ok (.iload 4, 2) := by decide +kernel
theorem d_law_145 : decode code 145 = .ok (.iconst 1, 1) := by decide +kernel
theorem d_law_146 : decode code 146 = .ok (.iadd, 1) := by decide +kernel
theorem d_law_147 : decode code 147 = .ok (.iaload, 1) := by decide +kernel
theorem d_law_148 : decode code 148 = .ok (.invokevirtual 79, 3) := by decide +kernel
theorem d_law_151 : decode code 151 = .ok (.istore 6, 2) := by decide +kernel
theorem d_law_153 : decode code 153 = .ok (.aload_n 2, 1) := by decide +kernel
theorem d_law_154 : decode code 154 = .ok (.invokevirtual 80, 3) := by decide +kernel
theorem d_law_157 : decode code 157 = .ok (.iload 5, 2) := by decide +kernel
theorem d_law_159 : decode code 159 = .ok (.if_icmp .eq 5, 3) := by decide +kernel
theorem d_law_162 : decode code 162 = .ok (.iconst 0, 1) := by decide +kernel
theorem d_law_163 : decode code 163 = .ok (.ireturn, 1) := by decide +kernel
theorem d_law_164 : decode code 164 = .ok (.iload 5, 2) := by decide +kernel
theorem d_law_166 : decode code 166 = .ok (.ifCond .ne 15, 3) := by decide +kernel
theorem d_law_169 : decode code 169 = .ok (.aload_n 3, 1) := by decide +kernel
theorem d_law_170 : decode code 170 = .ok (.iconst 0, 1) := by decide +kernel
theorem d_law_171 : decode code 171 = .ok (.laload, 1) := by decide +kernel
theorem d_law_172 : decode code 172 = .ok (.iload 6, 2) := by decide +kernel
theorem d_law_174 : decode code 174 = .ok (.i2l, 1) := by decide +kernel
theorem d_law_175 : decode code 175 = .ok (.lcmp, 1) := by decide +kernel
theorem d_law_176 : decode code 176 = .ok (.ifCond .eq 5, 3) := by decide +kernel
theorem d_law_179 : decode code 179 = .ok (.iconst 0, 1) := by decide +kernel
theorem d_law_180 : decode code 180 = .ok (.ireturn, 1) := by decide +kernel
theorem d_law_181 : decode code 181 = .ok (.goto 1157, 3) := by decide +kernel
theorem d_law_184 : decode code 184 = .ok (.aload_n 1, 1) := by decide +kernel
theorem d_law_185 : decode code 185 = .ok (.aload_n 0, 1) := by decide +kernel
theorem d_law_186 : decode code 186 = .ok (.iload 4, 2) := by decide +kernel
theorem d_law_188 : decode code 188 = .ok (.iconst 1, 1) := by decide +kernel
theorem d_law_189 : decode code 189 = .ok (.iadd, 1) := by decide +kernel
theorem d_law_190 : decode code 190 = .ok (.iaload, 1) := by decide +kernel
theorem d_law_191 : decode code 191 = .ok (.aload_n 0, 1) := by decide +kernel
theorem d_law_192 : decode code 192 = .ok (.iload 4, 2) := by decide +kernel
theorem d_law_194 : decode code 194 = .ok (.iconst 2, 1) := by decide +kernel
theorem d_law_195 : decode code 195 = .ok (.iadd, 1) := by decide +kernel
theorem d_law_196 : decode code 196 = .ok (.iaload, 1) := by decide +kernel
theorem d_law_197 : decode code 197 = .ok (.aload_n 3, 1) := by decide +kernel
theorem d_law_198 : decode code 198 = .ok (.invokestatic 84, 3) := by decide +kernel
theorem d_law_201 : decode code 201 = .ok (.istore 5, 2) := by decide +kernel
theorem d_law_203 : decode code 203 = .ok (.aload_n 2, 1) := by decide +kernel
theorem d_law_204 : decode code 204 = .ok (.aload_n 0, 1) := by decide +kernel
theorem d_law_205 : decode code 205 = .ok (.iload 4, 2) := by decide +kernel
theorem d_law_207 : decode code 207 = .ok (.iconst 1, 1) := by decide +kernel
theorem d_law_208 : decode code 208 = .ok (.iadd, 1) := by decide +kernel
theorem d_law_209 : decode code 209 = .ok (.iaload, 1) := by decide +kernel
theorem d_law_210 : decode code 210 = .ok (.aload_n 0, 1) := by decide +kernel
theorem d_law_211 : decode code 211 = .ok (.iload 4, 2) := by decide +kernel
theorem d_law_213 : decode code 213 = .ok (.iconst 2, 1) := by decide +kernel
theorem d_law_214 : decode code 214 = .ok (.iadd, 1) := by decide +kernel
theorem d_law_215 : decode code 215 = .ok (.iaload, 1) := by decide +kernel
theorem d_law_216 : decode code 216 = .ok (.invokevirtual 87, 3) := by decide +kernel
theorem d_law_219 : decode code 219 = .ok (.istore 6, 2) := by decide +kernel
theorem d_law_221 : decode code 221 = .ok (.aload_n 2, 1) := by decide +kernel
theorem d_law_222 : decode code 222 = .ok (.invokevirtual 80, 3) := by decide +kernel
theorem d_law_225 : decode code 225 = .ok (.iload 5, 2) := by decide +kernel
theorem d_law_227 : decode code 227 = .ok (.if_icmp .eq 5, 3) := by decide +kernel
theorem d_law_230 : decode code 230 = .ok (.iconst 0, 1) := by decide +kernel
theorem d_law_231 : decode code 231 = .ok (.ireturn, 1) := by decide +kernel
theorem d_law_232 : decode code 232 = .ok (.iload 5, 2) := by decide +kernel
theorem d_law_234 : decode code 234 = .ok (.ifCond .ne 15, 3) := by decide +kernel
theorem d_law_237 : decode code 237 = .ok (.aload_n 3, 1) := by decide +kernel
theorem d_law_238 : decode code 238 = .ok (.iconst 0, 1) := by decide +kernel
theorem d_law_239 : decode code 239 = .ok (.laload, 1) := by decide +kernel
theorem d_law_240 : decode code 240 = .ok (.iload 6, 2) := by decide +kernel
theorem d_law_242 : decode code 242 = .ok (.i2l, 1) := by decide +kernel
theorem d_law_243 : decode code 243 = .ok (.lcmp, 1) := by decide +kernel
theorem d_law_244 : decode code 244 = .ok (.ifCond .eq 5, 3) := by decide +kernel
theorem d_law_247 : decode code 247 = .ok (.iconst 0, 1) := by decide +kernel
theorem d_law_248 : decode code 248 = .ok (.ireturn, 1) := by decide +kernel
theorem d_law_249 : decode code 249 = .ok (.goto 1089, 3) := by decide +kernel
theorem d_law_252 : decode code 252 = .ok (.aload_n 1, 1) := by decide +kernel
theorem d_law_253 : decode code 253 = .ok (.aload_n 0, 1) := by decide +kernel
theorem d_law_254 : decode code 254 = .ok (.iload 4, 2) := by decide +kernel
theorem d_law_256 : decode code 256 = .ok (.iconst 1, 1) := by decide +kernel
theorem d_law_257 : decode code 257 = .ok (.iadd, 1) := by decide +kernel
theorem d_law_258 : decode code 258 = .ok (.iaload, 1) := by decide +kernel
theorem d_law_259 : decode code 259 = .ok (.aload_n 3, 1) := by decide +kernel
theorem d_law_260 : decode code 260 = .ok (.invokestatic 88, 3) := by decide +kernel
theorem d_law_263 : decode code 263 = .ok (.istore 5, 2) := by decide +kernel
theorem d_law_265 : decode code 265 = .ok (.aload_n 2, 1) := by decide +kernel
theorem d_law_266 : decode code 266 = .ok (.aload_n 0, 1) := by decide +kernel
theorem d_law_267 : decode code 267 = .ok (.iload 4, 2) := by decide +kernel
theorem d_law_269 : decode code 269 = .ok (.iconst 1, 1) := by decide +kernel
theorem d_law_270 : decode code 270 = .ok (.iadd, 1) := by decide +kernel
theorem d_law_271 : decode code 271 = .ok (.iaload, 1) := by decide +kernel
theorem d_law_272 : decode code 272 = .ok (.invokevirtual 90, 3) := by decide +kernel
theorem d_law_275 : decode code 275 = .ok (.istore 6, 2) := by decide +kernel
theorem d_law_277 : decode code 277 = .ok (.aload_n 2, 1) := by decide +kernel
theorem d_law_278 : decode code 278 = .ok (.invokevirtual 80, 3) := by decide +kernel
theorem d_law_281 : decode code 281 = .ok (.iload 5, 2) := by decide +kernel
theorem d_law_283 : decode code 283 = .ok (.if_icmp .eq 5, 3) := by decide +kernel
theorem d_law_286 : decode code 286 = .ok (.iconst 0, 1) := by decide +kernel
theorem d_law_287 : decode code 287 = .ok (.ireturn, 1) := by decide +kernel
theorem d_law_288 : decode code 288 = .ok (.iload 5, 2) := by decide +kernel
theorem d_law_290 : decode code 290 = .ok (.ifCond .ne 15, 3) := by decide +kernel
theorem d_law_293 : decode code 293 = .ok (.aload_n 3, 1) := by decide +kernel
theorem d_law_294 : decode code 294 = .ok (.iconst 0, 1) := by decide +kernel
theorem d_law_295 : decode code 295 = .ok (.laload, 1) := by decide +kernel
theorem d_law_296 : decode code 296 = .ok (.iload 6, 2) := by decide +kernel
theorem d_law_298 : decode code 298 = .ok (.i2l, 1) := by decide +kernel
theorem d_law_299 : decode code 299 = .ok (.lcmp, 1) := by decide +kernel
theorem d_law_300 : decode code 300 = .ok (.ifCond .eq 5, 3) := by decide +kernel
theorem d_law_303 : decode code 303 = .ok (.iconst 0, 1) := by decide +kernel
theorem d_law_304 : decode code 304 = .ok (.ireturn, 1) := by decide +kernel
theorem d_law_305 : decode code 305 = .ok (.goto 1033, 3) := by decide +kernel
theorem d_law_308 : decode code 308 = .ok (.aload_n 1, 1) := by decide +kernel
theorem d_law_309 : decode code 309 = .ok (.aload_n 0, 1) := by decide +kernel
theorem d_law_310 : decode code 310 = .ok (.iload 4, 2) := by decide +kernel
theorem d_law_312 : decode code 312 = .ok (.iconst 1, 1) := by decide +kernel
theorem d_law_313 : decode code 313 = .ok (.iadd, 1) := by decide +kernel
theorem d_law_314 : decode code 314 = .ok (.iaload, 1) := by decide +kernel
theorem d_law_315 : decode code 315 = .ok (.aload_n 0, 1) := by decide +kernel
theorem d_law_316 : decode code 316 = .ok (.iload 4, 2) := by decide +kernel
theorem d_law_318 : decode code 318 = .ok (.iconst 2, 1) := by decide +kernel
theorem d_law_319 : decode code 319 = .ok (.iadd, 1) := by decide +kernel
theorem d_law_320 : decode code 320 = .ok (.iaload, 1) := by decide +kernel
theorem d_law_321 : decode code 321 = .ok (.aload_n 0, 1) := by decide +kernel
theorem d_law_322 : decode code 322 = .ok (.iload 4, 2) := by decide +kernel
theorem d_law_324 : decode code 324 = .ok (.iconst 3, 1) := by decide +kernel
theorem d_law_325 : decode code 325 = .ok (.iadd, 1) := by decide +kernel
theorem d_law_326 : decode code 326 = .ok (.iaload, 1) := by decide +kernel
theorem d_law_327 : decode code 327 = .ok (.aload_n 3, 1) := by decide +kernel
theorem d_law_328 : decode code 328 = .ok (.invokestatic 91, 3) := by decide +kernel
theorem d_law_331 : decode code 331 = .ok (.istore 5, 2) := by decide +kernel
theorem d_law_333 : decode code 333 = .ok (.aload_n 2, 1) := by decide +kernel
theorem d_law_334 : decode code 334 = .ok (.aload_n 0, 1) := by decide +kernel
theorem d_law_335 : decode code 335 = .ok (.iload 4, 2) := by decide +kernel
theorem d_law_337 : decode code 337 = .ok (.iconst 1, 1) := by decide +kernel
theorem d_law_338 : decode code 338 = .ok (.iadd, 1) := by decide +kernel
theorem d_law_339 : decode code 339 = .ok (.iaload, 1) := by decide +kernel
theorem d_law_340 : decode code 340 = .ok (.aload_n 0, 1) := by decide +kernel
theorem d_law_341 : decode code 341 = .ok (.iload 4, 2) := by decide +kernel
theorem d_law_343 : decode code 343 = .ok (.iconst 2, 1) := by decide +kernel
theorem d_law_344 : decode code 344 = .ok (.iadd, 1) := by decide +kernel
theorem d_law_345 : decode code 345 = .ok (.iaload, 1) := by decide +kernel
theorem d_law_346 : decode code 346 = .ok (.aload_n 0, 1) := by decide +kernel
theorem d_law_347 : decode code 347 = .ok (.iload 4, 2) := by decide +kernel
theorem d_law_349 : decode code 349 = .ok (.iconst 3, 1) := by decide +kernel
theorem d_law_350 : decode code 350 = .ok (.iadd, 1) := by decide +kernel
theorem d_law_351 : decode code 351 = .ok (.iaload, 1) := by decide +kernel
theorem d_law_352 : decode code 352 = .ok (.invokevirtual 94, 3) := by decide +kernel
theorem d_law_355 : decode code 355 = .ok (.istore 6, 2) := by decide +kernel
theorem d_law_357 : decode code 357 = .ok (.aload_n 2, 1) := by decide +kernel
theorem d_law_358 : decode code 358 = .ok (.invokevirtual 80, 3) := by decide +kernel
theorem d_law_361 : decode code 361 = .ok (.iload 5, 2) := by decide +kernel
theorem d_law_363 : decode code 363 = .ok (.if_icmp .eq 5, 3) := by decide +kernel
theorem d_law_366 : decode code 366 = .ok (.iconst 0, 1) := by decide +kernel
theorem d_law_367 : decode code 367 = .ok (.ireturn, 1) := by decide +kernel
theorem d_law_368 : decode code 368 = .ok (.iload 5, 2) := by decide +kernel
theorem d_law_370 : decode code 370 = .ok (.ifCond .ne 15, 3) := by decide +kernel
theorem d_law_373 : decode code 373 = .ok (.aload_n 3, 1) := by decide +kernel
theorem d_law_374 : decode code 374 = .ok (.iconst 0, 1) := by decide +kernel
theorem d_law_375 : decode code 375 = .ok (.laload, 1) := by decide +kernel
theorem d_law_376 : decode code 376 = .ok (.iload 6, 2) := by decide +kernel
theorem d_law_378 : decode code 378 = .ok (.i2l, 1) := by decide +kernel
theorem d_law_379 : decode code 379 = .ok (.lcmp, 1) := by decide +kernel
theorem d_law_380 : decode code 380 = .ok (.ifCond .eq 5, 3) := by decide +kernel
theorem d_law_383 : decode code 383 = .ok (.iconst 0, 1) := by decide +kernel
theorem d_law_384 : decode code 384 = .ok (.ireturn, 1) := by decide +kernel
theorem d_law_385 : decode code 385 = .ok (.goto 953, 3) := by decide +kernel
theorem d_law_388 : decode code 388 = .ok (.aload_n 1, 1) := by decide +kernel
theorem d_law_389 : decode code 389 = .ok (.aload_n 0, 1) := by decide +kernel
theorem d_law_390 : decode code 390 = .ok (.iload 4, 2) := by decide +kernel
theorem d_law_392 : decode code 392 = .ok (.iconst 1, 1) := by decide +kernel
theorem d_law_393 : decode code 393 = .ok (.iadd, 1) := by decide +kernel
theorem d_law_394 : decode code 394 = .ok (.iaload, 1) := by decide +kernel
theorem d_law_395 : decode code 395 = .ok (.aload_n 0, 1) := by decide +kernel
theorem d_law_396 : decode code 396 = .ok (.iload 4, 2) := by decide +kernel
theorem d_law_398 : decode code 398 = .ok (.iconst 2, 1) := by decide +kernel
theorem d_law_399 : decode code 399 = .ok (.iadd, 1) := by decide +kernel
theorem d_law_400 : decode code 400 = .ok (.iaload, 1) := by decide +kernel
theorem d_law_401 : decode code 401 = .ok (.aload_n 3, 1) := by decide +kernel
theorem d_law_402 : decode code 402 = .ok (.invokestatic 95, 3) := by decide +kernel
theorem d_law_405 : decode code 405 = .ok (.istore 5, 2) := by decide +kernel
theorem d_law_407 : decode code 407 = .ok (.aload_n 2, 1) := by decide +kernel
theorem d_law_408 : decode code 408 = .ok (.aload_n 0, 1) := by decide +kernel
theorem d_law_409 : decode code 409 = .ok (.iload 4, 2) := by decide +kernel
theorem d_law_411 : decode code 411 = .ok (.iconst 1, 1) := by decide +kernel
theorem d_law_412 : decode code 412 = .ok (.iadd, 1) := by decide +kernel
theorem d_law_413 : decode code 413 = .ok (.iaload, 1) := by decide +kernel
theorem d_law_414 : decode code 414 = .ok (.aload_n 0, 1) := by decide +kernel
theorem d_law_415 : decode code 415 = .ok (.iload 4, 2) := by decide +kernel
theorem d_law_417 : decode code 417 = .ok (.iconst 2, 1) := by decide +kernel
theorem d_law_418 : decode code 418 = .ok (.iadd, 1) := by decide +kernel
theorem d_law_419 : decode code 419 = .ok (.iaload, 1) := by decide +kernel
theorem d_law_420 : decode code 420 = .ok (.invokevirtual 97, 3) := by decide +kernel
theorem d_law_423 : decode code 423 = .ok (.istore 6, 2) := by decide +kernel
theorem d_law_425 : decode code 425 = .ok (.aload_n 2, 1) := by decide +kernel
theorem d_law_426 : decode code 426 = .ok (.invokevirtual 80, 3) := by decide +kernel
theorem d_law_429 : decode code 429 = .ok (.iload 5, 2) := by decide +kernel
theorem d_law_431 : decode code 431 = .ok (.if_icmp .eq 5, 3) := by decide +kernel
theorem d_law_434 : decode code 434 = .ok (.iconst 0, 1) := by decide +kernel
theorem d_law_435 : decode code 435 = .ok (.ireturn, 1) := by decide +kernel
theorem d_law_436 : decode code 436 = .ok (.iload 5, 2) := by decide +kernel
theorem d_law_438 : decode code 438 = .ok (.ifCond .ne 15, 3) := by decide +kernel
theorem d_law_441 : decode code 441 = .ok (.aload_n 3, 1) := by decide +kernel
theorem d_law_442 : decode code 442 = .ok (.iconst 0, 1) := by decide +kernel
theorem d_law_443 : decode code 443 = .ok (.laload, 1) := by decide +kernel
theorem d_law_444 : decode code 444 = .ok (.iload 6, 2) := by decide +kernel
theorem d_law_446 : decode code 446 = .ok (.i2l, 1) := by decide +kernel
theorem d_law_447 : decode code 447 = .ok (.lcmp, 1) := by decide +kernel
theorem d_law_448 : decode code 448 = .ok (.ifCond .eq 5, 3) := by decide +kernel
theorem d_law_451 : decode code 451 = .ok (.iconst 0, 1) := by decide +kernel
theorem d_law_452 : decode code 452 = .ok (.ireturn, 1) := by decide +kernel
theorem d_law_453 : decode code 453 = .ok (.goto 885, 3) := by decide +kernel
theorem d_law_456 : decode code 456 = .ok (.aload_n 1, 1) := by decide +kernel
theorem d_law_457 : decode code 457 = .ok (.aload_n 0, 1) := by decide +kernel
theorem d_law_458 : decode code 458 = .ok (.iload 4, 2) := by decide +kernel
theorem d_law_460 : decode code 460 = .ok (.iconst 1, 1) := by decide +kernel
theorem d_law_461 : decode code 461 = .ok (.iadd, 1) := by decide +kernel
theorem d_law_462 : decode code 462 = .ok (.iaload, 1) := by decide +kernel
theorem d_law_463 : decode code 463 = .ok (.aload_n 0, 1) := by decide +kernel
theorem d_law_464 : decode code 464 = .ok (.iload 4, 2) := by decide +kernel
theorem d_law_466 : decode code 466 = .ok (.iconst 2, 1) := by decide +kernel
theorem d_law_467 : decode code 467 = .ok (.iadd, 1) := by decide +kernel
theorem d_law_468 : decode code 468 = .ok (.iaload, 1) := by decide +kernel
theorem d_law_469 : decode code 469 = .ok (.aload_n 0, 1) := by decide +kernel
theorem d_law_470 : decode code 470 = .ok (.iload 4, 2) := by decide +kernel
theorem d_law_472 : decode code 472 = .ok (.iconst 3, 1) := by decide +kernel
theorem d_law_473 : decode code 473 = .ok (.iadd, 1) := by decide +kernel
theorem d_law_474 : decode code 474 = .ok (.iaload, 1) := by decide +kernel
theorem d_law_475 : decode code 475 = .ok (.aload_n 3, 1) := by decide +kernel
theorem d_law_476 : decode code 476 = .ok (.invokestatic 98, 3) := by decide +kernel
theorem d_law_479 : decode code 479 = .ok (.istore 5, 2) := by decide +kernel
theorem d_law_481 : decode code 481 = .ok (.aload_n 2, 1) := by decide +kernel
theorem d_law_482 : decode code 482 = .ok (.aload_n 0, 1) := by decide +kernel
theorem d_law_483 : decode code 483 = .ok (.iload 4, 2) := by decide +kernel
theorem d_law_485 : decode code 485 = .ok (.iconst 1, 1) := by decide +kernel
theorem d_law_486 : decode code 486 = .ok (.iadd, 1) := by decide +kernel
theorem d_law_487 : decode code 487 = .ok (.iaload, 1) := by decide +kernel
theorem d_law_488 : decode code 488 = .ok (.aload_n 0, 1) := by decide +kernel
theorem d_law_489 : decode code 489 = .ok (.iload 4, 2) := by decide +kernel
theorem d_law_491 : decode code 491 = .ok (.iconst 2, 1) := by decide +kernel
theorem d_law_492 : decode code 492 = .ok (.iadd, 1) := by decide +kernel
theorem d_law_493 : decode code 493 = .ok (.iaload, 1) := by decide +kernel
theorem d_law_494 : decode code 494 = .ok (.aload_n 0, 1) := by decide +kernel
theorem d_law_495 : decode code 495 = .ok (.iload 4, 2) := by decide +kernel
theorem d_law_497 : decode code 497 = .ok (.iconst 3, 1) := by decide +kernel
theorem d_law_498 : decode code 498 = .ok (.iadd, 1) := by decide +kernel
theorem d_law_499 : decode code 499 = .ok (.iaload, 1) := by decide +kernel
theorem d_law_500 : decode code 500 = .ok (.invokevirtual 100, 3) := by decide +kernel
theorem d_law_503 : decode code 503 = .ok (.istore 6, 2) := by decide +kernel
theorem d_law_505 : decode code 505 = .ok (.aload_n 2, 1) := by decide +kernel
theorem d_law_506 : decode code 506 = .ok (.invokevirtual 80, 3) := by decide +kernel
theorem d_law_509 : decode code 509 = .ok (.iload 5, 2) := by decide +kernel
theorem d_law_511 : decode code 511 = .ok (.if_icmp .eq 5, 3) := by decide +kernel
theorem d_law_514 : decode code 514 = .ok (.iconst 0, 1) := by decide +kernel
theorem d_law_515 : decode code 515 = .ok (.ireturn, 1) := by decide +kernel
theorem d_law_516 : decode code 516 = .ok (.iload 5, 2) := by decide +kernel
theorem d_law_518 : decode code 518 = .ok (.ifCond .ne 15, 3) := by decide +kernel
theorem d_law_521 : decode code 521 = .ok (.aload_n 3, 1) := by decide +kernel
theorem d_law_522 : decode code 522 = .ok (.iconst 0, 1) := by decide +kernel
theorem d_law_523 : decode code 523 = .ok (.laload, 1) := by decide +kernel
theorem d_law_524 : decode code 524 = .ok (.iload 6, 2) := by decide +kernel
theorem d_law_526 : decode code 526 = .ok (.i2l, 1) := by decide +kernel
theorem d_law_527 : decode code 527 = .ok (.lcmp, 1) := by decide +kernel
theorem d_law_528 : decode code 528 = .ok (.ifCond .eq 5, 3) := by decide +kernel
theorem d_law_531 : decode code 531 = .ok (.iconst 0, 1) := by decide +kernel
theorem d_law_532 : decode code 532 = .ok (.ireturn, 1) := by decide +kernel
theorem d_law_533 : decode code 533 = .ok (.goto 805, 3) := by decide +kernel
theorem d_law_536 : decode code 536 = .ok (.aload_n 1, 1) := by decide +kernel
theorem d_law_537 : decode code 537 = .ok (.aload_n 0, 1) := by decide +kernel
theorem d_law_538 : decode code 538 = .ok (.iload 4, 2) := by decide +kernel
theorem d_law_540 : decode code 540 = .ok (.iconst 1, 1) := by decide +kernel
theorem d_law_541 : decode code 541 = .ok (.iadd, 1) := by decide +kernel
theorem d_law_542 : decode code 542 = .ok (.iaload, 1) := by decide +kernel
theorem d_law_543 : decode code 543 = .ok (.aload_n 0, 1) := by decide +kernel
theorem d_law_544 : decode code 544 = .ok (.iload 4, 2) := by decide +kernel
theorem d_law_546 : decode code 546 = .ok (.iconst 2, 1) := by decide +kernel
theorem d_law_547 : decode code 547 = .ok (.iadd, 1) := by decide +kernel
theorem d_law_548 : decode code 548 = .ok (.iaload, 1) := by decide +kernel
theorem d_law_549 : decode code 549 = .ok (.aload_n 0, 1) := by decide +kernel
theorem d_law_550 : decode code 550 = .ok (.iload 4, 2) := by decide +kernel
theorem d_law_552 : decode code 552 = .ok (.iconst 3, 1) := by decide +kernel
theorem d_law_553 : decode code 553 = .ok (.iadd, 1) := by decide +kernel
theorem d_law_554 : decode code 554 = .ok (.iaload, 1) := by decide +kernel
theorem d_law_555 : decode code 555 = .ok (.ifCond .eq 7, 3) := by decide +kernel
theorem d_law_558 : decode code 558 = .ok (.iconst 1, 1) := by decide +kernel
theorem d_law_559 : decode code 559 = .ok (.goto 4, 3) := by decide +kernel
theorem d_law_562 : decode code 562 = .ok (.iconst 0, 1) := by decide +kernel
theorem d_law_563 : decode code 563 = .ok (.aload_n 3, 1) := by decide +kernel
theorem d_law_564 : decode code 564 = .ok (.invokestatic 101, 3) := by decide +kernel
theorem d_law_567 : decode code 567 = .ok (.istore 5, 2) := by decide +kernel
theorem d_law_569 : decode code 569 = .ok (.aload_n 2, 1) := by decide +kernel
theorem d_law_570 : decode code 570 = .ok (.aload_n 0, 1) := by decide +kernel
theorem d_law_571 : decode code 571 = .ok (.iload 4, 2) := by decide +kernel
theorem d_law_573 : decode code 573 = .ok (.iconst 1, 1) := by decide +kernel
theorem d_law_574 : decode code 574 = .ok (.iadd, 1) := by decide +kernel
theorem d_law_575 : decode code 575 = .ok (.iaload, 1) := by decide +kernel
theorem d_law_576 : decode code 576 = .ok (.aload_n 0, 1) := by decide +kernel
theorem d_law_577 : decode code 577 = .ok (.iload 4, 2) := by decide +kernel
theorem d_law_579 : decode code 579 = .ok (.iconst 2, 1) := by decide +kernel
theorem d_law_580 : decode code 580 = .ok (.iadd, 1) := by decide +kernel
theorem d_law_581 : decode code 581 = .ok (.iaload, 1) := by decide +kernel
theorem d_law_582 : decode code 582 = .ok (.aload_n 0, 1) := by decide +kernel
theorem d_law_583 : decode code 583 = .ok (.iload 4, 2) := by decide +kernel
theorem d_law_585 : decode code 585 = .ok (.iconst 3, 1) := by decide +kernel
theorem d_law_586 : decode code 586 = .ok (.iadd, 1) := by decide +kernel
theorem d_law_587 : decode code 587 = .ok (.iaload, 1) := by decide +kernel
theorem d_law_588 : decode code 588 = .ok (.ifCond .eq 7, 3) := by decide +kernel
theorem d_law_591 : decode code 591 = .ok (.iconst 1, 1) := by decide +kernel
theorem d_law_592 : decode code 592 = .ok (.goto 4, 3) := by decide +kernel
theorem d_law_595 : decode code 595 = .ok (.iconst 0, 1) := by decide +kernel
theorem d_law_596 : decode code 596 = .ok (.invokevirtual 104, 3) := by decide +kernel
theorem d_law_599 : decode code 599 = .ok (.istore 6, 2) := by decide +kernel
theorem d_law_601 : decode code 601 = .ok (.aload_n 2, 1) := by decide +kernel
theorem d_law_602 : decode code 602 = .ok (.invokevirtual 80, 3) := by decide +kernel
theorem d_law_605 : decode code 605 = .ok (.iload 5, 2) := by decide +kernel
theorem d_law_607 : decode code 607 = .ok (.if_icmp .eq 5, 3) := by decide +kernel
theorem d_law_610 : decode code 610 = .ok (.iconst 0, 1) := by decide +kernel
theorem d_law_611 : decode code 611 = .ok (.ireturn, 1) := by decide +kernel
theorem d_law_612 : decode code 612 = .ok (.iload 5, 2) := by decide +kernel
theorem d_law_614 : decode code 614 = .ok (.ifCond .ne 15, 3) := by decide +kernel
theorem d_law_617 : decode code 617 = .ok (.aload_n 3, 1) := by decide +kernel
theorem d_law_618 : decode code 618 = .ok (.iconst 0, 1) := by decide +kernel
theorem d_law_619 : decode code 619 = .ok (.laload, 1) := by decide +kernel
theorem d_law_620 : decode code 620 = .ok (.iload 6, 2) := by decide +kernel
theorem d_law_622 : decode code 622 = .ok (.i2l, 1) := by decide +kernel
theorem d_law_623 : decode code 623 = .ok (.lcmp, 1) := by decide +kernel
theorem d_law_624 : decode code 624 = .ok (.ifCond .eq 5, 3) := by decide +kernel
theorem d_law_627 : decode code 627 = .ok (.iconst 0, 1) := by decide +kernel
theorem d_law_628 : decode code 628 = .ok (.ireturn, 1) := by decide +kernel
theorem d_law_629 : decode code 629 = .ok (.goto 709, 3) := by decide +kernel
theorem d_law_632 : decode code 632 = .ok (.aload_n 1, 1) := by decide +kernel
theorem d_law_633 : decode code 633 = .ok (.aload_n 0, 1) := by decide +kernel
theorem d_law_634 : decode code 634 = .ok (.iload 4, 2) := by decide +kernel
theorem d_law_636 : decode code 636 = .ok (.iconst 1, 1) := by decide +kernel
theorem d_law_637 : decode code 637 = .ok (.iadd, 1) := by decide +kernel
theorem d_law_638 : decode code 638 = .ok (.iaload, 1) := by decide +kernel
theorem d_law_639 : decode code 639 = .ok (.aload_n 0, 1) := by decide +kernel
theorem d_law_640 : decode code 640 = .ok (.iload 4, 2) := by decide +kernel
theorem d_law_642 : decode code 642 = .ok (.iconst 2, 1) := by decide +kernel
theorem d_law_643 : decode code 643 = .ok (.iadd, 1) := by decide +kernel
theorem d_law_644 : decode code 644 = .ok (.iaload, 1) := by decide +kernel
theorem d_law_645 : decode code 645 = .ok (.aload_n 0, 1) := by decide +kernel
theorem d_law_646 : decode code 646 = .ok (.iload 4, 2) := by decide +kernel
theorem d_law_648 : decode code 648 = .ok (.iconst 3, 1) := by decide +kernel
theorem d_law_649 : decode code 649 = .ok (.iadd, 1) := by decide +kernel
theorem d_law_650 : decode code 650 = .ok (.iaload, 1) := by decide +kernel
theorem d_law_651 : decode code 651 = .ok (.aload_n 3, 1) := by decide +kernel
theorem d_law_652 : decode code 652 = .ok (.invokestatic 105, 3) := by decide +kernel
theorem d_law_655 : decode code 655 = .ok (.istore 5, 2) := by decide +kernel
theorem d_law_657 : decode code 657 = .ok (.aload_n 2, 1) := by decide +kernel
theorem d_law_658 : decode code 658 = .ok (.aload_n 0, 1) := by decide +kernel
theorem d_law_659 : decode code 659 = .ok (.iload 4, 2) := by decide +kernel
theorem d_law_661 : decode code 661 = .ok (.iconst 1, 1) := by decide +kernel
theorem d_law_662 : decode code 662 = .ok (.iadd, 1) := by decide +kernel
theorem d_law_663 : decode code 663 = .ok (.iaload, 1) := by decide +kernel
theorem d_law_664 : decode code 664 = .ok (.aload_n 0, 1) := by decide +kernel
theorem d_law_665 : decode code 665 = .ok (.iload 4, 2) := by decide +kernel
theorem d_law_667 : decode code 667 = .ok (.iconst 2, 1) := by decide +kernel
theorem d_law_668 : decode code 668 = .ok (.iadd, 1) := by decide +kernel
theorem d_law_669 : decode code 669 = .ok (.iaload, 1) := by decide +kernel
theorem d_law_670 : decode code 670 = .ok (.aload_n 0, 1) := by decide +kernel
theorem d_law_671 : decode code 671 = .ok (.iload 4, 2) := by decide +kernel
theorem d_law_673 : decode code 673 = .ok (.iconst 3, 1) := by decide +kernel
theorem d_law_674 : decode code 674 = .ok (.iadd, 1) := by decide +kernel
theorem d_law_675 : decode code 675 = .ok (.iaload, 1) := by decide +kernel
theorem d_law_676 : decode code 676 = .ok (.invokevirtual 107, 3) := by decide +kernel
theorem d_law_679 : decode code 679 = .ok (.istore 6, 2) := by decide +kernel
theorem d_law_681 : decode code 681 = .ok (.aload_n 2, 1) := by decide +kernel
theorem d_law_682 : decode code 682 = .ok (.invokevirtual 80, 3) := by decide +kernel
theorem d_law_685 : decode code 685 = .ok (.iload 5, 2) := by decide +kernel
theorem d_law_687 : decode code 687 = .ok (.if_icmp .eq 5, 3) := by decide +kernel
theorem d_law_690 : decode code 690 = .ok (.iconst 0, 1) := by decide +kernel
theorem d_law_691 : decode code 691 = .ok (.ireturn, 1) := by decide +kernel
theorem d_law_692 : decode code 692 = .ok (.iload 5, 2) := by decide +kernel
theorem d_law_694 : decode code 694 = .ok (.ifCond .ne 15, 3) := by decide +kernel
theorem d_law_697 : decode code 697 = .ok (.aload_n 3, 1) := by decide +kernel
theorem d_law_698 : decode code 698 = .ok (.iconst 0, 1) := by decide +kernel
theorem d_law_699 : decode code 699 = .ok (.laload, 1) := by decide +kernel
theorem d_law_700 : decode code 700 = .ok (.iload 6, 2) := by decide +kernel
theorem d_law_702 : decode code 702 = .ok (.i2l, 1) := by decide +kernel
theorem d_law_703 : decode code 703 = .ok (.lcmp, 1) := by decide +kernel
theorem d_law_704 : decode code 704 = .ok (.ifCond .eq 5, 3) := by decide +kernel
theorem d_law_707 : decode code 707 = .ok (.iconst 0, 1) := by decide +kernel
theorem d_law_708 : decode code 708 = .ok (.ireturn, 1) := by decide +kernel
theorem d_law_709 : decode code 709 = .ok (.goto 629, 3) := by decide +kernel
theorem d_law_712 : decode code 712 = .ok (.aload_n 1, 1) := by decide +kernel
theorem d_law_713 : decode code 713 = .ok (.aload_n 0, 1) := by decide +kernel
theorem d_law_714 : decode code 714 = .ok (.iload 4, 2) := by decide +kernel
theorem d_law_716 : decode code 716 = .ok (.iconst 1, 1) := by decide +kernel
theorem d_law_717 : decode code 717 = .ok (.iadd, 1) := by decide +kernel
theorem d_law_718 : decode code 718 = .ok (.iaload, 1) := by decide +kernel
theorem d_law_719 : decode code 719 = .ok (.aload_n 0, 1) := by decide +kernel
theorem d_law_720 : decode code 720 = .ok (.iload 4, 2) := by decide +kernel
theorem d_law_722 : decode code 722 = .ok (.iconst 2, 1) := by decide +kernel
theorem d_law_723 : decode code 723 = .ok (.iadd, 1) := by decide +kernel
theorem d_law_724 : decode code 724 = .ok (.iaload, 1) := by decide +kernel
theorem d_law_725 : decode code 725 = .ok (.aload_n 0, 1) := by decide +kernel
theorem d_law_726 : decode code 726 = .ok (.iload 4, 2) := by decide +kernel
theorem d_law_728 : decode code 728 = .ok (.iconst 3, 1) := by decide +kernel
theorem d_law_729 : decode code 729 = .ok (.iadd, 1) := by decide +kernel
theorem d_law_730 : decode code 730 = .ok (.iaload, 1) := by decide +kernel
theorem d_law_731 : decode code 731 = .ok (.aload_n 3, 1) := by decide +kernel
theorem d_law_732 : decode code 732 = .ok (.invokestatic 108, 3) := by decide +kernel
theorem d_law_735 : decode code 735 = .ok (.istore 5, 2) := by decide +kernel
theorem d_law_737 : decode code 737 = .ok (.aload_n 2, 1) := by decide +kernel
theorem d_law_738 : decode code 738 = .ok (.aload_n 0, 1) := by decide +kernel
theorem d_law_739 : decode code 739 = .ok (.iload 4, 2) := by decide +kernel
theorem d_law_741 : decode code 741 = .ok (.iconst 1, 1) := by decide +kernel
theorem d_law_742 : decode code 742 = .ok (.iadd, 1) := by decide +kernel
theorem d_law_743 : decode code 743 = .ok (.iaload, 1) := by decide +kernel
theorem d_law_744 : decode code 744 = .ok (.aload_n 0, 1) := by decide +kernel
theorem d_law_745 : decode code 745 = .ok (.iload 4, 2) := by decide +kernel
theorem d_law_747 : decode code 747 = .ok (.iconst 2, 1) := by decide +kernel
theorem d_law_748 : decode code 748 = .ok (.iadd, 1) := by decide +kernel
theorem d_law_749 : decode code 749 = .ok (.iaload, 1) := by decide +kernel
theorem d_law_750 : decode code 750 = .ok (.aload_n 0, 1) := by decide +kernel
theorem d_law_751 : decode code 751 = .ok (.iload 4, 2) := by decide +kernel
theorem d_law_753 : decode code 753 = .ok (.iconst 3, 1) := by decide +kernel
theorem d_law_754 : decode code 754 = .ok (.iadd, 1) := by decide +kernel
theorem d_law_755 : decode code 755 = .ok (.iaload, 1) := by decide +kernel
theorem d_law_756 : decode code 756 = .ok (.invokevirtual 110, 3) := by decide +kernel
theorem d_law_759 : decode code 759 = .ok (.istore 6, 2) := by decide +kernel
theorem d_law_761 : decode code 761 = .ok (.aload_n 2, 1) := by decide +kernel
theorem d_law_762 : decode code 762 = .ok (.invokevirtual 80, 3) := by decide +kernel
theorem d_law_765 : decode code 765 = .ok (.iload 5, 2) := by decide +kernel
theorem d_law_767 : decode code 767 = .ok (.if_icmp .eq 5, 3) := by decide +kernel
theorem d_law_770 : decode code 770 = .ok (.iconst 0, 1) := by decide +kernel
theorem d_law_771 : decode code 771 = .ok (.ireturn, 1) := by decide +kernel
theorem d_law_772 : decode code 772 = .ok (.iload 5, 2) := by decide +kernel
theorem d_law_774 : decode code 774 = .ok (.ifCond .ne 15, 3) := by decide +kernel
theorem d_law_777 : decode code 777 = .ok (.aload_n 3, 1) := by decide +kernel
theorem d_law_778 : decode code 778 = .ok (.iconst 0, 1) := by decide +kernel
theorem d_law_779 : decode code 779 = .ok (.laload, 1) := by decide +kernel
theorem d_law_780 : decode code 780 = .ok (.iload 6, 2) := by decide +kernel
theorem d_law_782 : decode code 782 = .ok (.i2l, 1) := by decide +kernel
theorem d_law_783 : decode code 783 = .ok (.lcmp, 1) := by decide +kernel
theorem d_law_784 : decode code 784 = .ok (.ifCond .eq 5, 3) := by decide +kernel
theorem d_law_787 : decode code 787 = .ok (.iconst 0, 1) := by decide +kernel
theorem d_law_788 : decode code 788 = .ok (.ireturn, 1) := by decide +kernel
theorem d_law_789 : decode code 789 = .ok (.goto 549, 3) := by decide +kernel
theorem d_law_792 : decode code 792 = .ok (.aload_n 1, 1) := by decide +kernel
theorem d_law_793 : decode code 793 = .ok (.aload_n 0, 1) := by decide +kernel
theorem d_law_794 : decode code 794 = .ok (.iload 4, 2) := by decide +kernel
theorem d_law_796 : decode code 796 = .ok (.iconst 1, 1) := by decide +kernel
theorem d_law_797 : decode code 797 = .ok (.iadd, 1) := by decide +kernel
theorem d_law_798 : decode code 798 = .ok (.iaload, 1) := by decide +kernel
theorem d_law_799 : decode code 799 = .ok (.aload_n 0, 1) := by decide +kernel
theorem d_law_800 : decode code 800 = .ok (.iload 4, 2) := by decide +kernel
theorem d_law_802 : decode code 802 = .ok (.iconst 2, 1) := by decide +kernel
theorem d_law_803 : decode code 803 = .ok (.iadd, 1) := by decide +kernel
theorem d_law_804 : decode code 804 = .ok (.iaload, 1) := by decide +kernel
theorem d_law_805 : decode code 805 = .ok (.aload_n 0, 1) := by decide +kernel
theorem d_law_806 : decode code 806 = .ok (.iload 4, 2) := by decide +kernel
theorem d_law_808 : decode code 808 = .ok (.iconst 3, 1) := by decide +kernel
theorem d_law_809 : decode code 809 = .ok (.iadd, 1) := by decide +kernel
theorem d_law_810 : decode code 810 = .ok (.iaload, 1) := by decide +kernel
theorem d_law_811 : decode code 811 = .ok (.aload_n 3, 1) := by decide +kernel
theorem d_law_812 : decode code 812 = .ok (.invokestatic 111, 3) := by decide +kernel
theorem d_law_815 : decode code 815 = .ok (.istore 5, 2) := by decide +kernel
theorem d_law_817 : decode code 817 = .ok (.aload_n 2, 1) := by decide +kernel
theorem d_law_818 : decode code 818 = .ok (.aload_n 0, 1) := by decide +kernel
theorem d_law_819 : decode code 819 = .ok (.iload 4, 2) := by decide +kernel
theorem d_law_821 : decode code 821 = .ok (.iconst 1, 1) := by decide +kernel
theorem d_law_822 : decode code 822 = .ok (.iadd, 1) := by decide +kernel
theorem d_law_823 : decode code 823 = .ok (.iaload, 1) := by decide +kernel
theorem d_law_824 : decode code 824 = .ok (.aload_n 0, 1) := by decide +kernel
theorem d_law_825 : decode code 825 = .ok (.iload 4, 2) := by decide +kernel
theorem d_law_827 : decode code 827 = .ok (.iconst 2, 1) := by decide +kernel
theorem d_law_828 : decode code 828 = .ok (.iadd, 1) := by decide +kernel
theorem d_law_829 : decode code 829 = .ok (.iaload, 1) := by decide +kernel
theorem d_law_830 : decode code 830 = .ok (.aload_n 0, 1) := by decide +kernel
theorem d_law_831 : decode code 831 = .ok (.iload 4, 2) := by decide +kernel
theorem d_law_833 : decode code 833 = .ok (.iconst 3, 1) := by decide +kernel
theorem d_law_834 : decode code 834 = .ok (.iadd, 1) := by decide +kernel
theorem d_law_835 : decode code 835 = .ok (.iaload, 1) := by decide +kernel
theorem d_law_836 : decode code 836 = .ok (.invokevirtual 113, 3) := by decide +kernel
theorem d_law_839 : decode code 839 = .ok (.istore 6, 2) := by decide +kernel
theorem d_law_841 : decode code 841 = .ok (.aload_n 2, 1) := by decide +kernel
theorem d_law_842 : decode code 842 = .ok (.invokevirtual 80, 3) := by decide +kernel
theorem d_law_845 : decode code 845 = .ok (.iload 5, 2) := by decide +kernel
theorem d_law_847 : decode code 847 = .ok (.if_icmp .eq 5, 3) := by decide +kernel
theorem d_law_850 : decode code 850 = .ok (.iconst 0, 1) := by decide +kernel
theorem d_law_851 : decode code 851 = .ok (.ireturn, 1) := by decide +kernel
theorem d_law_852 : decode code 852 = .ok (.iload 5, 2) := by decide +kernel
theorem d_law_854 : decode code 854 = .ok (.ifCond .ne 15, 3) := by decide +kernel
theorem d_law_857 : decode code 857 = .ok (.aload_n 3, 1) := by decide +kernel
theorem d_law_858 : decode code 858 = .ok (.iconst 0, 1) := by decide +kernel
theorem d_law_859 : decode code 859 = .ok (.laload, 1) := by decide +kernel
theorem d_law_860 : decode code 860 = .ok (.iload 6, 2) := by decide +kernel
theorem d_law_862 : decode code 862 = .ok (.i2l, 1) := by decide +kernel
theorem d_law_863 : decode code 863 = .ok (.lcmp, 1) := by decide +kernel
theorem d_law_864 : decode code 864 = .ok (.ifCond .eq 5, 3) := by decide +kernel
theorem d_law_867 : decode code 867 = .ok (.iconst 0, 1) := by decide +kernel
theorem d_law_868 : decode code 868 = .ok (.ireturn, 1) := by decide +kernel
theorem d_law_869 : decode code 869 = .ok (.goto 469, 3) := by decide +kernel
theorem d_law_872 : decode code 872 = .ok (.aload_n 1, 1) := by decide +kernel
theorem d_law_873 : decode code 873 = .ok (.invokevirtual 114, 3) := by decide +kernel
theorem d_law_876 : decode code 876 = .ok (.aload_n 2, 1) := by decide +kernel
theorem d_law_877 : decode code 877 = .ok (.invokevirtual 117, 3) := by decide +kernel
theorem d_law_880 : decode code 880 = .ok (.if_icmp .eq 458, 3) := by decide +kernel
theorem d_law_883 : decode code 883 = .ok (.iconst 0, 1) := by decide +kernel
theorem d_law_884 : decode code 884 = .ok (.ireturn, 1) := by decide +kernel
theorem d_law_885 : decode code 885 = .ok (.aload_n 1, 1) := by decide +kernel
theorem d_law_886 : decode code 886 = .ok (.aload_n 0, 1) := by decide +kernel
theorem d_law_887 : decode code 887 = .ok (.iload 4, 2) := by decide +kernel
theorem d_law_889 : decode code 889 = .ok (.iconst 1, 1) := by decide +kernel
theorem d_law_890 : decode code 890 = .ok (.iadd, 1) := by decide +kernel
theorem d_law_891 : decode code 891 = .ok (.iaload, 1) := by decide +kernel
theorem d_law_892 : decode code 892 = .ok (.aload_n 0, 1) := by decide +kernel
theorem d_law_893 : decode code 893 = .ok (.iload 4, 2) := by decide +kernel
theorem d_law_895 : decode code 895 = .ok (.iconst 2, 1) := by decide +kernel
theorem d_law_896 : decode code 896 = .ok (.iadd, 1) := by decide +kernel
theorem d_law_897 : decode code 897 = .ok (.iaload, 1) := by decide +kernel
theorem d_law_898 : decode code 898 = .ok (.aload_n 3, 1) := by decide +kernel
theorem d_law_899 : decode code 899 = .ok (.invokestatic 118, 3) := by decide +kernel
theorem d_law_902 : decode code 902 = .ok (.istore 5, 2) := by decide +kernel
theorem d_law_904 : decode code 904 = .ok (.aload_n 2, 1) := by decide +kernel
theorem d_law_905 : decode code 905 = .ok (.aload_n 0, 1) := by decide +kernel
theorem d_law_906 : decode code 906 = .ok (.iload 4, 2) := by decide +kernel
theorem d_law_908 : decode code 908 = .ok (.iconst 1, 1) := by decide +kernel
theorem d_law_909 : decode code 909 = .ok (.iadd, 1) := by decide +kernel
theorem d_law_910 : decode code 910 = .ok (.iaload, 1) := by decide +kernel
theorem d_law_911 : decode code 911 = .ok (.aload_n 0, 1) := by decide +kernel
theorem d_law_912 : decode code 912 = .ok (.iload 4, 2) := by decide +kernel
theorem d_law_914 : decode code 914 = .ok (.iconst 2, 1) := by decide +kernel
theorem d_law_915 : decode code 915 = .ok (.iadd, 1) := by decide +kernel
theorem d_law_916 : decode code 916 = .ok (.iaload, 1) := by decide +kernel
theorem d_law_917 : decode code 917 = .ok (.invokevirtual 120, 3) := by decide +kernel
theorem d_law_920 : decode code 920 = .ok (.istore 6, 2) := by decide +kernel
theorem d_law_922 : decode code 922 = .ok (.aload_n 2, 1) := by decide +kernel
theorem d_law_923 : decode code 923 = .ok (.invokevirtual 80, 3) := by decide +kernel
theorem d_law_926 : decode code 926 = .ok (.iload 5, 2) := by decide +kernel
theorem d_law_928 : decode code 928 = .ok (.if_icmp .eq 5, 3) := by decide +kernel
theorem d_law_931 : decode code 931 = .ok (.iconst 0, 1) := by decide +kernel
theorem d_law_932 : decode code 932 = .ok (.ireturn, 1) := by decide +kernel
theorem d_law_933 : decode code 933 = .ok (.iload 5, 2) := by decide +kernel
theorem d_law_935 : decode code 935 = .ok (.ifCond .ne 15, 3) := by decide +kernel
theorem d_law_938 : decode code 938 = .ok (.aload_n 3, 1) := by decide +kernel
theorem d_law_939 : decode code 939 = .ok (.iconst 0, 1) := by decide +kernel
theorem d_law_940 : decode code 940 = .ok (.laload, 1) := by decide +kernel
theorem d_law_941 : decode code 941 = .ok (.iload 6, 2) := by decide +kernel
theorem d_law_943 : decode code 943 = .ok (.i2l, 1) := by decide +kernel
theorem d_law_944 : decode code 944 = .ok (.lcmp, 1) := by decide +kernel
theorem d_law_945 : decode code 945 = .ok (.ifCond .eq 5, 3) := by decide +kernel
theorem d_law_948 : decode code 948 = .ok (.iconst 0, 1) := by decide +kernel
theorem d_law_949 : decode code 949 = .ok (.ireturn, 1) := by decide +kernel
theorem d_law_950 : decode code 950 = .ok (.goto 388, 3) := by decide +kernel
theorem d_law_953 : decode code 953 = .ok (.aload_n 1, 1) := by decide +kernel
theorem d_law_954 : decode code 954 = .ok (.aload_n 0, 1) := by decide +kernel
theorem d_law_955 : decode code 955 = .ok (.iload 4, 2) := by decide +kernel
theorem d_law_957 : decode code 957 = .ok (.iconst 1, 1) := by decide +kernel
theorem d_law_958 : decode code 958 = .ok (.iadd, 1) := by decide +kernel
theorem d_law_959 : decode code 959 = .ok (.iaload, 1) := by decide +kernel
theorem d_law_960 : decode code 960 = .ok (.aload_n 0, 1) := by decide +kernel
theorem d_law_961 : decode code 961 = .ok (.iload 4, 2) := by decide +kernel
theorem d_law_963 : decode code 963 = .ok (.iconst 2, 1) := by decide +kernel
theorem d_law_964 : decode code 964 = .ok (.iadd, 1) := by decide +kernel
theorem d_law_965 : decode code 965 = .ok (.iaload, 1) := by decide +kernel
theorem d_law_966 : decode code 966 = .ok (.aload_n 0, 1) := by decide +kernel
theorem d_law_967 : decode code 967 = .ok (.iload 4, 2) := by decide +kernel
theorem d_law_969 : decode code 969 = .ok (.iconst 3, 1) := by decide +kernel
theorem d_law_970 : decode code 970 = .ok (.iadd, 1) := by decide +kernel
theorem d_law_971 : decode code 971 = .ok (.iaload, 1) := by decide +kernel
theorem d_law_972 : decode code 972 = .ok (.aload_n 3, 1) := by decide +kernel
theorem d_law_973 : decode code 973 = .ok (.invokestatic 121, 3) := by decide +kernel
theorem d_law_976 : decode code 976 = .ok (.istore 5, 2) := by decide +kernel
theorem d_law_978 : decode code 978 = .ok (.aload_n 2, 1) := by decide +kernel
theorem d_law_979 : decode code 979 = .ok (.aload_n 0, 1) := by decide +kernel
theorem d_law_980 : decode code 980 = .ok (.iload 4, 2) := by decide +kernel
theorem d_law_982 : decode code 982 = .ok (.iconst 1, 1) := by decide +kernel
theorem d_law_983 : decode code 983 = .ok (.iadd, 1) := by decide +kernel
theorem d_law_984 : decode code 984 = .ok (.iaload, 1) := by decide +kernel
theorem d_law_985 : decode code 985 = .ok (.aload_n 0, 1) := by decide +kernel
theorem d_law_986 : decode code 986 = .ok (.iload 4, 2) := by decide +kernel
theorem d_law_988 : decode code 988 = .ok (.iconst 2, 1) := by decide +kernel
theorem d_law_989 : decode code 989 = .ok (.iadd, 1) := by decide +kernel
theorem d_law_990 : decode code 990 = .ok (.iaload, 1) := by decide +kernel
theorem d_law_991 : decode code 991 = .ok (.aload_n 0, 1) := by decide +kernel
theorem d_law_992 : decode code 992 = .ok (.iload 4, 2) := by decide +kernel
theorem d_law_994 : decode code 994 = .ok (.iconst 3, 1) := by decide +kernel
theorem d_law_995 : decode code 995 = .ok (.iadd, 1) := by decide +kernel
theorem d_law_996 : decode code 996 = .ok (.iaload, 1) := by decide +kernel
theorem d_law_997 : decode code 997 = .ok (.invokevirtual 123, 3) := by decide +kernel
theorem d_law_1000 : decode code 1000 = .ok (.istore 6, 2) := by decide +kernel
theorem d_law_1002 : decode code 1002 = .ok (.aload_n 2, 1) := by decide +kernel
theorem d_law_1003 : decode code 1003 = .ok (.invokevirtual 80, 3) := by decide +kernel
theorem d_law_1006 : decode code 1006 = .ok (.iload 5, 2) := by decide +kernel
theorem d_law_1008 : decode code 1008 = .ok (.if_icmp .eq 5, 3) := by decide +kernel
theorem d_law_1011 : decode code 1011 = .ok (.iconst 0, 1) := by decide +kernel
theorem d_law_1012 : decode code 1012 = .ok (.ireturn, 1) := by decide +kernel
theorem d_law_1013 : decode code 1013 = .ok (.iload 5, 2) := by decide +kernel
theorem d_law_1015 : decode code 1015 = .ok (.ifCond .ne 15, 3) := by decide +kernel
theorem d_law_1018 : decode code 1018 = .ok (.aload_n 3, 1) := by decide +kernel
theorem d_law_1019 : decode code 1019 = .ok (.iconst 0, 1) := by decide +kernel
theorem d_law_1020 : decode code 1020 = .ok (.laload, 1) := by decide +kernel
theorem d_law_1021 : decode code 1021 = .ok (.iload 6, 2) := by decide +kernel
theorem d_law_1023 : decode code 1023 = .ok (.i2l, 1) := by decide +kernel
theorem d_law_1024 : decode code 1024 = .ok (.lcmp, 1) := by decide +kernel
theorem d_law_1025 : decode code 1025 = .ok (.ifCond .eq 5, 3) := by decide +kernel
theorem d_law_1028 : decode code 1028 = .ok (.iconst 0, 1) := by decide +kernel
theorem d_law_1029 : decode code 1029 = .ok (.ireturn, 1) := by decide +kernel
theorem d_law_1030 : decode code 1030 = .ok (.goto 308, 3) := by decide +kernel
theorem d_law_1033 : decode code 1033 = .ok (.aload_n 1, 1) := by decide +kernel
theorem d_law_1034 : decode code 1034 = .ok (.invokevirtual 124, 3) := by decide +kernel
theorem d_law_1037 : decode code 1037 = .ok (.aload_n 2, 1) := by decide +kernel
theorem d_law_1038 : decode code 1038 = .ok (.invokevirtual 127, 3) := by decide +kernel
theorem d_law_1041 : decode code 1041 = .ok (.if_icmp .eq 297, 3) := by decide +kernel
theorem d_law_1044 : decode code 1044 = .ok (.iconst 0, 1) := by decide +kernel
theorem d_law_1045 : decode code 1045 = .ok (.ireturn, 1) := by decide +kernel
theorem d_law_1046 : decode code 1046 = .ok (.aload_n 1, 1) := by decide +kernel
theorem d_law_1047 : decode code 1047 = .ok (.aload_n 0, 1) := by decide +kernel
theorem d_law_1048 : decode code 1048 = .ok (.iload 4, 2) := by decide +kernel
theorem d_law_1050 : decode code 1050 = .ok (.iconst 1, 1) := by decide +kernel
theorem d_law_1051 : decode code 1051 = .ok (.iadd, 1) := by decide +kernel
theorem d_law_1052 : decode code 1052 = .ok (.iaload, 1) := by decide +kernel
theorem d_law_1053 : decode code 1053 = .ok (.aload_n 0, 1) := by decide +kernel
theorem d_law_1054 : decode code 1054 = .ok (.iload 4, 2) := by decide +kernel
theorem d_law_1056 : decode code 1056 = .ok (.iconst 2, 1) := by decide +kernel
theorem d_law_1057 : decode code 1057 = .ok (.iadd, 1) := by decide +kernel
theorem d_law_1058 : decode code 1058 = .ok (.iaload, 1) := by decide +kernel
theorem d_law_1059 : decode code 1059 = .ok (.aload_n 3, 1) := by decide +kernel
theorem d_law_1060 : decode code 1060 = .ok (.invokestatic 128, 3) := by decide +kernel
theorem d_law_1063 : decode code 1063 = .ok (.istore 5, 2) := by decide +kernel
theorem d_law_1065 : decode code 1065 = .ok (.aload_n 2, 1) := by decide +kernel
theorem d_law_1066 : decode code 1066 = .ok (.aload_n 0, 1) := by decide +kernel
theorem d_law_1067 : decode code 1067 = .ok (.iload 4, 2) := by decide +kernel
theorem d_law_1069 : decode code 1069 = .ok (.iconst 1, 1) := by decide +kernel
theorem d_law_1070 : decode code 1070 = .ok (.iadd, 1) := by decide +kernel
theorem d_law_1071 : decode code 1071 = .ok (.iaload, 1) := by decide +kernel
theorem d_law_1072 : decode code 1072 = .ok (.aload_n 0, 1) := by decide +kernel
theorem d_law_1073 : decode code 1073 = .ok (.iload 4, 2) := by decide +kernel
theorem d_law_1075 : decode code 1075 = .ok (.iconst 2, 1) := by decide +kernel
theorem d_law_1076 : decode code 1076 = .ok (.iadd, 1) := by decide +kernel
theorem d_law_1077 : decode code 1077 = .ok (.iaload, 1) := by decide +kernel
theorem d_law_1078 : decode code 1078 = .ok (.invokevirtual 130, 3) := by decide +kernel
theorem d_law_1081 : decode code 1081 = .ok (.istore 6, 2) := by decide +kernel
theorem d_law_1083 : decode code 1083 = .ok (.aload_n 2, 1) := by decide +kernel
theorem d_law_1084 : decode code 1084 = .ok (.invokevirtual 80, 3) := by decide +kernel
theorem d_law_1087 : decode code 1087 = .ok (.iload 5, 2) := by decide +kernel
theorem d_law_1089 : decode code 1089 = .ok (.if_icmp .eq 5, 3) := by decide +kernel
theorem d_law_1092 : decode code 1092 = .ok (.iconst 0, 1) := by decide +kernel
theorem d_law_1093 : decode code 1093 = .ok (.ireturn, 1) := by decide +kernel
theorem d_law_1094 : decode code 1094 = .ok (.iload 5, 2) := by decide +kernel
theorem d_law_1096 : decode code 1096 = .ok (.ifCond .ne 15, 3) := by decide +kernel
theorem d_law_1099 : decode code 1099 = .ok (.aload_n 3, 1) := by decide +kernel
theorem d_law_1100 : decode code 1100 = .ok (.iconst 0, 1) := by decide +kernel
theorem d_law_1101 : decode code 1101 = .ok (.laload, 1) := by decide +kernel
theorem d_law_1102 : decode code 1102 = .ok (.iload 6, 2) := by decide +kernel
theorem d_law_1104 : decode code 1104 = .ok (.i2l, 1) := by decide +kernel
theorem d_law_1105 : decode code 1105 = .ok (.lcmp, 1) := by decide +kernel
theorem d_law_1106 : decode code 1106 = .ok (.ifCond .eq 5, 3) := by decide +kernel
theorem d_law_1109 : decode code 1109 = .ok (.iconst 0, 1) := by decide +kernel
theorem d_law_1110 : decode code 1110 = .ok (.ireturn, 1) := by decide +kernel
theorem d_law_1111 : decode code 1111 = .ok (.goto 227, 3) := by decide +kernel
theorem d_law_1114 : decode code 1114 = .ok (.aload_n 1, 1) := by decide +kernel
theorem d_law_1115 : decode code 1115 = .ok (.aload_n 0, 1) := by decide +kernel
theorem d_law_1116 : decode code 1116 = .ok (.iload 4, 2) := by decide +kernel
theorem d_law_1118 : decode code 1118 = .ok (.iconst 1, 1) := by decide +kernel
theorem d_law_1119 : decode code 1119 = .ok (.iadd, 1) := by decide +kernel
theorem d_law_1120 : decode code 1120 = .ok (.iaload, 1) := by decide +kernel
theorem d_law_1121 : decode code 1121 = .ok (.aload_n 3, 1) := by decide +kernel
theorem d_law_1122 : decode code 1122 = .ok (.invokestatic 131, 3) := by decide +kernel
theorem d_law_1125 : decode code 1125 = .ok (.istore 5, 2) := by decide +kernel
theorem d_law_1127 : decode code 1127 = .ok (.aload_n 2, 1) := by decide +kernel
theorem d_law_1128 : decode code 1128 = .ok (.aload_n 0, 1) := by decide +kernel
theorem d_law_1129 : decode code 1129 = .ok (.iload 4, 2) := by decide +kernel
theorem d_law_1131 : decode code 1131 = .ok (.iconst 1, 1) := by decide +kernel
theorem d_law_1132 : decode code 1132 = .ok (.iadd, 1) := by decide +kernel
theorem d_law_1133 : decode code 1133 = .ok (.iaload, 1) := by decide +kernel
theorem d_law_1134 : decode code 1134 = .ok (.invokevirtual 133, 3) := by decide +kernel
theorem d_law_1137 : decode code 1137 = .ok (.istore 6, 2) := by decide +kernel
theorem d_law_1139 : decode code 1139 = .ok (.aload_n 2, 1) := by decide +kernel
theorem d_law_1140 : decode code 1140 = .ok (.invokevirtual 80, 3) := by decide +kernel
theorem d_law_1143 : decode code 1143 = .ok (.iload 5, 2) := by decide +kernel
theorem d_law_1145 : decode code 1145 = .ok (.if_icmp .eq 5, 3) := by decide +kernel
theorem d_law_1148 : decode code 1148 = .ok (.iconst 0, 1) := by decide +kernel
theorem d_law_1149 : decode code 1149 = .ok (.ireturn, 1) := by decide +kernel
theorem d_law_1150 : decode code 1150 = .ok (.iload 5, 2) := by decide +kernel
theorem d_law_1152 : decode code 1152 = .ok (.ifCond .ne 15, 3) := by decide +kernel
theorem d_law_1155 : decode code 1155 = .ok (.aload_n 3, 1) := by decide +kernel
theorem d_law_1156 : decode code 1156 = .ok (.iconst 0, 1) := by decide +kernel
theorem d_law_1157 : decode code 1157 = .ok (.laload, 1) := by decide +kernel
theorem d_law_1158 : decode code 1158 = .ok (.iload 6, 2) := by decide +kernel
theorem d_law_1160 : decode code 1160 = .ok (.i2l, 1) := by decide +kernel
theorem d_law_1161 : decode code 1161 = .ok (.lcmp, 1) := by decide +kernel
theorem d_law_1162 : decode code 1162 = .ok (.ifCond .eq 5, 3) := by decide +kernel
theorem d_law_1165 : decode code 1165 = .ok (.iconst 0, 1) := by decide +kernel
theorem d_law_1166 : decode code 1166 = .ok (.ireturn, 1) := by decide +kernel
theorem d_law_1167 : decode code 1167 = .ok (.goto 171, 3) := by decide +kernel
theorem d_law_1170 : decode code 1170 = .ok (.aload_n 1, 1) := by decide +kernel
theorem d_law_1171 : decode code 1171 = .ok (.aload_n 0, 1) := by decide +kernel
theorem d_law_1172 : decode code 1172 = .ok (.iload 4, 2) := by decide +kernel
theorem d_law_1174 : decode code 1174 = .ok (.iconst 1, 1) := by decide +kernel
theorem d_law_1175 : decode code 1175 = .ok (.iadd, 1) := by decide +kernel
theorem d_law_1176 : decode code 1176 = .ok (.iaload, 1) := by decide +kernel
theorem d_law_1177 : decode code 1177 = .ok (.aload_n 3, 1) := by decide +kernel
theorem d_law_1178 : decode code 1178 = .ok (.invokestatic 134, 3) := by decide +kernel
theorem d_law_1181 : decode code 1181 = .ok (.istore 5, 2) := by decide +kernel
theorem d_law_1183 : decode code 1183 = .ok (.aload_n 2, 1) := by decide +kernel
theorem d_law_1184 : decode code 1184 = .ok (.aload_n 0, 1) := by decide +kernel
theorem d_law_1185 : decode code 1185 = .ok (.iload 4, 2) := by decide +kernel
theorem d_law_1187 : decode code 1187 = .ok (.iconst 1, 1) := by decide +kernel
theorem d_law_1188 : decode code 1188 = .ok (.iadd, 1) := by decide +kernel
theorem d_law_1189 : decode code 1189 = .ok (.iaload, 1) := by decide +kernel
theorem d_law_1190 : decode code 1190 = .ok (.invokevirtual 136, 3) := by decide +kernel
theorem d_law_1193 : decode code 1193 = .ok (.istore 6, 2) := by decide +kernel
theorem d_law_1195 : decode code 1195 = .ok (.aload_n 2, 1) := by decide +kernel
theorem d_law_1196 : decode code 1196 = .ok (.invokevirtual 80, 3) := by decide +kernel
theorem d_law_1199 : decode code 1199 = .ok (.iload 5, 2) := by decide +kernel
theorem d_law_1201 : decode code 1201 = .ok (.if_icmp .eq 5, 3) := by decide +kernel
theorem d_law_1204 : decode code 1204 = .ok (.iconst 0, 1) := by decide +kernel
theorem d_law_1205 : decode code 1205 = .ok (.ireturn, 1) := by decide +kernel
theorem d_law_1206 : decode code 1206 = .ok (.iload 5, 2) := by decide +kernel
theorem d_law_1208 : decode code 1208 = .ok (.ifCond .ne 15, 3) := by decide +kernel
theorem d_law_1211 : decode code 1211 = .ok (.aload_n 3, 1) := by decide +kernel
theorem d_law_1212 : decode code 1212 = .ok (.iconst 0, 1) := by decide +kernel
theorem d_law_1213 : decode code 1213 = .ok (.laload, 1) := by decide +kernel
theorem d_law_1214 : decode code 1214 = .ok (.iload 6, 2) := by decide +kernel
theorem d_law_1216 : decode code 1216 = .ok (.i2l, 1) := by decide +kernel
theorem d_law_1217 : decode code 1217 = .ok (.lcmp, 1) := by decide +kernel
theorem d_law_1218 : decode code 1218 = .ok (.ifCond .eq 5, 3) := by decide +kernel
theorem d_law_1221 : decode code 1221 = .ok (.iconst 0, 1) := by decide +kernel
theorem d_law_1222 : decode code 1222 = .ok (.ireturn, 1) := by decide +kernel
theorem d_law_1223 : decode code 1223 = .ok (.goto 115, 3) := by decide +kernel
theorem d_law_1226 : decode code 1226 = .ok (.aload_n 1, 1) := by decide +kernel
theorem d_law_1227 : decode code 1227 = .ok (.aload_n 0, 1) := by decide +kernel
theorem d_law_1228 : decode code 1228 = .ok (.iload 4, 2) := by decide +kernel
theorem d_law_1230 : decode code 1230 = .ok (.iconst 1, 1) := by decide +kernel
theorem d_law_1231 : decode code 1231 = .ok (.iadd, 1) := by decide +kernel
theorem d_law_1232 : decode code 1232 = .ok (.iaload, 1) := by decide +kernel
theorem d_law_1233 : decode code 1233 = .ok (.aload_n 3, 1) := by decide +kernel
theorem d_law_1234 : decode code 1234 = .ok (.invokestatic 137, 3) := by decide +kernel
theorem d_law_1237 : decode code 1237 = .ok (.istore 5, 2) := by decide +kernel
theorem d_law_1239 : decode code 1239 = .ok (.aload_n 2, 1) := by decide +kernel
theorem d_law_1240 : decode code 1240 = .ok (.aload_n 0, 1) := by decide +kernel
theorem d_law_1241 : decode code 1241 = .ok (.iload 4, 2) := by decide +kernel
theorem d_law_1243 : decode code 1243 = .ok (.iconst 1, 1) := by decide +kernel
theorem d_law_1244 : decode code 1244 = .ok (.iadd, 1) := by decide +kernel
theorem d_law_1245 : decode code 1245 = .ok (.iaload, 1) := by decide +kernel
theorem d_law_1246 : decode code 1246 = .ok (.invokevirtual 139, 3) := by decide +kernel
theorem d_law_1249 : decode code 1249 = .ok (.istore 6, 2) := by decide +kernel
theorem d_law_1251 : decode code 1251 = .ok (.aload_n 2, 1) := by decide +kernel
theorem d_law_1252 : decode code 1252 = .ok (.invokevirtual 80, 3) := by decide +kernel
theorem d_law_1255 : decode code 1255 = .ok (.iload 5, 2) := by decide +kernel
theorem d_law_1257 : decode code 1257 = .ok (.if_icmp .eq 5, 3) := by decide +kernel
theorem d_law_1260 : decode code 1260 = .ok (.iconst 0, 1) := by decide +kernel
theorem d_law_1261 : decode code 1261 = .ok (.ireturn, 1) := by decide +kernel
theorem d_law_1262 : decode code 1262 = .ok (.iload 5, 2) := by decide +kernel
theorem d_law_1264 : decode code 1264 = .ok (.ifCond .ne 15, 3) := by decide +kernel
theorem d_law_1267 : decode code 1267 = .ok (.aload_n 3, 1) := by decide +kernel
theorem d_law_1268 : decode code 1268 = .ok (.iconst 0, 1) := by decide +kernel
theorem d_law_1269 : decode code 1269 = .ok (.laload, 1) := by decide +kernel
theorem d_law_1270 : decode code 1270 = .ok (.iload 6, 2) := by decide +kernel
theorem d_law_1272 : decode code 1272 = .ok (.i2l, 1) := by decide +kernel
theorem d_law_1273 : decode code 1273 = .ok (.lcmp, 1) := by decide +kernel
theorem d_law_1274 : decode code 1274 = .ok (.ifCond .eq 5, 3) := by decide +kernel
theorem d_law_1277 : decode code 1277 = .ok (.iconst 0, 1) := by decide +kernel
theorem d_law_1278 : decode code 1278 = .ok (.ireturn, 1) := by decide +kernel
theorem d_law_1279 : decode code 1279 = .ok (.goto 59, 3) := by decide +kernel
theorem d_law_1282 : decode code 1282 = .ok (.aload_n 1, 1) := by decide +kernel
theorem d_law_1283 : decode code 1283 = .ok (.aload_n 0, 1) := by decide +kernel
theorem d_law_1284 : decode code 1284 = .ok (.iload 4, 2) := by decide +kernel
theorem d_law_1286 : decode code 1286 = .ok (.iconst 1, 1) := by decide +kernel
theorem d_law_1287 : decode code 1287 = .ok (.iadd, 1) := by decide +kernel
theorem d_law_1288 : decode code 1288 = .ok (.iaload, 1) := by decide +kernel
theorem d_law_1289 : decode code 1289 = .ok (.aload_n 3, 1) := by decide +kernel
theorem d_law_1290 : decode code 1290 = .ok (.invokestatic 140, 3) := by decide +kernel
theorem d_law_1293 : decode code 1293 = .ok (.istore 5, 2) := by decide +kernel
theorem d_law_1295 : decode code 1295 = .ok (.aload_n 2, 1) := by decide +kernel
theorem d_law_1296 : decode code 1296 = .ok (.aload_n 0, 1) := by decide +kernel
theorem d_law_1297 : decode code 1297 = .ok (.iload 4, 2) := by decide +kernel
theorem d_law_1299 : decode code 1299 = .ok (.iconst 1, 1) := by decide +kernel
theorem d_law_1300 : decode code 1300 = .ok (.iadd, 1) := by decide +kernel
theorem d_law_1301 : decode code 1301 = .ok (.iaload, 1) := by decide +kernel
theorem d_law_1302 : decode code 1302 = .ok (.invokevirtual 142, 3) := by decide +kernel
theorem d_law_1305 : decode code 1305 = .ok (.istore 6, 2) := by decide +kernel
theorem d_law_1307 : decode code 1307 = .ok (.aload_n 2, 1) := by decide +kernel
theorem d_law_1308 : decode code 1308 = .ok (.invokevirtual 80, 3) := by decide +kernel
theorem d_law_1311 : decode code 1311 = .ok (.iload 5, 2) := by decide +kernel
theorem d_law_1313 : decode code 1313 = .ok (.if_icmp .eq 5, 3) := by decide +kernel
theorem d_law_1316 : decode code 1316 = .ok (.iconst 0, 1) := by decide +kernel
theorem d_law_1317 : decode code 1317 = .ok (.ireturn, 1) := by decide +kernel
theorem d_law_1318 : decode code 1318 = .ok (.iload 5, 2) := by decide +kernel
theorem d_law_1320 : decode code 1320 = .ok (.ifCond .ne 15, 3) := by decide +kernel
theorem d_law_1323 : decode code 1323 = .ok (.aload_n 3, 1) := by decide +kernel
theorem d_law_1324 : decode code 1324 = .ok (.iconst 0, 1) := by decide +kernel
theorem d_law_1325 : decode code 1325 = .ok (.laload, 1) := by decide +kernel
theorem d_law_1326 : decode code 1326 = .ok (.iload 6, 2) := by decide +kernel
theorem d_law_1328 : decode code 1328 = .ok (.i2l, 1) := by decide +kernel
theorem d_law_1329 : decode code 1329 = .ok (.lcmp, 1) := by decide +kernel
theorem d_law_1330 : decode code 1330 = .ok (.ifCond .eq 5, 3) := by decide +kernel
theorem d_law_1333 : decode code 1333 = .ok (.iconst 0, 1) := by decide +kernel
theorem d_law_1334 : decode code 1334 = .ok (.ireturn, 1) := by decide +kernel
theorem d_law_1335 : decode code 1335 = .ok (.goto 3, 3) := by decide +kernel
theorem d_law_1338 : decode code 1338 = .ok (.iinc 4 4, 3) := by decide +kernel
theorem d_law_1341 : decode code 1341 = .ok (.goto (-1318), 3) := by decide +kernel
theorem d_law_1344 : decode code 1344 = .ok (.iconst 1, 1) := by decide +kernel
theorem d_law_1345 : decode code 1345 = .ok (.ireturn, 1) := by decide +kernel
