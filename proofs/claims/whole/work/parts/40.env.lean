/-! OURS: what lies around our cells (links among nest mates, the two texts, statics of the JDK), contracts that ask for it, constructors. -/
def rd_nests : List Cond := [.methodLinkNest RX8 9 yX7_init "RoundDays", .methodLinkNest RX8 18 yX5_init "RoundDays", .methodLinkNest RX5 11 yX3_init "RoundDays", .methodLinkNest RX8 25 yX3_init "RoundDays", .methodLinkNest RX0 17 yX3_init "RoundDays", .methodLinkNest RX8 47 yX2_init "RoundDays", .methodLinkNest RX8 54 yX6_init "RoundDays", .methodLinkNest RX6 17 yX3_init "RoundDays", .methodLinkNest RX8 61 yX4_init "RoundDays", .methodLinkNest RX8 71 yX1_init "RoundDays"]
def rd_nst (U : State) : Prop := va_Nw (.methodLinkNest RX8 9 yX7_init "RoundDays") U ∧ va_Nw (.methodLinkNest RX8 18 yX5_init "RoundDays") U ∧ va_Nw (.methodLinkNest RX5 11 yX3_init "RoundDays") U ∧ va_Nw (.methodLinkNest RX8 25 yX3_init "RoundDays") U ∧ va_Nw (.methodLinkNest RX0 17 yX3_init "RoundDays") U ∧ va_Nw (.methodLinkNest RX8 47 yX2_init "RoundDays") U ∧ va_Nw (.methodLinkNest RX8 54 yX6_init "RoundDays") U ∧ va_Nw (.methodLinkNest RX6 17 yX3_init "RoundDays") U ∧ va_Nw (.methodLinkNest RX8 61 yX4_init "RoundDays") U ∧ va_Nw (.methodLinkNest RX8 71 yX1_init "RoundDays") U
def rd_txt : List (List Int32) := [[116, 101, 97, 109, 115], [100, 97, 121]]
def rd_Env (adK adV : Nat → Nat) (fm : Nat) (A : Nat → Prop) (U : State) : Prop :=
  rd_nst U ∧ va_AO RX3 U ∧ vk_S 2 [5, 3] rd_txt adK adV A U U.heap ∧ (vk_R RX5 114 "teams" (adK 0) U ∧ vk_R RX5 119 "day" (adK 1) U) ∧ va_Z "java/lang/String" "COMPACT_STRINGS" "Z" (.int 1) A U U.heap ∧ va_Zq "jdk/internal/util/Preconditions" "SIOOBE_FORMATTER" "Ljava/util/function/BiFunction;" A U U.heap
def rd_ok (E : (Nat → Prop) → State → Prop) : Prop := (∀ (A : Nat → Prop) (U : State) (g : JFrame) (mk : MethodId) (a : Array Value), E A U → E A (U.calling g mk a)) ∧ ∀ (A B : Nat → Prop) (s U : State) (H : Heap) (locs : List Loc), E A s → va_S A s.heap H locs → U.heap = H → s.WarmedH U.vm → (∀ q, B q → A q) → E B U
theorem rd_Env_ok (adK adV : Nat → Nat) (fm : Nat) : rd_ok (rd_Env adK adV fm) := by
  constructor
  · intro A U g mk a h
    obtain ⟨⟨n1, n2, n3, n4, n5, n6, n7, n8, n9, n10⟩, h2, h3, ⟨h4, h5⟩, h6, h7⟩ := h
    have hv : U.vm = (U.calling g mk a).vm := rfl
    exact ⟨⟨va_Nw.same rfl hv n1, va_Nw.same rfl hv n2, va_Nw.same rfl hv n3, va_Nw.same rfl hv n4, va_Nw.same rfl hv n5, va_Nw.same rfl hv n6, va_Nw.same rfl hv n7, va_Nw.same rfl hv n8, va_Nw.same rfl hv n9, va_Nw.same rfl hv n10⟩, va_AO.moved (u := U) (U := U.calling g mk a) (Vm.Alike.refl U.vm) h2, vk_S.moved (u := U) (U := U.calling g mk a) (Vm.Alike.refl U.vm) h3, ⟨vk_R.same hv.symm h4, vk_R.same hv.symm h5⟩, va_Z.moved (u := U) (U := U.calling g mk a) (Vm.Alike.refl U.vm) h6, va_Zq.moved (u := U) (U := U.calling g mk a) (Vm.Alike.refl U.vm) h7⟩
  · intro A B s U H locs h hS hU hW hAB
    obtain ⟨⟨n1, n2, n3, n4, n5, n6, n7, n8, n9, n10⟩, h2, h3, ⟨h4, h5⟩, h6, h7⟩ := h
    refine ⟨⟨va_Nw.warmM hW n1, va_Nw.warmM hW n2, va_Nw.warmM hW n3, va_Nw.warmM hW n4, va_Nw.warmM hW n5, va_Nw.warmM hW n6, va_Nw.warmM hW n7, va_Nw.warmM hW n8, va_Nw.warmM hW n9, va_Nw.warmM hW n10⟩, va_AO.moved hW.alike h2, ?_, ⟨vk_R.warm hW h4, vk_R.warm hW h5⟩, ?_, ?_⟩
    · rw [hU]; exact ((h3.kept hS.2.1).moved hW.alike).narrow hAB
    · rw [hU]; exact ((h6.kept hS.2.1).moved hW.alike).narrow hAB
    · rw [hU]; exact ((h7.kept hS.2.1).moved hW.alike).narrow hAB
def rd_PE (E : (Nat → Prop) → State → Prop) (D : va_G) (tys : List (ClassId × FieldType)) (w0 : va_W) (sz : Nat) : State → Prop := fun U => rd_P D tys w0 sz U ∧ E (va_A w0 sz) U
def rd_IE (E : (Nat → Prop) → State → Prop) (l : Launch) (y : MethodName) (ws : List Cond) (rm : Room) (av : List Value) (D : va_G) (tys : List (ClassId × FieldType)) (w0 w1 : va_W) (r : Int32) : Prop := ∀ sz : Nat, Met l y ws rm (va_Pc av (rd_PE E D tys w0 sz)) (va_Qi (fun (r' : Int32) (_ : Unit) => r' = r) (rd_B D tys w0 w1 sz) (va_A w0 sz)) 0 0 (va_A w0 sz)
def rd_VE (E : (Nat → Prop) → State → Prop) (l : Launch) (y : MethodName) (ws : List Cond) (rm : Room) (av : List Value) (D : va_G) (tys : List (ClassId × FieldType)) (w0 w1 : va_W) : Prop := ∀ sz : Nat, Met l y ws rm (va_Pc av (rd_PE E D tys w0 sz)) (va_Qv (fun (_ : Unit) => True) (rd_B D tys w0 w1 sz) (va_A w0 sz)) 0 0 (va_A w0 sz)
/-- a constructor: new cells at the addresses u -/
def rd_BN {σ : Type} (D : va_G) (tys : List (ClassId × FieldType)) (w0 : va_W) (w1 : σ → va_W) (sz : Nat) : σ → State → Prop := fun u t => va_P D vwCl (w1 u) t.heap ∧ va_K D vwCl tys t ∧ va_D (va_A w0 sz) (w1 u)
def rd_N {σ : Type} (E : (Nat → Prop) → State → Prop) (l : Launch) (y : MethodName) (ws : List Cond) (rm : Room) (av : List Value) (D : va_G) (tys : List (ClassId × FieldType)) (w0 : va_W) (w1 : σ → va_W) (mc ms : Nat) : Prop := ∀ sz : Nat, Met l y ws rm (va_Pc av (rd_PE E D tys w0 sz)) (va_Qv (fun (_ : σ) => True) (rd_BN D tys w0 w1 sz) (va_A w0 sz)) mc ms (va_A w0 sz)
theorem rd_blindE {E : (Nat → Prop) → State → Prop} (hE : rd_ok E) {av : List Value} {D : va_G} {tys : List (ClassId × FieldType)} {w0 : va_W} {sz : Nat} : FrameBlind (va_Pc av (rd_PE E D tys w0 sz)) := fun a U g mk q => by
  obtain ⟨q0, ⟨q1, qP, qK, qD⟩, qE⟩ := q
  exact ⟨q0, ⟨q1, qP, va_K.moved (u := U) (U := U.calling g mk a) (Vm.Alike.refl U.vm) qK, qD⟩, hE.1 _ _ _ _ _ qE⟩
theorem rd_enterIE {E : (Nat → Prop) → State → Prop} {l : Launch} {y : MethodName} {ws ws' : List Cond} {rm : Room} {av : List Value} {D : va_G} {tys : List (ClassId × FieldType)} {w0 w1 : va_W} {r : Int32} {cc : ByteArray} {maxL : Nat} (hy : plainName y.cls = true) (hw : ws = Cond.code y cc maxL (some .int) :: ws') (hlen : (lg_sl av).length ≤ maxL)
    (body : ∀ (p : Program) (e : Env) (s : State) (m : MethodId) (args : Array Value) (below : List Frame) (meth : Method) (c : Code) (A : Nat → Prop) (Q : State → Prop) (ls : Array Slot), p.tables.exec = Jvm.exec → c.code = cc → c.maxLocals = maxL → s.vm.findClass y.cls = some m.cls → (∀ w ∈ ws, w.before args s = true) → (∀ q : Nat, s.heap.size ≤ q → A q) → E A s → va_K D vwCl tys s → va_P D vwCl w0 s.heap → va_D A w0 → va_S A s.heap s.heap [] → lv_has ls maxL (lv_args 0 av) →
      (∀ {pc : Nat} {ls : Array Slot} {H : Heap} {locs : List Loc}, decode cc pc = .ok (.ireturn, 1) → va_P D vwCl w1 H → va_D A w1 → va_S A s.heap H locs → W p l e rm s m args below meth c H locs 0 0 Q (F0 m pc ls [.int r])) →
      W p l e rm s m args below meth c s.heap [] 0 0 Q (F0 m 0 ls [])) : rd_IE E l y ws rm av D tys w0 w1 r := by
  intro sz
  refine Met.ofW (cc := cc) (maxL := maxL) (ret := some .int) hy hw ?_
  intro p e s m args below meth c s₁ B hml hv
  obtain ⟨rfl, ⟨hsz, hP, hK, hD0⟩, hE⟩ := hv
  have hlocks := B.notSynchronized
  have hr := B.returns
  subst hsz
  have hl := lv_entry av (n := maxL) hlen
  rw [lg_entry_eq]
  refine body p e s m _ below meth c (va_A w0 s.heap.size) _ _ B.exec B.bytes hml (findClass_of_methodNamed B.named) (atoms_spec (ws := ws) B.pre) (fun q h => Or.inr h) hE hK hP hD0.self va_S.rf hl ?_
  intro pc ls H locs hd hP1 hD1 hS1
  exact W.iret B.exec B.bytes hr (fun t ht hW => ⟨⟨r, (), rfl, rfl, by rw [ht]; exact hP1, va_K.moved hW.alike hK, hD1⟩, hS1.F ht⟩) hS1.2.2 hd hlocks
theorem rd_enterZE {E : (Nat → Prop) → State → Prop} {l : Launch} {y : MethodName} {ws ws' : List Cond} {rm : Room} {av : List Value} {D : va_G} {tys : List (ClassId × FieldType)} {w0 w1 : va_W} {r : Int32} {cc : ByteArray} {maxL : Nat} (hy : plainName y.cls = true) (hw : ws = Cond.code y cc maxL (some .boolean) :: ws') (hlen : (lg_sl av).length ≤ maxL)
    (body : ∀ (p : Program) (e : Env) (s : State) (m : MethodId) (args : Array Value) (below : List Frame) (meth : Method) (c : Code) (A : Nat → Prop) (Q : State → Prop) (ls : Array Slot), p.tables.exec = Jvm.exec → c.code = cc → c.maxLocals = maxL → s.vm.findClass y.cls = some m.cls → (∀ w ∈ ws, w.before args s = true) → (∀ q : Nat, s.heap.size ≤ q → A q) → E A s → va_K D vwCl tys s → va_P D vwCl w0 s.heap → va_D A w0 → va_S A s.heap s.heap [] → lv_has ls maxL (lv_args 0 av) →
      (∀ {pc : Nat} {ls : Array Slot} {H : Heap} {locs : List Loc}, (r = 0 ∨ r = 1) → decode cc pc = .ok (.ireturn, 1) → va_P D vwCl w1 H → va_D A w1 → va_S A s.heap H locs → W p l e rm s m args below meth c H locs 0 0 Q (F0 m pc ls [.int r])) →
      W p l e rm s m args below meth c s.heap [] 0 0 Q (F0 m 0 ls [])) : rd_IE E l y ws rm av D tys w0 w1 r := by
  intro sz
  refine Met.ofW (cc := cc) (maxL := maxL) (ret := some .boolean) hy hw ?_
  intro p e s m args below meth c s₁ B hml hv
  obtain ⟨rfl, ⟨hsz, hP, hK, hD0⟩, hE⟩ := hv
  have hlocks := B.notSynchronized
  have hr := B.returns
  subst hsz
  have hl := lv_entry av (n := maxL) hlen
  rw [lg_entry_eq]
  refine body p e s m _ below meth c (va_A w0 s.heap.size) _ _ B.exec B.bytes hml (findClass_of_methodNamed B.named) (atoms_spec (ws := ws) B.pre) (fun q h => Or.inr h) hE hK hP hD0.self va_S.rf hl ?_
  intro pc ls H locs h01 hd hP1 hD1 hS1
  exact W.zret B.exec B.bytes hr (rd_b01 h01) (fun t ht hW => ⟨⟨r, (), rfl, rfl, by rw [ht]; exact hP1, va_K.moved hW.alike hK, hD1⟩, hS1.F ht⟩) hS1.2.2 hd hlocks
theorem rd_enterVE {E : (Nat → Prop) → State → Prop} {l : Launch} {y : MethodName} {ws ws' : List Cond} {rm : Room} {av : List Value} {D : va_G} {tys : List (ClassId × FieldType)} {w0 w1 : va_W} {cc : ByteArray} {maxL : Nat} (hy : plainName y.cls = true) (hw : ws = Cond.code y cc maxL none :: ws') (hlen : (lg_sl av).length ≤ maxL)
    (body : ∀ (p : Program) (e : Env) (s : State) (m : MethodId) (args : Array Value) (below : List Frame) (meth : Method) (c : Code) (A : Nat → Prop) (Q : State → Prop) (ls : Array Slot), p.tables.exec = Jvm.exec → c.code = cc → c.maxLocals = maxL → s.vm.findClass y.cls = some m.cls → (∀ w ∈ ws, w.before args s = true) → (∀ q : Nat, s.heap.size ≤ q → A q) → E A s → va_K D vwCl tys s → va_P D vwCl w0 s.heap → va_D A w0 → va_S A s.heap s.heap [] → lv_has ls maxL (lv_args 0 av) →
      (∀ {pc : Nat} {ls : Array Slot} {H : Heap} {locs : List Loc}, decode cc pc = .ok (.return_, 1) → va_P D vwCl w1 H → va_D A w1 → va_S A s.heap H locs → W p l e rm s m args below meth c H locs 0 0 Q (F0 m pc ls [])) →
      W p l e rm s m args below meth c s.heap [] 0 0 Q (F0 m 0 ls [])) : rd_VE E l y ws rm av D tys w0 w1 := by
  intro sz
  refine Met.ofW (cc := cc) (maxL := maxL) (ret := none) hy hw ?_
  intro p e s m args below meth c s₁ B hml hv
  obtain ⟨rfl, ⟨hsz, hP, hK, hD0⟩, hE⟩ := hv
  have hlocks := B.notSynchronized
  have hr := B.returns
  subst hsz
  have hl := lv_entry av (n := maxL) hlen
  rw [lg_entry_eq]
  refine body p e s m _ below meth c (va_A w0 s.heap.size) _ _ B.exec B.bytes hml (findClass_of_methodNamed B.named) (atoms_spec (ws := ws) B.pre) (fun q h => Or.inr h) hE hK hP hD0.self va_S.rf hl ?_
  intro pc ls H locs hd hP1 hD1 hS1
  exact W.vret B.exec B.bytes hr (fun t ht hW => ⟨⟨(), rfl, trivial, by rw [ht]; exact hP1, va_K.moved hW.alike hK, hD1⟩, hS1.F ht⟩) hS1.2.2 hd hlocks
theorem rd_enterN {σ : Type} {E : (Nat → Prop) → State → Prop} {l : Launch} {y : MethodName} {ws ws' : List Cond} {rm : Room} {av : List Value} {D : va_G} {tys : List (ClassId × FieldType)} {w0 : va_W} {w1 : σ → va_W} {mc ms : Nat} {cc : ByteArray} {maxL : Nat} (hy : plainName y.cls = true) (hw : ws = Cond.code y cc maxL none :: ws') (hlen : (lg_sl av).length ≤ maxL)
    (body : ∀ (p : Program) (e : Env) (s : State) (m : MethodId) (args : Array Value) (below : List Frame) (meth : Method) (c : Code) (A : Nat → Prop) (Q : State → Prop) (ls : Array Slot), p.tables.exec = Jvm.exec → c.code = cc → c.maxLocals = maxL → s.vm.findClass y.cls = some m.cls → (∀ w ∈ ws, w.before args s = true) → (∀ q : Nat, s.heap.size ≤ q → A q) → E A s → meth.name = y.name → va_K D vwCl tys s → va_P D vwCl w0 s.heap → va_D A w0 → va_S A s.heap s.heap [] → lv_has ls maxL (lv_args 0 av) →
      (∀ {pc : Nat} {ls : Array Slot} {H : Heap} {locs : List Loc} (u : σ), decode cc pc = .ok (.return_, 1) → va_P D vwCl (w1 u) H → va_D A (w1 u) → va_S A s.heap H locs → W p l e rm s m args below meth c H locs mc ms Q (F0 m pc ls [])) →
      W p l e rm s m args below meth c s.heap [] 0 0 Q (F0 m 0 ls [])) : rd_N E l y ws rm av D tys w0 w1 mc ms := by
  intro sz
  refine Met.ofW (cc := cc) (maxL := maxL) (ret := none) hy hw ?_
  intro p e s m args below meth c s₁ B hml hv
  obtain ⟨rfl, ⟨hsz, hP, hK, hD0⟩, hE⟩ := hv
  have hlocks := B.notSynchronized
  have hr := B.returns
  subst hsz
  have hl := lv_entry av (n := maxL) hlen
  rw [lg_entry_eq]
  refine body p e s m _ below meth c (va_A w0 s.heap.size) _ _ B.exec B.bytes hml (findClass_of_methodNamed B.named) (atoms_spec (ws := ws) B.pre) (fun q h => Or.inr h) hE (name_of_methodNamed B.named B.method).1 hK hP hD0.self va_S.rf hl ?_
  intro pc ls H locs u hd hP1 hD1 hS1
  exact W.vret B.exec B.bytes hr (fun t ht hW => ⟨⟨u, rfl, trivial, by rw [ht]; exact hP1, va_K.moved hW.alike hK, hD1⟩, hS1.F ht⟩) hS1.2.2 hd hlocks
section RDE
variable {p : Program} {l : Launch} {e : Env} {R : Room} {s : State} {m : MethodId} {args : Array Value} {below : List Frame} {meth : Method} {c : Code} {H : Heap} {locs : List Loc} {cells slots : Nat} {Q : State → Prop}
variable {cc : ByteArray} {pc : Nat} {ls : Array Slot} {rest : List Value} {A : Nat → Prop} {D : va_G} {tys : List (ClassId × FieldType)} {E : (Nat → Prop) → State → Prop}
theorem rd_callViE {y : MethodName} {bytes : ByteArray} {maxL nL n index : Nat} {ret : Option FieldType} {ws : List Cond} {rm : Room} {Ts : List Cond} {own C : String} {b ci : Nat} {T : u_T} {N : Nat} {fs : List Value} {w0 w1 W0 W1 wr : va_W} {r : Int32} {st : List Value} (As rest : List Value) (hok : rd_ok E) (hE : E A s)
    (S : CallFix p m c cc nL s args Ts own) (hM : rd_IE E l y ws rm (.ref b :: As) D tys w0 w1 r) (cw : CallW R s args own C index y bytes maxL ret ws rm 0 0 n) (hst : st = As.reverse ++ .ref b :: rest) (hn : As.length = n) (hsize : ls.size = nL) (hW : (rest.map fun v => v.category).sum ≤ 8) (hdg : decode cc pc = .ok (.invokevirtual index, 3)) (hfit : cells ≤ R.cells ∧ slots ≤ R.slots)
    (hK : va_K D vwCl tys s) (hP : va_P D vwCl W0 H) (hD : va_D A W0) (hS : va_S A s.heap H locs) (hA : ∀ q : Nat, s.heap.size ≤ q → A q) (hc : vwCl[ci]? = some (C, T, N)) (he : w0[0]? = some (b, .inr (ci, fs))) (isC isR perm : List Nat) (hF : rd_Fr isC isR perm W0 w0 w1 wr W1)
    (kk : ∀ (H1 : Heap) (locs1 : List Loc), va_P D vwCl W1 H1 → va_D A W1 → va_S A s.heap H1 locs1 → W p l e R s m args below meth c H1 locs1 cells slots Q (F0 m (pc + 3) ls (.int r :: rest))) : W p l e R s m args below meth c H locs cells slots Q (F0 m pc ls st) := by
  subst hst
  obtain ⟨n1, n2, n3, n4⟩ := hF.nd
  obtain ⟨⟨hC, hR, hp⟩, -⟩ := hF
  have hPc : va_P D vwCl w0 H := hP.sub isC (rd_fm hC)
  have hDc := hD.sub isC n1 hC
  have hFc := va_free (wc := w0) hD hS hA isC hC
  refine va_calli (va_runV (As := As) (rest := rest) S (hM H.size) cw ⟨rd_blindE hok, va_recv hK hPc hc he, fun U hU hW => ⟨rfl, ⟨by rw [hU], by rw [hU]; exact hPc, va_K.moved hW.alike hK, hDc.weaken (fun _ _ _ _ => trivial)⟩, hok.2 A _ s U H locs hE hS hU hW hFc⟩⟩ rfl hn hsize rfl (lv_room hW) hdg ⟨hfit.1, hfit.2⟩) hS (fun q _ h => hFc q h) hFc (fun r1 u t H1 locs1 ht hvm hw hB hz1 hk1 hS => ?_)
  obtain ⟨hP1, hK1, hD1⟩ := hB
  rw [ht] at hP1
  subst hw
  obtain ⟨hP2, hD2⟩ := va_join (wr := wr) (w1 := w1) hP hD isC isR hC hR n2 n4 hk1 hFc hP1 hD1
  exact kk H1 locs1 (hP2.sub perm (rd_fm hp)) (hD2.sub perm n3 hp) hS
theorem rd_callVvE {y : MethodName} {bytes : ByteArray} {maxL nL n index : Nat} {ret : Option FieldType} {ws : List Cond} {rm : Room} {Ts : List Cond} {own C : String} {b ci : Nat} {T : u_T} {N : Nat} {fs : List Value} {w0 w1 W0 W1 wr : va_W} {st : List Value} (As rest : List Value) (hok : rd_ok E) (hE : E A s)
    (S : CallFix p m c cc nL s args Ts own) (hM : rd_VE E l y ws rm (.ref b :: As) D tys w0 w1) (cw : CallW R s args own C index y bytes maxL ret ws rm 0 0 n) (hst : st = As.reverse ++ .ref b :: rest) (hn : As.length = n) (hsize : ls.size = nL) (hW : (rest.map fun v => v.category).sum ≤ 8) (hdg : decode cc pc = .ok (.invokevirtual index, 3)) (hfit : cells ≤ R.cells ∧ slots ≤ R.slots)
    (hK : va_K D vwCl tys s) (hP : va_P D vwCl W0 H) (hD : va_D A W0) (hS : va_S A s.heap H locs) (hA : ∀ q : Nat, s.heap.size ≤ q → A q) (hc : vwCl[ci]? = some (C, T, N)) (he : w0[0]? = some (b, .inr (ci, fs))) (isC isR perm : List Nat) (hF : rd_Fr isC isR perm W0 w0 w1 wr W1)
    (kk : ∀ (H1 : Heap) (locs1 : List Loc), va_P D vwCl W1 H1 → va_D A W1 → va_S A s.heap H1 locs1 → W p l e R s m args below meth c H1 locs1 cells slots Q (F0 m (pc + 3) ls rest)) : W p l e R s m args below meth c H locs cells slots Q (F0 m pc ls st) := by
  subst hst
  obtain ⟨n1, n2, n3, n4⟩ := hF.nd
  obtain ⟨⟨hC, hR, hp⟩, -⟩ := hF
  have hPc : va_P D vwCl w0 H := hP.sub isC (rd_fm hC)
  have hDc := hD.sub isC n1 hC
  have hFc := va_free (wc := w0) hD hS hA isC hC
  refine va_callv (va_runV (As := As) (rest := rest) S (hM H.size) cw ⟨rd_blindE hok, va_recv hK hPc hc he, fun U hU hW => ⟨rfl, ⟨by rw [hU], by rw [hU]; exact hPc, va_K.moved hW.alike hK, hDc.weaken (fun _ _ _ _ => trivial)⟩, hok.2 A _ s U H locs hE hS hU hW hFc⟩⟩ rfl hn hsize rfl (lv_room hW) hdg ⟨hfit.1, hfit.2⟩) hS (fun q _ h => hFc q h) hFc (fun u t H1 locs1 ht hvm hw hB hz1 hk1 hS => ?_)
  obtain ⟨hP1, hK1, hD1⟩ := hB
  rw [ht] at hP1
  obtain ⟨hP2, hD2⟩ := va_join (wr := wr) (w1 := w1) hP hD isC isR hC hR n2 n4 hk1 hFc hP1 hD1
  exact kk H1 locs1 (hP2.sub perm (rd_fm hp)) (hD2.sub perm n3 hp) hS
/-- a nest mate's private constructor -/
theorem rd_callN {σ : Type} {y : MethodName} {bytes : ByteArray} {maxL nL n index mc ms : Nat} {ws : List Cond} {rm : Room} {Ts : List Cond} {own host : String} {b : Nat} {w0 W0 wr : va_W} {w1 : σ → va_W} {st : List Value} (As rest : List Value) (hok : rd_ok E) (hE : E A s)
    (S : CallFix p m c cc nL s args Ts own) (hM : rd_N E l y ws rm (.ref b :: As) D tys w0 w1 mc ms) (cw : va_CN R s args own index y host bytes maxL none ws rm mc ms n ∧ y.name = "<init>" ∧ (Cond.instanceMethod y).before args s = true) (hst : st = As.reverse ++ .ref b :: rest) (hn : As.length = n) (hsize : ls.size = nL) (hW : (rest.map fun v => v.category).sum ≤ 8) (hdg : decode cc pc = .ok (.invokespecial index, 3)) (hfit : cells + mc ≤ R.cells ∧ slots + ms ≤ R.slots)
    (hK : va_K D vwCl tys s) (hP : va_P D vwCl W0 H) (hD : va_D A W0) (hS : va_S A s.heap H locs) (hA : ∀ q : Nat, s.heap.size ≤ q → A q) (isC isR : List Nat) (hC : isC.map (fun i => W0[i]?) = w0.map some) (hR : isR.map (fun i => W0[i]?) = wr.map some) (hnd : (va_nd isC && va_nd isR && isR.all (fun i => !isC.contains i)) = true) {ce sl : Nat} (hce : cells + mc = ce) (hsl : slots + ms = sl)
    (kk : ∀ (u : σ) (H1 : Heap) (locs1 : List Loc), va_P D vwCl (wr ++ w1 u) H1 → va_D A (wr ++ w1 u) → va_S A s.heap H1 locs1 → W p l e R s m args below meth c H1 locs1 ce sl Q (F0 m (pc + 3) ls rest)) : W p l e R s m args below meth c H locs cells slots Q (F0 m pc ls st) := by
  subst hst; subst hce; subst hsl
  obtain ⟨n1, n2, -, n4⟩ := (show rd_Fr isC isR [] W0 w0 [] wr [] from ⟨⟨hC, hR, rfl⟩, by simpa [va_nd] using hnd⟩).nd
  have hPc : va_P D vwCl w0 H := hP.sub isC (rd_fm hC)
  have hDc := hD.sub isC n1 hC
  have hFc := va_free (wc := w0) hD hS hA isC hC
  refine va_callv (va_runIN (As := As) (rest := rest) S (hM H.size) cw ⟨rd_blindE hok, fun U hU hW => ⟨rfl, ⟨by rw [hU], by rw [hU]; exact hPc, va_K.moved hW.alike hK, hDc.weaken (fun _ _ _ _ => trivial)⟩, hok.2 A _ s U H locs hE hS hU hW hFc⟩⟩ rfl hn hsize rfl (lv_room hW) hdg hfit) hS (fun q _ h => hFc q h) hFc (fun u t H1 locs1 ht hvm hw hB hz1 hk1 hS => ?_)
  obtain ⟨hP1, hK1, hD1⟩ := hB
  rw [ht] at hP1
  obtain ⟨hP2, hD2⟩ := va_join (wr := wr) (w1 := w1 u) hP hD isC isR hC hR n2 n4 hk1 hFc hP1 hD1
  exact kk u H1 locs1 hP2 hD2 hS
theorem rd_callI {σ : Type} {y : MethodName} {bytes : ByteArray} {maxL nL n index mc ms : Nat} {ws : List Cond} {rm : Room} {Ts : List Cond} {own : String} {b : Nat} {w0 W0 wr : va_W} {w1 : σ → va_W} {st : List Value} (As rest : List Value) (hok : rd_ok E) (hE : E A s)
    (S : CallFix p m c cc nL s args Ts own) (hM : rd_N E l y ws rm (.ref b :: As) D tys w0 w1 mc ms) (cw : CallB R s args own index y bytes maxL none ws rm mc ms n ∧ y.name = "<init>" ∧ (Cond.instanceMethod y).before args s = true) (hst : st = As.reverse ++ .ref b :: rest) (hn : As.length = n) (hsize : ls.size = nL) (hW : (rest.map fun v => v.category).sum ≤ 8) (hdg : decode cc pc = .ok (.invokespecial index, 3)) (hfit : cells + mc ≤ R.cells ∧ slots + ms ≤ R.slots)
    (hK : va_K D vwCl tys s) (hP : va_P D vwCl W0 H) (hD : va_D A W0) (hS : va_S A s.heap H locs) (hA : ∀ q : Nat, s.heap.size ≤ q → A q) (isC isR : List Nat) (hC : isC.map (fun i => W0[i]?) = w0.map some) (hR : isR.map (fun i => W0[i]?) = wr.map some) (hnd : (va_nd isC && va_nd isR && isR.all (fun i => !isC.contains i)) = true) {ce sl : Nat} (hce : cells + mc = ce) (hsl : slots + ms = sl)
    (kk : ∀ (u : σ) (H1 : Heap) (locs1 : List Loc), va_P D vwCl (wr ++ w1 u) H1 → va_D A (wr ++ w1 u) → va_S A s.heap H1 locs1 → W p l e R s m args below meth c H1 locs1 ce sl Q (F0 m (pc + 3) ls rest)) : W p l e R s m args below meth c H locs cells slots Q (F0 m pc ls st) := by
  subst hst; subst hce; subst hsl
  obtain ⟨n1, n2, -, n4⟩ := (show rd_Fr isC isR [] W0 w0 [] wr [] from ⟨⟨hC, hR, rfl⟩, by simpa [va_nd] using hnd⟩).nd
  have hPc : va_P D vwCl w0 H := hP.sub isC (rd_fm hC)
  have hDc := hD.sub isC n1 hC
  have hFc := va_free (wc := w0) hD hS hA isC hC
  refine va_callv (va_runI (As := As) (rest := rest) S (hM H.size) cw ⟨rd_blindE hok, fun U hU hW => ⟨rfl, ⟨by rw [hU], by rw [hU]; exact hPc, va_K.moved hW.alike hK, hDc.weaken (fun _ _ _ _ => trivial)⟩, hok.2 A _ s U H locs hE hS hU hW hFc⟩⟩ rfl hn hsize rfl (lv_room hW) hdg hfit) hS (fun q _ h => hFc q h) hFc (fun u t H1 locs1 ht hvm hw hB hz1 hk1 hS => ?_)
  obtain ⟨hP1, hK1, hD1⟩ := hB
  rw [ht] at hP1
  obtain ⟨hP2, hD2⟩ := va_join (wr := wr) (w1 := w1 u) hP hD isC isR hC hR n2 n4 hk1 hFc hP1 hD1
  exact kk u H1 locs1 hP2 hD2 hS
/-- a new row of ints, or of truths: its class is the one that the tables name -/
theorem rd_newI (hexec : p.tables.exec = Jvm.exec) (hb : c.code = cc) (harr : (Cond.arrayClass .int).before args s = true) (hK : va_K D vwCl tys s) {W0 : va_W} (hP : va_P D vwCl W0 H) (hD : va_D A W0) (hS : va_S A s.heap H locs) (hA : ∀ q : Nat, s.heap.size ≤ q → A q) (t0 : Nat) {cI : ClassId} (ht : tys[t0]? = some (cI, .int)) {n : Int32} {N' : Nat} (hn : ¬ n < 0) (hN : n.toNatClampNeg = N') (hbytes : N' * componentBytes .int ≤ 536870912) (hcells : cells + 1 ≤ R.cells) (hslots : slots + N' ≤ R.slots) (hdg : decode cc pc = .ok (.newarray .int, 2)) {ce sl : Nat} (hce : cells + 1 = ce) (hsl : slots + N' = sl)
    (kk : ∀ (q : Nat) (H1 : Heap), va_P D vwCl (W0 ++ [(q, .inl (cI, N', .inl (fun _ => 0)))]) H1 → va_D A (W0 ++ [(q, .inl (cI, N', .inl (fun _ => 0)))]) → va_S A s.heap H1 locs → W p l e R s m args below meth c H1 locs ce sl Q (F0 m (pc + 2) ls (.ref q :: rest))) : W p l e R s m args below meth c H locs cells slots Q (F0 m pc ls (.int n :: rest)) := by
  subst hce; subst hsl
  refine va_newa (atype := .int) (ty := .int) (a0 := (N', .inl (fun _ => 0))) (N' := N') hexec hb harr rfl hK hP hD hS hA (fun _ => rfl) hn hN hbytes hcells hslots hdg (fun q cA H1 hK1 hP1 hD1 hS1 => ?_)
  have e1 : s.vm.findClass ("[" ++ FieldType.int.toString) = some cA := (hK1.2 tys.length (cA, .int) (by simp)).2
  have e2 : s.vm.findClass ("[" ++ FieldType.int.toString) = some cI := (hK.2 t0 _ ht).2
  have e3 : cA = cI := Option.some.inj (e1.symm.trans e2)
  subst e3
  exact kk q H1 hP1 hD1 hS1
theorem rd_newZ (hexec : p.tables.exec = Jvm.exec) (hb : c.code = cc) (harr : (Cond.arrayClass .boolean).before args s = true) (hK : va_K D vwCl tys s) {W0 : va_W} (hP : va_P D vwCl W0 H) (hD : va_D A W0) (hS : va_S A s.heap H locs) (hA : ∀ q : Nat, s.heap.size ≤ q → A q) (t0 : Nat) {cI : ClassId} (ht : tys[t0]? = some (cI, .boolean)) {n : Int32} {N' : Nat} (hn : ¬ n < 0) (hN : n.toNatClampNeg = N') (hbytes : N' * componentBytes .boolean ≤ 536870912) (hcells : cells + 1 ≤ R.cells) (hslots : slots + N' ≤ R.slots) (hdg : decode cc pc = .ok (.newarray .boolean, 2)) {ce sl : Nat} (hce : cells + 1 = ce) (hsl : slots + N' = sl)
    (kk : ∀ (q : Nat) (H1 : Heap), va_P D vwCl (W0 ++ [(q, .inl (cI, N', .inl (fun _ => 0)))]) H1 → va_D A (W0 ++ [(q, .inl (cI, N', .inl (fun _ => 0)))]) → va_S A s.heap H1 locs → W p l e R s m args below meth c H1 locs ce sl Q (F0 m (pc + 2) ls (.ref q :: rest))) : W p l e R s m args below meth c H locs cells slots Q (F0 m pc ls (.int n :: rest)) := by
  subst hce; subst hsl
  refine va_newa (atype := .boolean) (ty := .boolean) (a0 := (N', .inl (fun _ => 0))) (N' := N') hexec hb harr rfl hK hP hD hS hA (fun _ => rfl) hn hN hbytes hcells hslots hdg (fun q cA H1 hK1 hP1 hD1 hS1 => ?_)
  have e1 : s.vm.findClass ("[" ++ FieldType.boolean.toString) = some cA := (hK1.2 tys.length (cA, .boolean) (by simp)).2
  have e2 : s.vm.findClass ("[" ++ FieldType.boolean.toString) = some cI := (hK.2 t0 _ ht).2
  have e3 : cA = cI := Option.some.inj (e1.symm.trans e2)
  subst e3
  exact kk q H1 hP1 hD1 hS1
theorem rd_newQ (hexec : p.tables.exec = Jvm.exec) (hb : c.code = cc) {own C : String} {index : Nat} (hown : s.vm.findClass own = some m.cls) (hclink : (Cond.classLink own index C).before args s = true) (hover : va_AO C s) (hK : va_K D vwCl tys s) {W0 : va_W} (hP : va_P D vwCl W0 H) (hD : va_D A W0) (hS : va_S A s.heap H locs) (hA : ∀ q : Nat, s.heap.size ≤ q → A q) (t0 : Nat) {cP : ClassId} (ht : tys[t0]? = some (cP, .object C)) {n : Int32} {N' : Nat} (hn : ¬ n < 0) (hN : n.toNatClampNeg = N') (hbytes : N' * 4 ≤ 536870912) (hcells : cells + 1 ≤ R.cells) (hslots : slots + N' ≤ R.slots) (hdg : decode cc pc = .ok (.anewarray index, 3)) {ce sl : Nat} (hce : cells + 1 = ce) (hsl : slots + N' = sl)
    (kk : ∀ (q : Nat) (H1 : Heap), va_P D vwCl (W0 ++ [(q, .inl (cP, N', .inr (.inr (.inr (.inr (fun _ => none))))))]) H1 → va_D A (W0 ++ [(q, .inl (cP, N', .inr (.inr (.inr (.inr (fun _ => none))))))]) → va_S A s.heap H1 locs → W p l e R s m args below meth c H1 locs ce sl Q (F0 m (pc + 3) ls (.ref q :: rest))) : W p l e R s m args below meth c H locs cells slots Q (F0 m pc ls (.int n :: rest)) := by
  subst hce; subst hsl
  refine va_newq (N' := N') hexec hb hown hclink hover hK hP hD hS hA hn hN hbytes hcells hslots hdg (fun q cA H1 hK1 hP1 hD1 hS1 => ?_)
  obtain ⟨-, -, -, -, -, e1⟩ := (hK1.2 tys.length (cA, .object C) (by simp)).2
  obtain ⟨-, -, -, -, -, e2⟩ := (hK.2 t0 _ ht).2
  have e3 : cA = cP := Option.some.inj (e1.symm.trans e2)
  subst e3
  exact kk q H1 hP1 hD1 hS1
end RDE
theorem rd_arrV {cA : ClassId} {n : Nat} {f g : Nat → Value} (h : ∀ q : Nat, q < n → f q = g q) : arrV cA n f = arrV cA n g := by
  unfold arrV
  congr 1
  congr 1
  funext q
  exact h q.val q.isLt
/-- a row of references, read as another that is the same as far as it goes -/
theorem rd_Pq {D : va_G} {ws : va_W} {H : Heap} (hP : va_P D vwCl ws H) (k : Nat) {a n : Nat} {cA : ClassId} {f g : Nat → Option Nat} (hk : ws[k]? = some (a, .inl (cA, n, .inr (.inr (.inr (.inr f)))))) (hfg : ∀ q : Nat, q < n → f q = g q) : va_P D vwCl (ws.set k (a, .inl (cA, n, .inr (.inr (.inr (.inr g)))))) H := by
  intro i q hq
  by_cases h : k = i
  · subst h
    have hl : k < ws.length := by
      rcases Nat.lt_or_ge k ws.length with h | h
      · exact h
      · rw [List.getElem?_eq_none h] at hk; cases hk
    rw [List.getElem?_set_self hl] at hq
    cases hq
    have h1 : va_at D vwCl (a, .inl (cA, n, .inr (.inr (.inr (.inr f))))) H := hP k _ hk
    show H[a]? = some (vp_cell cA (n, .inr (.inr (.inr (.inr g)))))
    have h2 : H[a]? = some (vp_cell cA (n, .inr (.inr (.inr (.inr f))))) := h1
    rw [h2]
    congr 1
    show arrV cA n (fun j => va_rf (f j)) = arrV cA n (fun j => va_rf (g j))
    exact rd_arrV (fun j hj => by rw [hfg j hj])
  · rw [List.getElem?_set_ne h] at hq
    exact hP i q hq
theorem rd_Dq {A : Nat → Prop} {ws : va_W} (hD : va_D A ws) (k : Nat) {a : Nat} {e e2 : va_E} (hk : ws[k]? = some (a, e)) : va_D A (ws.set k (a, e2)) := va_D.set hD hk
