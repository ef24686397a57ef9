/-! OURS: the JDK's String.length and String.charAt at the two texts -/
def rd_len (i : Nat) : Nat := ([5, 3] : List Nat).getD i 0
def rd_chr (i q : Nat) : Int32 := (rd_txt.getD i []).getD q 0
theorem rd_chr_ok : ∀ i, i < 2 → ∀ q, q < rd_len i → ((rd_chr i q &&& 255).toUInt32 % 65536).toInt32 = rd_chr i q ∧ narrow .char (.int (rd_chr i q)) = .int (rd_chr i q) := by
  intro i hi q hq
  rcases rd_lt2 hi with rfl | rfl
  · have h5 : q < 5 := hq
    rcases (show q = 0 ∨ q = 1 ∨ q = 2 ∨ q = 3 ∨ q = 4 by omega) with rfl | rfl | rfl | rfl | rfl <;> exact ⟨by decide, by decide⟩
  · have h3 : q < 3 := hq
    rcases (show q = 0 ∨ q = 1 ∨ q = 2 by omega) with rfl | rfl | rfl <;> exact ⟨by decide, by decide⟩
theorem rd_enterTE {E : (Nat → Prop) → State → Prop} {l : Launch} {y : MethodName} {ws ws' : List Cond} {rm : Room} {av : List Value} {D : va_G} {tys : List (ClassId × FieldType)} {w0 w1 : va_W} {r : Int32} {cc : ByteArray} {maxL : Nat} (ty : FieldType) (hy : plainName y.cls = true) (hw : ws = Cond.code y cc maxL (some ty) :: ws') (hlen : (lg_sl av).length ≤ maxL) (hnr : narrow ty (.int r) = .int r)
    (body : ∀ (p : Program) (e : Env) (s : State) (m : MethodId) (args : Array Value) (below : List Frame) (meth : Method) (c : Code) (A : Nat → Prop) (Q : State → Prop) (ls : Array Slot), p.tables.exec = Jvm.exec → c.code = cc → c.maxLocals = maxL → s.vm.findClass y.cls = some m.cls → (∀ w ∈ ws, w.before args s = true) → (∀ q : Nat, s.heap.size ≤ q → A q) → E A s → va_K D vwCl tys s → va_P D vwCl w0 s.heap → va_D A w0 → va_S A s.heap s.heap [] → lv_has ls maxL (lv_args 0 av) →
      (∀ {pc : Nat} {ls : Array Slot} {H : Heap} {locs : List Loc}, decode cc pc = .ok (.ireturn, 1) → va_P D vwCl w1 H → va_D A w1 → va_S A s.heap H locs → W p l e rm s m args below meth c H locs 0 0 Q (F0 m pc ls [.int r])) →
      W p l e rm s m args below meth c s.heap [] 0 0 Q (F0 m 0 ls [])) : rd_IE E l y ws rm av D tys w0 w1 r := by
  intro sz
  refine Met.ofW (cc := cc) (maxL := maxL) (ret := some ty) hy hw ?_
  intro p e s m args below meth c s₁ B hml hv
  obtain ⟨rfl, ⟨hsz, hP, hK, hD0⟩, hE⟩ := hv
  have hlocks := B.notSynchronized
  have hr := B.returns
  subst hsz
  have hl := lv_entry av (n := maxL) hlen
  rw [lg_entry_eq]
  refine body p e s m _ below meth c (va_A w0 s.heap.size) _ _ B.exec B.bytes hml (findClass_of_methodNamed B.named) (atoms_spec (ws := ws) B.pre) (fun q h => Or.inr h) hE hK hP hD0.self va_S.rf hl ?_
  intro pc ls H locs hd hP1 hD1 hS1
  exact W.zret B.exec B.bytes hr hnr (fun t ht hW => ⟨⟨r, (), rfl, rfl, by rw [ht]; exact hP1, va_K.moved hW.alike hK, hD1⟩, hS1.F ht⟩) hS1.2.2 hd hlocks
section RDS
variable {p : Program} {l : Launch} {e : Env} {R : Room} {s : State} {m : MethodId} {args : Array Value} {below : List Frame} {meth : Method} {c : Code} {H : Heap} {locs : List Loc} {cells slots : Nat} {Q : State → Prop}
variable {cc : ByteArray} {pc : Nat} {ls : Array Slot} {rest : List Value} {A : Nat → Prop} {D : va_G} {tys : List (ClassId × FieldType)} {E : (Nat → Prop) → State → Prop}
/-- a call that has no cells of ours, its receiver anywhere -/
theorem rd_callViR {y : MethodName} {bytes : ByteArray} {maxL nL n index : Nat} {ret : Option FieldType} {ws : List Cond} {rm : Room} {Ts : List Cond} {own C : String} {b : Nat} {W0 : va_W} {r : Int32} {st : List Value} (As rest : List Value) (hok : rd_ok E) (hE : E A s)
    (S : CallFix p m c cc nL s args Ts own) (hM : rd_IE E l y ws rm (.ref b :: As) D tys [] [] r) (cw : CallW R s args own C index y bytes maxL ret ws rm 0 0 n) (hrec : ∃ cellB : Cell, H[b]? = some cellB ∧ cellB.vm.isStatics = false ∧ s.vm.findClass C = some cellB.cls) (hst : st = As.reverse ++ .ref b :: rest) (hn : As.length = n) (hsize : ls.size = nL) (hW : (rest.map fun v => v.category).sum ≤ 8) (hdg : decode cc pc = .ok (.invokevirtual index, 3)) (hfit : cells ≤ R.cells ∧ slots ≤ R.slots)
    (hK : va_K D vwCl tys s) (hP : va_P D vwCl W0 H) (hD : va_D A W0) (hS : va_S A s.heap H locs) (hA : ∀ q : Nat, s.heap.size ≤ q → A q) (isR : List Nat) (hR : isR.map (fun i => W0[i]?) = W0.map some) (hnd : va_nd isR = true)
    (kk : ∀ (H1 : Heap) (locs1 : List Loc), va_P D vwCl W0 H1 → va_D A W0 → va_S A s.heap H1 locs1 → W p l e R s m args below meth c H1 locs1 cells slots Q (F0 m (pc + 3) ls (.int r :: rest))) : W p l e R s m args below meth c H locs cells slots Q (F0 m pc ls st) := by
  subst hst
  have hPc : va_P D vwCl [] H := hP.sub [] rfl
  have hDc : va_D A [] := hD.sub [] rfl rfl
  have hFc := va_free (wc := []) hD hS hA [] rfl
  refine va_calli (va_runV (As := As) (rest := rest) S (hM H.size) cw ⟨rd_blindE hok, hrec, fun U hU hW => ⟨rfl, ⟨by rw [hU], by rw [hU]; exact hPc, va_K.moved hW.alike hK, hDc.weaken (fun _ _ _ _ => trivial)⟩, hok.2 A _ s U H locs hE hS hU hW hFc⟩⟩ rfl hn hsize rfl (lv_room hW) hdg ⟨hfit.1, hfit.2⟩) hS (fun q _ h => hFc q h) hFc (fun r1 u t H1 locs1 ht hvm hw hB hz1 hk1 hS => ?_)
  obtain ⟨hP1, hK1, hD1⟩ := hB
  rw [ht] at hP1
  subst hw
  obtain ⟨hP2, hD2⟩ := va_join (wr := W0) (w1 := []) hP hD [] isR rfl hR hnd (fun _ _ h => by cases h) hk1 hFc hP1 hD1
  rw [List.append_nil] at hP2 hD2
  exact kk H1 locs1 hP2 hD2 hS
theorem rd_callSiE {y : MethodName} {bytes : ByteArray} {maxL nL n index : Nat} {ret : Option FieldType} {ws : List Cond} {rm : Room} {Ts : List Cond} {own : String} {r : Int32} {st : List Value} (As rest : List Value) (hok : rd_ok E) (hE : E A s)
    (S : CallFix p m c cc nL s args Ts own) (hM : rd_IE E l y ws rm As D tys [] [] r) (cw : CallB R s args own index y bytes maxL ret ws rm 0 0 n ∧ (Cond.static y).before args s = true) (hst : st = As.reverse ++ rest) (hn : As.length = n) (hsize : ls.size = nL) (hW : (rest.map fun v => v.category).sum ≤ 8) (hdg : decode cc pc = .ok (.invokestatic index, 3)) (hfit : cells ≤ R.cells ∧ slots ≤ R.slots)
    (hK : va_K D vwCl tys s) (hP : va_P D vwCl [] H) (hD : va_D A []) (hS : va_S A s.heap H locs) (hA : ∀ q : Nat, s.heap.size ≤ q → A q)
    (kk : ∀ (H1 : Heap) (locs1 : List Loc), va_P D vwCl [] H1 → va_D A [] → va_S A s.heap H1 locs1 → W p l e R s m args below meth c H1 locs1 cells slots Q (F0 m (pc + 3) ls (.int r :: rest))) : W p l e R s m args below meth c H locs cells slots Q (F0 m pc ls st) := by
  subst hst
  have hFc := va_free (wc := []) hD hS hA [] rfl
  refine va_calli (va_runS (As := As) (rest := rest) S (hM H.size) cw ⟨rd_blindE hok, fun U hU hW => ⟨rfl, ⟨by rw [hU], by rw [hU]; exact hP, va_K.moved hW.alike hK, hD.weaken (fun _ _ _ _ => trivial)⟩, hok.2 A _ s U H locs hE hS hU hW hFc⟩⟩ rfl hn hsize rfl (lv_room hW) hdg ⟨hfit.1, hfit.2⟩) hS (fun q _ h => hFc q h) hFc (fun r1 u t H1 locs1 ht hvm hw hB hz1 hk1 hS => ?_)
  obtain ⟨hP1, hK1, hD1⟩ := hB
  rw [ht] at hP1
  subst hw
  exact kk H1 locs1 hP1 hD hS
theorem rd_callSvE {y : MethodName} {bytes : ByteArray} {maxL nL n index : Nat} {ret : Option FieldType} {ws : List Cond} {rm : Room} {Ts : List Cond} {own : String} {st : List Value} (As rest : List Value) (hok : rd_ok E) (hE : E A s)
    (S : CallFix p m c cc nL s args Ts own) (hM : rd_VE E l y ws rm As D tys [] []) (cw : CallB R s args own index y bytes maxL ret ws rm 0 0 n ∧ (Cond.static y).before args s = true) (hst : st = As.reverse ++ rest) (hn : As.length = n) (hsize : ls.size = nL) (hW : (rest.map fun v => v.category).sum ≤ 8) (hdg : decode cc pc = .ok (.invokestatic index, 3)) (hfit : cells ≤ R.cells ∧ slots ≤ R.slots)
    (hK : va_K D vwCl tys s) (hP : va_P D vwCl [] H) (hD : va_D A []) (hS : va_S A s.heap H locs) (hA : ∀ q : Nat, s.heap.size ≤ q → A q)
    (kk : ∀ (H1 : Heap) (locs1 : List Loc), va_P D vwCl [] H1 → va_D A [] → va_S A s.heap H1 locs1 → W p l e R s m args below meth c H1 locs1 cells slots Q (F0 m (pc + 3) ls rest)) : W p l e R s m args below meth c H locs cells slots Q (F0 m pc ls st) := by
  subst hst
  have hFc := va_free (wc := []) hD hS hA [] rfl
  refine va_callv (va_runS (As := As) (rest := rest) S (hM H.size) cw ⟨rd_blindE hok, fun U hU hW => ⟨rfl, ⟨by rw [hU], by rw [hU]; exact hP, va_K.moved hW.alike hK, hD.weaken (fun _ _ _ _ => trivial)⟩, hok.2 A _ s U H locs hE hS hU hW hFc⟩⟩ rfl hn hsize rfl (lv_room hW) hdg ⟨hfit.1, hfit.2⟩) hS (fun q _ h => hFc q h) hFc (fun u t H1 locs1 ht hvm hw hB hz1 hk1 hS => ?_)
  obtain ⟨hP1, hK1, hD1⟩ := hB
  rw [ht] at hP1
  exact kk H1 locs1 hP1 hD hS
end RDS
set_option maxHeartbeats 4000000 in
theorem c_J0_coder (l : Launch) (D : va_G) (cI cZ cP : ClassId) (adK adV : Nat → Nat) (fm : Nat) (i : Nat) (hi : i < 2) : rd_IE (rd_Env adK adV fm) l yJ0_coder_7d493 wsJ0_coder_7d493 { frames := 0, cells := 0, slots := 0, locals := 0 } [.ref (adK i)] D (tyA cI cZ cP) [] [] 0 := by
  refine rd_enterTE (cc := cJ0_coder_7d493) (maxL := 1) .byte (by decide) rfl (Nat.le_of_ble_eq_true rfl) rfl ?_
  intro p e s m args below meth c A Q ls hx hb hml hown hts hA hE hK hP hD hS hl hret
  have hl : lv_has ls 1 [(0, .ref (adK i))] := hl
  have kw1 := hts (.fieldLink RJ0 38 "java/lang/String" "COMPACT_STRINGS" "Z") (List.mem_of_getElem? (i := 1) rfl)
  have kw2 := hts (.fieldLink RJ0 15 "java/lang/String" "coder" "B") (List.mem_of_getElem? (i := 2) rfl)
  refine va_gets hx hb hE.2.2.2.2.1 hS hown kw1 (fun _ h9 => h9) dJ0_coder_7d493_0 ?_
  refine lv_if_eq (tgt := 13) hx hb dJ0_coder_7d493_3 (by decide) (fun c9 => absurd c9 (by decide)) (fun _ => ?_)
  refine lv_aload_n hx hb dJ0_coder_7d493_6 rfl (lv_at hl 0 rfl) ?_
  refine vk_getf hx hb (hE.2.2.1.1 i hi).2.1 hS hown kw2 (fun _ h9 => h9) dJ0_coder_7d493_7 ?_
  refine lv_goto (tgt := 14) hx hb dJ0_coder_7d493_10 (by decide) ?_
  exact hret dJ0_coder_7d493_14 hP hD hS
set_option maxHeartbeats 4000000 in
theorem c_J0_isLatin1 (l : Launch) (D : va_G) (cI cZ cP : ClassId) (adK adV : Nat → Nat) (fm : Nat) (i : Nat) (hi : i < 2) : rd_IE (rd_Env adK adV fm) l yJ0_isLatin1_aae02 wsJ0_isLatin1_aae02 { frames := 0, cells := 0, slots := 0, locals := 0 } [.ref (adK i)] D (tyA cI cZ cP) [] [] 1 := by
  refine rd_enterTE (cc := cJ0_isLatin1_aae02) (maxL := 1) .boolean (by decide) rfl (Nat.le_of_ble_eq_true rfl) rfl ?_
  intro p e s m args below meth c A Q ls hx hb hml hown hts hA hE hK hP hD hS hl hret
  have hl : lv_has ls 1 [(0, .ref (adK i))] := hl
  have kw1 := hts (.fieldLink RJ0 38 "java/lang/String" "COMPACT_STRINGS" "Z") (List.mem_of_getElem? (i := 1) rfl)
  have kw2 := hts (.fieldLink RJ0 15 "java/lang/String" "coder" "B") (List.mem_of_getElem? (i := 2) rfl)
  refine va_gets hx hb hE.2.2.2.2.1 hS hown kw1 (fun _ h9 => h9) dJ0_isLatin1_aae02_0 ?_
  refine lv_if_eq (tgt := 17) hx hb dJ0_isLatin1_aae02_3 (by decide) (fun c9 => absurd c9 (by decide)) (fun _ => ?_)
  refine lv_aload_n hx hb dJ0_isLatin1_aae02_6 rfl (lv_at hl 0 rfl) ?_
  refine vk_getf hx hb (hE.2.2.1.1 i hi).2.1 hS hown kw2 (fun _ h9 => h9) dJ0_isLatin1_aae02_7 ?_
  refine lv_if_ne (tgt := 17) hx hb dJ0_isLatin1_aae02_10 (by decide) (fun c9 => absurd rfl c9) (fun _ => ?_)
  refine lv_iconst (v := 1) hx hb dJ0_isLatin1_aae02_13 (by decide) ?_
  refine lv_goto (tgt := 18) hx hb dJ0_isLatin1_aae02_14 (by decide) ?_
  exact hret dJ0_isLatin1_aae02_18 hP hD hS
set_option maxHeartbeats 4000000 in
theorem c_J0_length (l : Launch) (D : va_G) (cI cZ cP : ClassId) (adK adV : Nat → Nat) (fm : Nat) (i : Nat) (hi : i < 2) : rd_IE (rd_Env adK adV fm) l yJ0_length_8abf5 wsJ0_length_8abf5 { frames := 1, cells := 0, slots := 0, locals := 20 } [.ref (adK i)] D (tyA cI cZ cP) [] [] (Int32.ofNat (rd_len i)) := by
  refine rd_enterIE (cc := cJ0_length_8abf5) (maxL := 1) (by decide) rfl (Nat.le_of_ble_eq_true rfl) ?_
  intro p e s m args below meth c A Q ls hx hb hml hown hts hA hE hK hP hD hS hl hret
  have hl : lv_has ls 1 [(0, .ref (adK i))] := hl
  have kw1 := hts (.fieldLink RJ0 9 "java/lang/String" "value" "[B") (List.mem_of_getElem? (i := 1) rfl)
  refine lv_aload_n hx hb dJ0_length_8abf5_0 rfl (lv_at hl 0 rfl) ?_
  refine vk_getf hx hb (hE.2.2.1.1 i hi).2.2.1 hS hown kw1 (fun _ h9 => h9) dJ0_length_8abf5_1 ?_
  refine va_tlen (v := Int32.ofNat (rd_len i)) hx hb (hE.2.2.1.1 i hi).2.2.2 hS rfl dJ0_length_8abf5_4 ?_
  refine lv_aload_n hx hb dJ0_length_8abf5_5 rfl (lv_at hl 0 rfl) ?_
  refine rd_callViR [] [.int (Int32.ofNat (rd_len i))] (rd_Env_ok adK adV fm) hE ⟨hx, hb, hml, hown, hts⟩ (c_J0_coder l D cI cZ cP adK adV fm i hi) (cwV 0 hts gJ0_length_8abf5_J0_coder_7d493 rfl rfl rfl (by decide +kernel) ⟨Nat.le_of_ble_eq_true rfl, Nat.le_of_ble_eq_true rfl⟩) (vk_recv hE.2.2.1 hi hS) rfl rfl hl.1 (Nat.le_of_ble_eq_true rfl) dJ0_length_8abf5_6 ⟨Nat.zero_le _, Nat.zero_le _⟩ hK hP hD hS hA [] rfl rfl (fun H locs hP hD hS => ?_)
  refine lv_ishr hx hb dJ0_length_8abf5_9 ?_
  have e9 : Int32.ofNat (rd_len i) >>> ((0 : Int32) &&& 31) = Int32.ofNat (rd_len i) := by
    rcases rd_lt2 hi with rfl | rfl <;> decide
  rw [e9]
  exact hret dJ0_length_8abf5_10 hP hD hS
set_option maxHeartbeats 4000000 in
theorem c_J3_checkIndex (l : Launch) (D : va_G) (cI cZ cP : ClassId) (adK adV : Nat → Nat) (fm ft : Nat) (a b : Int32) (h1 : ¬ a < 0) (h2 : a < b) : rd_IE (rd_Env adK adV fm) l yJ3_checkIndex_8e157 wsJ3_checkIndex_8e157 { frames := 0, cells := 0, slots := 0, locals := 0 } [.int a, .int b, .ref ft] D (tyA cI cZ cP) [] [] a := by
  refine rd_enterIE (cc := cJ3_checkIndex_8e157) (maxL := 3) (by decide) rfl (Nat.le_of_ble_eq_true rfl) ?_
  intro p e s m args below meth c A Q ls hx hb hml hown hts hA hE hK hP hD hS hl hret
  have hl : lv_has ls 3 [(0, .int a), (1, .int b), (2, .ref ft)] := hl
  refine lv_iload_n hx hb dJ3_checkIndex_8e157_0 rfl (lv_at hl 0 rfl) ?_
  refine lv_if_lt (tgt := 9) hx hb dJ3_checkIndex_8e157_1 (by decide) (fun c9 => absurd c9 h1) (fun _ => ?_)
  refine lv_iload_n hx hb dJ3_checkIndex_8e157_4 rfl (lv_at hl 0 rfl) ?_
  refine lv_iload_n hx hb dJ3_checkIndex_8e157_5 rfl (lv_at hl 1 rfl) ?_
  refine lv_icmp_lt (tgt := 16) hx hb dJ3_checkIndex_8e157_6 (by decide) (fun _ => ?_) (fun c9 => absurd h2 c9)
  refine lv_iload_n hx hb dJ3_checkIndex_8e157_16 rfl (lv_at hl 0 rfl) ?_
  exact hret dJ3_checkIndex_8e157_17 hP hD hS
set_option maxHeartbeats 4000000 in
theorem c_J3_checkIndexN (l : Launch) (D : va_G) (cI cZ cP : ClassId) (adK adV : Nat → Nat) (fm : Nat) (a b : Int32) (h1 : ¬ a < 0) (h2 : a < b) : rd_IE (rd_Env adK adV fm) l yJ3_checkIndex_8e157 wsJ3_checkIndex_8e157 { frames := 0, cells := 0, slots := 0, locals := 0 } [.int a, .int b, .null] D (tyA cI cZ cP) [] [] a := by
  refine rd_enterIE (cc := cJ3_checkIndex_8e157) (maxL := 3) (by decide) rfl (Nat.le_of_ble_eq_true rfl) ?_
  intro p e s m args below meth c A Q ls hx hb hml hown hts hA hE hK hP hD hS hl hret
  have hl : lv_has ls 3 [(0, .int a), (1, .int b), (2, .null)] := hl
  refine lv_iload_n hx hb dJ3_checkIndex_8e157_0 rfl (lv_at hl 0 rfl) ?_
  refine lv_if_lt (tgt := 9) hx hb dJ3_checkIndex_8e157_1 (by decide) (fun c9 => absurd c9 h1) (fun _ => ?_)
  refine lv_iload_n hx hb dJ3_checkIndex_8e157_4 rfl (lv_at hl 0 rfl) ?_
  refine lv_iload_n hx hb dJ3_checkIndex_8e157_5 rfl (lv_at hl 1 rfl) ?_
  refine lv_icmp_lt (tgt := 16) hx hb dJ3_checkIndex_8e157_6 (by decide) (fun _ => ?_) (fun c9 => absurd h2 c9)
  refine lv_iload_n hx hb dJ3_checkIndex_8e157_16 rfl (lv_at hl 0 rfl) ?_
  exact hret dJ3_checkIndex_8e157_17 hP hD hS
set_option maxHeartbeats 4000000 in
theorem c_J0_checkIndex (l : Launch) (D : va_G) (cI cZ cP : ClassId) (adK adV : Nat → Nat) (fm : Nat) (a b : Int32) (h1 : ¬ a < 0) (h2 : a < b) : rd_VE (rd_Env adK adV fm) l yJ0_checkIndex_df160 wsJ0_checkIndex_df160 { frames := 1, cells := 0, slots := 0, locals := 22 } [.int a, .int b] D (tyA cI cZ cP) [] [] := by
  refine rd_enterVE (cc := cJ0_checkIndex_df160) (maxL := 2) (by decide) rfl (Nat.le_of_ble_eq_true rfl) ?_
  intro p e s m args below meth c A Q ls hx hb hml hown hts hA hE hK hP hD hS hl hret
  have hl : lv_has ls 2 [(0, .int a), (1, .int b)] := hl
  have kw1 := hts (.fieldLink RJ0 1053 "jdk/internal/util/Preconditions" "SIOOBE_FORMATTER" "Ljava/util/function/BiFunction;") (List.mem_of_getElem? (i := 1) rfl)
  refine lv_iload_n hx hb dJ0_checkIndex_df160_0 rfl (lv_at hl 0 rfl) ?_
  refine lv_iload_n hx hb dJ0_checkIndex_df160_1 rfl (lv_at hl 1 rfl) ?_
  rcases hE.2.2.2.2.2 with hZ | ⟨ft, hZ⟩
  · refine va_gets hx hb hZ hS hown kw1 (fun _ h9 => h9) dJ0_checkIndex_df160_2 ?_
    refine rd_callSiE [.int a, .int b, .null] [] (rd_Env_ok adK adV fm) hE ⟨hx, hb, hml, hown, hts⟩ (c_J3_checkIndexN l D cI cZ cP adK adV fm a b h1 h2) (va_cwS 3 hts gJ0_checkIndex_df160_J3_checkIndex_8e157 rfl rfl rfl (by decide +kernel) ⟨Nat.le_of_ble_eq_true rfl, Nat.le_of_ble_eq_true rfl⟩) rfl rfl hl.1 (Nat.le_of_ble_eq_true rfl) dJ0_checkIndex_df160_5 ⟨Nat.zero_le _, Nat.zero_le _⟩ hK hP hD hS hA (fun H locs hP hD hS => ?_)
    refine lv_pop hx hb dJ0_checkIndex_df160_8 rfl ?_
    exact hret dJ0_checkIndex_df160_9 hP hD hS
  · refine va_gets hx hb hZ hS hown kw1 (fun _ h9 => h9) dJ0_checkIndex_df160_2 ?_
    refine rd_callSiE [.int a, .int b, .ref ft] [] (rd_Env_ok adK adV fm) hE ⟨hx, hb, hml, hown, hts⟩ (c_J3_checkIndex l D cI cZ cP adK adV fm ft a b h1 h2) (va_cwS 3 hts gJ0_checkIndex_df160_J3_checkIndex_8e157 rfl rfl rfl (by decide +kernel) ⟨Nat.le_of_ble_eq_true rfl, Nat.le_of_ble_eq_true rfl⟩) rfl rfl hl.1 (Nat.le_of_ble_eq_true rfl) dJ0_checkIndex_df160_5 ⟨Nat.zero_le _, Nat.zero_le _⟩ hK hP hD hS hA (fun H locs hP hD hS => ?_)
    refine lv_pop hx hb dJ0_checkIndex_df160_8 rfl ?_
    exact hret dJ0_checkIndex_df160_9 hP hD hS
set_option maxHeartbeats 4000000 in
theorem c_J1_charAt (l : Launch) (D : va_G) (cI cZ cP : ClassId) (adK adV : Nat → Nat) (fm : Nat) (i : Nat) (hi : i < 2) (k : Int32) (hk : inb k (rd_len i)) : rd_IE (rd_Env adK adV fm) l yJ1_charAt_3b067 wsJ1_charAt_3b067 { frames := 2, cells := 0, slots := 0, locals := 43 } [.ref (adV i), .int k] D (tyA cI cZ cP) [] [] (rd_chr i k.toNatClampNeg) := by
  have hlt : k.toNatClampNeg < rd_len i := Nat.not_le.mp fun q => hk (Or.inr q)
  have hc := rd_chr_ok i hi _ hlt
  have hn0 : ¬ k < 0 := fun q => hk (Or.inl q)
  obtain ⟨j, hj, rfl⟩ := nI_of hn0
  have hl5 : rd_len i ≤ 5 := by rcases rd_lt2 hi with rfl | rfl <;> decide
  have hj5 : j < rd_len i := by rw [nI_clamp hj] at hlt; exact hlt
  have hlen2 : nI j < Int32.ofNat (rd_len i) := nI_lt hj5 (by omega)
  refine rd_enterTE (cc := cJ1_charAt_3b067) (maxL := 2) .char (by decide) rfl (Nat.le_of_ble_eq_true rfl) hc.2 ?_
  intro p e s m args below meth c A Q ls hx hb hml hown hts hA hE hK hP hD hS hl hret
  have hl : lv_has ls 2 [(0, .ref (adV i)), (1, .int (nI j))] := hl
  refine lv_iload_n hx hb dJ1_charAt_3b067_0 rfl (lv_at hl 1 rfl) ?_
  refine lv_aload_n hx hb dJ1_charAt_3b067_1 rfl (lv_at hl 0 rfl) ?_
  refine va_tlen (v := Int32.ofNat (rd_len i)) hx hb (hE.2.2.1.1 i hi).2.2.2 hS rfl dJ1_charAt_3b067_2 ?_
  refine rd_callSvE [.int (nI j), .int (Int32.ofNat (rd_len i))] [] (rd_Env_ok adK adV fm) hE ⟨hx, hb, hml, hown, hts⟩ (c_J0_checkIndex l D cI cZ cP adK adV fm _ _ hn0 hlen2) (va_cwS 2 hts gJ1_charAt_3b067_J0_checkIndex_df160 rfl rfl rfl (by decide +kernel) ⟨Nat.le_of_ble_eq_true rfl, Nat.le_of_ble_eq_true rfl⟩) rfl rfl hl.1 (Nat.le_of_ble_eq_true rfl) dJ1_charAt_3b067_3 ⟨Nat.zero_le _, Nat.zero_le _⟩ hK hP hD hS hA (fun H locs hP hD hS => ?_)
  refine lv_aload_n hx hb dJ1_charAt_3b067_6 rfl (lv_at hl 0 rfl) ?_
  refine lv_iload_n hx hb dJ1_charAt_3b067_7 rfl (lv_at hl 1 rfl) ?_
  refine va_tb (v := .int (rd_chr i (nI j).toNatClampNeg)) hx hb (hE.2.2.1.1 i hi).2.2.2 hS (inb_in hk) rfl dJ1_charAt_3b067_8 ?_
  refine lv_sipush (v := 255) hx hb dJ1_charAt_3b067_9 (by decide) ?_
  refine lv_iand hx hb dJ1_charAt_3b067_12 ?_
  refine lv_i2c (v := rd_chr i (nI j).toNatClampNeg) hx hb dJ1_charAt_3b067_13 hc.1 ?_
  exact hret dJ1_charAt_3b067_14 hP hD hS
set_option maxHeartbeats 4000000 in
theorem c_J0_charAt (l : Launch) (D : va_G) (cI cZ cP : ClassId) (adK adV : Nat → Nat) (fm : Nat) (i : Nat) (hi : i < 2) (k : Int32) (hk : inb k (rd_len i)) : rd_IE (rd_Env adK adV fm) l yJ0_charAt_5068e wsJ0_charAt_5068e { frames := 3, cells := 0, slots := 0, locals := 64 } [.ref (adK i), .int k] D (tyA cI cZ cP) [] [] (rd_chr i k.toNatClampNeg) := by
  have hlt : k.toNatClampNeg < rd_len i := Nat.not_le.mp fun q => hk (Or.inr q)
  refine rd_enterTE (cc := cJ0_charAt_5068e) (maxL := 2) .char (by decide) rfl (Nat.le_of_ble_eq_true rfl) (rd_chr_ok i hi _ hlt).2 ?_
  intro p e s m args below meth c A Q ls hx hb hml hown hts hA hE hK hP hD hS hl hret
  have hl : lv_has ls 2 [(0, .ref (adK i)), (1, .int k)] := hl
  have kw1 := hts (.fieldLink RJ0 9 "java/lang/String" "value" "[B") (List.mem_of_getElem? (i := 1) rfl)
  refine lv_aload_n hx hb dJ0_charAt_5068e_0 rfl (lv_at hl 0 rfl) ?_
  refine rd_callViR [] [] (rd_Env_ok adK adV fm) hE ⟨hx, hb, hml, hown, hts⟩ (c_J0_isLatin1 l D cI cZ cP adK adV fm i hi) (cwV 0 hts gJ0_charAt_5068e_J0_isLatin1_aae02 rfl rfl rfl (by decide +kernel) ⟨Nat.le_of_ble_eq_true rfl, Nat.le_of_ble_eq_true rfl⟩) (vk_recv hE.2.2.1 hi hS) rfl rfl hl.1 (Nat.le_of_ble_eq_true rfl) dJ0_charAt_5068e_1 ⟨Nat.zero_le _, Nat.zero_le _⟩ hK hP hD hS hA [] rfl rfl (fun H locs hP hD hS => ?_)
  refine lv_if_eq (tgt := 16) hx hb dJ0_charAt_5068e_4 (by decide) (fun c9 => absurd c9 (by decide)) (fun _ => ?_)
  refine lv_aload_n hx hb dJ0_charAt_5068e_7 rfl (lv_at hl 0 rfl) ?_
  refine vk_getf hx hb (hE.2.2.1.1 i hi).2.2.1 hS hown kw1 (fun _ h9 => h9) dJ0_charAt_5068e_8 ?_
  refine lv_iload_n hx hb dJ0_charAt_5068e_11 rfl (lv_at hl 1 rfl) ?_
  refine rd_callSiE [.ref (adV i), .int k] [] (rd_Env_ok adK adV fm) hE ⟨hx, hb, hml, hown, hts⟩ (c_J1_charAt l D cI cZ cP adK adV fm i hi k hk) (va_cwS 2 hts gJ0_charAt_5068e_J1_charAt_3b067 rfl rfl rfl (by decide +kernel) ⟨Nat.le_of_ble_eq_true rfl, Nat.le_of_ble_eq_true rfl⟩) rfl rfl hl.1 (Nat.le_of_ble_eq_true rfl) dJ0_charAt_5068e_12 ⟨Nat.zero_le _, Nat.zero_le _⟩ hK hP hD hS hA (fun H locs hP hD hS => ?_)
  exact hret dJ0_charAt_5068e_15 hP hD hS
