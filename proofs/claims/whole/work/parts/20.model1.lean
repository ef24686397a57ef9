theorem in_X9_thrown_X9 : ∀ w ∈ wsX90, w ∈ wsX9_thrown := by decide +kernel
def f_X9_thrown (v_thrown : Int32) : Option (Int32) := some v_thrown
set_option maxHeartbeats 4000000 in
set_option maxRecDepth 100000 in
theorem c_X9_thrown (l : Launch) (D : va_G) (cI cZ cP : ClassId) (a_this : Nat) (a_tape : Nat) (a_now : Nat) (a_read : Nat) (a_kept : Nat) (a_snaps : Nat) (a_before : Nat) (a_live : Nat) (a_other : Nat) (a_isKept : Nat) (a_waysOf : Nat) (a_sought : Nat) (a_starterRow : Nat) (a_wantedRow : Nat) (a_order : Nat) (v_thrown : Int32) (v_taped : Int32) (v_size : Int32) (v_to : Int32) (v_from : Int32) (v_kind : Int32) (v_number : Int32) (v_fault : Int32) (v_place : Int32) (v_word : Int64) (v_snapMany : Int32) (v_starterMany : Int32) (v_perfectMany : Int32) (v_wanted : Int32) (v_seed : Int32) (v_tape : Nat → Int32) (v_now : Nat → Int32) (v_read : Nat → Int32) (v_kept : Nat → Int32) (v_snaps : Nat → Int32) (v_before : Nat → Int32) (v_live : Nat → Int32) (v_other : Nat → Int32) (v_isKept : Nat → Int32) (v_waysOf : Nat → Int32) (v_sought : Nat → Int32) (v_starterRow : Nat → Int32) (v_wantedRow : Nat → Int32) (v_order : Nat → Int32) (r : Int32) (h : f_X9_thrown v_thrown = some r) : rd_I l yX9_thrown wsX9_thrown { frames := 0, cells := 0, slots := 0, locals := 0 } [.ref a_this] D (tyA cI cZ cP) (wd_X9 cI cZ cP a_this a_tape a_now a_read a_kept a_snaps a_before a_live a_other a_isKept a_waysOf a_sought a_starterRow a_wantedRow a_order v_thrown v_taped v_size v_to v_from v_kind v_number v_fault v_place v_word v_snapMany v_starterMany v_perfectMany v_wanted v_seed v_tape v_now v_read v_kept v_snaps v_before v_live v_other v_isKept v_waysOf v_sought v_starterRow v_wantedRow v_order) (wd_X9 cI cZ cP a_this a_tape a_now a_read a_kept a_snaps a_before a_live a_other a_isKept a_waysOf a_sought a_starterRow a_wantedRow a_order v_thrown v_taped v_size v_to v_from v_kind v_number v_fault v_place v_word v_snapMany v_starterMany v_perfectMany v_wanted v_seed v_tape v_now v_read v_kept v_snaps v_before v_live v_other v_isKept v_waysOf v_sought v_starterRow v_wantedRow v_order) r := by
  unfold f_X9_thrown at h
  refine rd_enterI (cc := cX9_thrown) (maxL := 1) (by decide) rfl (Nat.le_of_ble_eq_true rfl) ?_
  intro p e s m args below meth c A Q ls hx hb hml hown hts hA hK hP hD hS hl hret
  have hl : lv_has ls 1 [(0, .ref a_this)] := hl
  have kw1 := hts (.fieldLink RX9 1 "RoundDaysModel" "thrown" "I") (List.mem_of_getElem? (i := 1) rfl)
  refine lv_aload_n hx hb dX9_thrown_0 rfl (lv_at hl 0 rfl) ?_
  refine va_get (D := D) (ci := 9) (v := .int v_thrown) (C := RX9) (T := TX9) (N := 29) hx hb hts in_X9_thrown_X9 hown hK hP 0 rfl rfl 0 (by decide) kw1 (fun _ h9 => h9) rfl dX9_thrown_1 ?_
  obtain rfl := inj1 h
  exact hret dX9_thrown_4 hP hD hS
theorem in_X9_refuse_X9 : ∀ w ∈ wsX90, w ∈ wsX9_refuse := by decide +kernel
def f_X9_refuse (v_thrown : Int32) : Option (Int32 × Int32) := some ((0 : Int32), (1 : Int32))
set_option maxHeartbeats 4000000 in
set_option maxRecDepth 100000 in
theorem c_X9_refuse (l : Launch) (D : va_G) (cI cZ cP : ClassId) (a_this : Nat) (a_tape : Nat) (a_now : Nat) (a_read : Nat) (a_kept : Nat) (a_snaps : Nat) (a_before : Nat) (a_live : Nat) (a_other : Nat) (a_isKept : Nat) (a_waysOf : Nat) (a_sought : Nat) (a_starterRow : Nat) (a_wantedRow : Nat) (a_order : Nat) (v_thrown : Int32) (v_taped : Int32) (v_size : Int32) (v_to : Int32) (v_from : Int32) (v_kind : Int32) (v_number : Int32) (v_fault : Int32) (v_place : Int32) (v_word : Int64) (v_snapMany : Int32) (v_starterMany : Int32) (v_perfectMany : Int32) (v_wanted : Int32) (v_seed : Int32) (v_tape : Nat → Int32) (v_now : Nat → Int32) (v_read : Nat → Int32) (v_kept : Nat → Int32) (v_snaps : Nat → Int32) (v_before : Nat → Int32) (v_live : Nat → Int32) (v_other : Nat → Int32) (v_isKept : Nat → Int32) (v_waysOf : Nat → Int32) (v_sought : Nat → Int32) (v_starterRow : Nat → Int32) (v_wantedRow : Nat → Int32) (v_order : Nat → Int32) (r : Int32) (nv_thrown : Int32) (h : f_X9_refuse v_thrown = some (r, nv_thrown)) : rd_I l yX9_refuse wsX9_refuse { frames := 0, cells := 0, slots := 0, locals := 0 } [.ref a_this] D (tyA cI cZ cP) (wd_X9 cI cZ cP a_this a_tape a_now a_read a_kept a_snaps a_before a_live a_other a_isKept a_waysOf a_sought a_starterRow a_wantedRow a_order v_thrown v_taped v_size v_to v_from v_kind v_number v_fault v_place v_word v_snapMany v_starterMany v_perfectMany v_wanted v_seed v_tape v_now v_read v_kept v_snaps v_before v_live v_other v_isKept v_waysOf v_sought v_starterRow v_wantedRow v_order) (wd_X9 cI cZ cP a_this a_tape a_now a_read a_kept a_snaps a_before a_live a_other a_isKept a_waysOf a_sought a_starterRow a_wantedRow a_order nv_thrown v_taped v_size v_to v_from v_kind v_number v_fault v_place v_word v_snapMany v_starterMany v_perfectMany v_wanted v_seed v_tape v_now v_read v_kept v_snaps v_before v_live v_other v_isKept v_waysOf v_sought v_starterRow v_wantedRow v_order) r := by
  unfold f_X9_refuse at h
  refine rd_enterI (cc := cX9_refuse) (maxL := 1) (by decide) rfl (Nat.le_of_ble_eq_true rfl) ?_
  intro p e s m args below meth c A Q ls hx hb hml hown hts hA hK hP hD hS hl hret
  have hl : lv_has ls 1 [(0, .ref a_this)] := hl
  have kw1 := hts (.fieldLink RX9 1 "RoundDaysModel" "thrown" "I") (List.mem_of_getElem? (i := 1) rfl)
  refine lv_aload_n hx hb dX9_refuse_0 rfl (lv_at hl 0 rfl) ?_
  refine lv_iconst (v := 1) hx hb dX9_refuse_1 (by decide) ?_
  refine rd_put (W1 := wd_X9 cI cZ cP a_this a_tape a_now a_read a_kept a_snaps a_before a_live a_other a_isKept a_waysOf a_sought a_starterRow a_wantedRow a_order (1 : Int32) v_taped v_size v_to v_from v_kind v_number v_fault v_place v_word v_snapMany v_starterMany v_perfectMany v_wanted v_seed v_tape v_now v_read v_kept v_snaps v_before v_live v_other v_isKept v_waysOf v_sought v_starterRow v_wantedRow v_order) (C := RX9) (T := TX9) (N := 29) (ci := 9) hx hb hts in_X9_refuse_X9 tyX9 tyX9_ok nmX9 hown hK hP hD hS 0 rfl rfl 0 (by decide) kw1 (fun _ h9 => h9) rfl rfl rfl (Nat.le_of_ble_eq_true rfl) rfl dX9_refuse_2 (fun H locs hP hD hS => ?_)
  refine lv_iconst (v := 0) hx hb dX9_refuse_5 (by decide) ?_
  obtain ⟨rfl, rfl⟩ := inj2 h
  exact hret dX9_refuse_6 hP hD hS
def f_X9_isIn (p0 : Int32) (p1 : Int32) (p2 : Int32) : Option (Int32) := if p0 < p1 then some (0 : Int32) else if p2 < p0 then some (0 : Int32) else some (1 : Int32)
set_option maxHeartbeats 4000000 in
set_option maxRecDepth 100000 in
theorem c_X9_isIn (l : Launch) (D : va_G) (cI cZ cP : ClassId) (p0 : Int32) (p1 : Int32) (p2 : Int32) (r : Int32) (h : f_X9_isIn p0 p1 p2 = some r) : rd_I l yX9_isIn wsX9_isIn { frames := 0, cells := 0, slots := 0, locals := 0 } [.int p0, .int p1, .int p2] D (tyA cI cZ cP) ([]) ([]) r := by
  unfold f_X9_isIn at h
  refine rd_enterZ (cc := cX9_isIn) (maxL := 3) (by decide) rfl (Nat.le_of_ble_eq_true rfl) ?_
  intro p e s m args below meth c A Q ls hx hb hml hown hts hA hK hP hD hS hl hret
  have hl : lv_has ls 3 [(0, .int p0), (1, .int p1), (2, .int p2)] := hl
  refine lv_iload_n hx hb dX9_isIn_0 rfl (lv_at hl 0 rfl) ?_
  refine lv_iload_n hx hb dX9_isIn_1 rfl (lv_at hl 1 rfl) ?_
  refine lv_icmp_lt (tgt := 14) hx hb dX9_isIn_2 (by decide) (fun c_1 => ?_) (fun c_1 => ?_)
  · replace h := it_pos h c_1
    refine lv_iconst (v := 0) hx hb dX9_isIn_14 (by decide) ?_
    obtain rfl := inj1 h
    exact hret (by decide) dX9_isIn_15 hP hD hS
  · replace h := it_neg h c_1
    refine lv_iload_n hx hb dX9_isIn_5 rfl (lv_at hl 0 rfl) ?_
    refine lv_iload_n hx hb dX9_isIn_6 rfl (lv_at hl 2 rfl) ?_
    refine lv_icmp_gt (tgt := 14) hx hb dX9_isIn_7 (by decide) (fun c_2 => ?_) (fun c_2 => ?_)
    · replace h := it_pos h c_2
      refine lv_iconst (v := 0) hx hb dX9_isIn_14 (by decide) ?_
      obtain rfl := inj1 h
      exact hret (by decide) dX9_isIn_15 hP hD hS
    · replace h := it_neg h c_2
      refine lv_iconst (v := 1) hx hb dX9_isIn_10 (by decide) ?_
      refine lv_goto (tgt := 15) hx hb dX9_isIn_11 (by decide) ?_
      obtain rfl := inj1 h
      exact hret (by decide) dX9_isIn_15 hP hD hS
def f_X9_has (p0 : Int32) (p1 : Int32) : Option (Int32) := if ((p0 >>> (p1 &&& (31 : Int32))) &&& (1 : Int32)) = (1 : Int32) then some (1 : Int32) else some (0 : Int32)
set_option maxHeartbeats 4000000 in
set_option maxRecDepth 100000 in
theorem c_X9_has (l : Launch) (D : va_G) (cI cZ cP : ClassId) (p0 : Int32) (p1 : Int32) (r : Int32) (h : f_X9_has p0 p1 = some r) : rd_I l yX9_has wsX9_has { frames := 0, cells := 0, slots := 0, locals := 0 } [.int p0, .int p1] D (tyA cI cZ cP) ([]) ([]) r := by
  unfold f_X9_has at h
  refine rd_enterZ (cc := cX9_has) (maxL := 2) (by decide) rfl (Nat.le_of_ble_eq_true rfl) ?_
  intro p e s m args below meth c A Q ls hx hb hml hown hts hA hK hP hD hS hl hret
  have hl : lv_has ls 2 [(0, .int p0), (1, .int p1)] := hl
  refine lv_iload_n hx hb dX9_has_0 rfl (lv_at hl 0 rfl) ?_
  refine lv_iload_n hx hb dX9_has_1 rfl (lv_at hl 1 rfl) ?_
  refine lv_ishr hx hb dX9_has_2 ?_
  refine lv_iconst (v := 1) hx hb dX9_has_3 (by decide) ?_
  refine lv_iand hx hb dX9_has_4 ?_
  refine lv_iconst (v := 1) hx hb dX9_has_5 (by decide) ?_
  refine lv_icmp_ne (tgt := 13) hx hb dX9_has_6 (by decide) (fun c_1 => ?_) (fun c_1 => ?_)
  · replace h := it_neg h c_1
    refine lv_iconst (v := 0) hx hb dX9_has_13 (by decide) ?_
    obtain rfl := inj1 h
    exact hret (by decide) dX9_has_14 hP hD hS
  · replace h := it_pos h c_1
    refine lv_iconst (v := 1) hx hb dX9_has_9 (by decide) ?_
    refine lv_goto (tgt := 14) hx hb dX9_has_10 (by decide) ?_
    obtain rfl := inj1 h
    exact hret (by decide) dX9_has_14 hP hD hS
def f_X9_least_L2 (p0 : Int32) (self : Int32 → Option (Int32)) : Int32 → Option (Int32) := fun x1 => (f_X9_has p0 x1).bind (fun r_1 => if r_1 = 0 then bd (x1 + (1 : Int32)) (fun x1_4 => self x1_4) else some x1)
def f_X9_least (p0 : Int32) : Option (Int32) := lp (f_X9_least_L2 p0) 20000 (0 : Int32)
set_option maxHeartbeats 4000000 in
set_option maxRecDepth 100000 in
theorem c_X9_least (l : Launch) (D : va_G) (cI cZ cP : ClassId) (p0 : Int32) (r : Int32) (h : f_X9_least p0 = some r) : rd_I l yX9_least wsX9_least { frames := 1, cells := 0, slots := 0, locals := 21 } [.int p0] D (tyA cI cZ cP) ([]) ([]) r := by
  unfold f_X9_least at h
  refine rd_enterI (cc := cX9_least) (maxL := 2) (by decide) rfl (Nat.le_of_ble_eq_true rfl) ?_
  intro p e s m args below meth c A Q ls hx hb hml hown hts hA hK hP hD hS hl hret
  have hl : lv_has ls 2 [(0, .int p0)] := hl
  have w2 : ∀ n : Nat, ∀ (x1 : Int32), lp (f_X9_least_L2 p0) n x1 = some r → ∀ (H : Heap) (locs : List Loc) (ls : Array Slot), va_P D vwCl ([]) H → va_D A ([]) → va_S A s.heap H locs → lv_has ls 2 [(0, .int p0), (1, .int x1)] → W p l e { frames := 1, cells := 0, slots := 0, locals := 21 } s m args below meth c H locs 0 0 Q (F0 m 2 ls []) := by
    refine fun n x1 h => lp_walk (b := f_X9_least_L2 p0) (r := r) (P := fun x1 => ∀ (H : Heap) (locs : List Loc) (ls : Array Slot), va_P D vwCl ([]) H → va_D A ([]) → va_S A s.heap H locs → lv_has ls 2 [(0, .int p0), (1, .int x1)] → W p l e { frames := 1, cells := 0, slots := 0, locals := 21 } s m args below meth c H locs 0 0 Q (F0 m 2 ls [])) (fun self hself0 st h => ?_) n x1 h
    revert h; revert st; intro x1 h
    have hself : ∀ (x1 : Int32), self x1 = some r → ∀ (H : Heap) (locs : List Loc) (ls : Array Slot), va_P D vwCl ([]) H → va_D A ([]) → va_S A s.heap H locs → lv_has ls 2 [(0, .int p0), (1, .int x1)] → W p l e { frames := 1, cells := 0, slots := 0, locals := 21 } s m args below meth c H locs 0 0 Q (F0 m 2 ls []) := fun x1 h => hself0 x1 h
    clear hself0
    intro H locs ls hP hD hS hl
    replace h : ((f_X9_has p0 x1).bind (fun r_1 => if r_1 = 0 then bd (x1 + (1 : Int32)) (fun x1_4 => self x1_4) else some x1)) = some r := h
    refine lv_iload_n hx hb dX9_least_2 rfl (lv_at hl 0 rfl) ?_
    refine lv_iload_n hx hb dX9_least_3 rfl (lv_at hl 1 rfl) ?_
    obtain ⟨r_1, hc_2, h⟩ := bi_some h
    refine rd_callSi [.int p0, .int x1] [] (wr := []) (W1 := []) ⟨hx, hb, hml, hown, hts⟩ (c_X9_has l D cI cZ cP p0 x1 r_1 hc_2) (va_cwS 2 hts gX9_least_X9_has rfl rfl rfl (by decide +kernel) ⟨Nat.le_of_ble_eq_true rfl, Nat.le_of_ble_eq_true rfl⟩) rfl rfl hl.1 (Nat.le_of_ble_eq_true rfl) dX9_least_4 ⟨Nat.zero_le _, Nat.zero_le _⟩ hK hP hD hS hA [] [] [] ⟨⟨rfl, rfl, rfl⟩, by decide⟩ (fun H locs hP hD hS => ?_)
    refine lv_if_ne (tgt := 16) hx hb dX9_least_7 (by decide) (fun c_3 => ?_) (fun c_3 => ?_)
    · replace h := it_neg h c_3
      refine lv_iload_n hx hb dX9_least_16 rfl (lv_at hl 1 rfl) ?_
      obtain rfl := inj1 h
      exact hret dX9_least_17 hP hD hS
    · replace h := it_pos h c_3
      obtain ⟨x1_4, ex1_4, h⟩ := bd_some h
      refine lv_iinc (v := x1_4) (lv' := [(1, .int x1_4), (0, .int p0)]) hx hb dX9_least_10 hl (k := 1) rfl (by rw [ex1_4]; rfl) (by decide) rfl (fun ls hl => ?_)
      refine lv_goto (tgt := 2) hx hb dX9_least_13 (by decide) ?_
      exact hself x1_4 h _ _ _ hP hD hS (lv_sub hl [1, 0] rfl)
  refine lv_iconst (v := 0) hx hb dX9_least_0 (by decide) ?_
  refine lv_istore_n (lv' := [(1, .int (0 : Int32)), (0, .int p0)]) hx hb dX9_least_1 rfl hl (by decide) rfl (fun ls hl => ?_)
  exact w2 20000 (0 : Int32) h _ _ _ hP hD hS (lv_sub hl [1, 0] rfl)
theorem in_X9_lay_X9 : ∀ w ∈ wsX90, w ∈ wsX9_lay := by decide +kernel
def f_X9_lay_L3 (p1 : Int32) (self : Int32 × Int32 × (Nat → Int32) → Option (Int32 × (Nat → Int32))) : Int32 × Int32 × (Nat → Int32) → Option (Int32 × (Nat → Int32)) := fun st => match st with | (x2, v_taped, v_tape) => if x2 < 0 then some (v_taped, v_tape) else if inb v_taped 740 then bd (upd v_tape v_taped.toNatClampNeg (((p1.toUInt32 >>> (x2.toUInt32 &&& Int32.toUInt32 31)).toInt32) &&& (255 : Int32))) (fun v_tape_3 => bd (v_taped + (1 : Int32)) (fun v_taped_4 => bd (x2 + (-8 : Int32)) (fun x2_5 => self (x2_5, v_taped_4, v_tape_3)))) else none
def f_X9_lay (v_taped : Int32) (v_tape : Nat → Int32) (p1 : Int32) : Option (Int32 × (Nat → Int32)) := lp (f_X9_lay_L3 p1) 20000 ((24 : Int32), v_taped, v_tape)
set_option maxHeartbeats 4000000 in
set_option maxRecDepth 100000 in
theorem c_X9_lay (l : Launch) (D : va_G) (cI cZ cP : ClassId) (a_this : Nat) (a_tape : Nat) (a_now : Nat) (a_read : Nat) (a_kept : Nat) (a_snaps : Nat) (a_before : Nat) (a_live : Nat) (a_other : Nat) (a_isKept : Nat) (a_waysOf : Nat) (a_sought : Nat) (a_starterRow : Nat) (a_wantedRow : Nat) (a_order : Nat) (v_thrown : Int32) (v_taped : Int32) (v_size : Int32) (v_to : Int32) (v_from : Int32) (v_kind : Int32) (v_number : Int32) (v_fault : Int32) (v_place : Int32) (v_word : Int64) (v_snapMany : Int32) (v_starterMany : Int32) (v_perfectMany : Int32) (v_wanted : Int32) (v_seed : Int32) (v_tape : Nat → Int32) (v_now : Nat → Int32) (v_read : Nat → Int32) (v_kept : Nat → Int32) (v_snaps : Nat → Int32) (v_before : Nat → Int32) (v_live : Nat → Int32) (v_other : Nat → Int32) (v_isKept : Nat → Int32) (v_waysOf : Nat → Int32) (v_sought : Nat → Int32) (v_starterRow : Nat → Int32) (v_wantedRow : Nat → Int32) (v_order : Nat → Int32) (p1 : Int32) (nv_taped : Int32) (nv_tape : Nat → Int32) (h : f_X9_lay v_taped v_tape p1 = some (nv_taped, nv_tape)) : rd_V l yX9_lay wsX9_lay { frames := 0, cells := 0, slots := 0, locals := 0 } [.ref a_this, .int p1] D (tyA cI cZ cP) (wd_X9 cI cZ cP a_this a_tape a_now a_read a_kept a_snaps a_before a_live a_other a_isKept a_waysOf a_sought a_starterRow a_wantedRow a_order v_thrown v_taped v_size v_to v_from v_kind v_number v_fault v_place v_word v_snapMany v_starterMany v_perfectMany v_wanted v_seed v_tape v_now v_read v_kept v_snaps v_before v_live v_other v_isKept v_waysOf v_sought v_starterRow v_wantedRow v_order) (wd_X9 cI cZ cP a_this a_tape a_now a_read a_kept a_snaps a_before a_live a_other a_isKept a_waysOf a_sought a_starterRow a_wantedRow a_order v_thrown nv_taped v_size v_to v_from v_kind v_number v_fault v_place v_word v_snapMany v_starterMany v_perfectMany v_wanted v_seed nv_tape v_now v_read v_kept v_snaps v_before v_live v_other v_isKept v_waysOf v_sought v_starterRow v_wantedRow v_order) := by
  unfold f_X9_lay at h
  refine rd_enterV (cc := cX9_lay) (maxL := 3) (by decide) rfl (Nat.le_of_ble_eq_true rfl) ?_
  intro p e s m args below meth c A Q ls hx hb hml hown hts hA hK hP hD hS hl hret
  have hl : lv_has ls 3 [(0, .ref a_this), (1, .int p1)] := hl
  have kw1 := hts (.fieldLink RX9 11 "RoundDaysModel" "tape" "[I") (List.mem_of_getElem? (i := 1) rfl)
  have kw2 := hts (.fieldLink RX9 15 "RoundDaysModel" "taped" "I") (List.mem_of_getElem? (i := 2) rfl)
  have w3 : ∀ n : Nat, ∀ (x2 : Int32) (v_taped : Int32) (v_tape : Nat → Int32), lp (f_X9_lay_L3 p1) n (x2, v_taped, v_tape) = some (nv_taped, nv_tape) → ∀ (H : Heap) (locs : List Loc) (ls : Array Slot), va_P D vwCl (wd_X9 cI cZ cP a_this a_tape a_now a_read a_kept a_snaps a_before a_live a_other a_isKept a_waysOf a_sought a_starterRow a_wantedRow a_order v_thrown v_taped v_size v_to v_from v_kind v_number v_fault v_place v_word v_snapMany v_starterMany v_perfectMany v_wanted v_seed v_tape v_now v_read v_kept v_snaps v_before v_live v_other v_isKept v_waysOf v_sought v_starterRow v_wantedRow v_order) H → va_D A (wd_X9 cI cZ cP a_this a_tape a_now a_read a_kept a_snaps a_before a_live a_other a_isKept a_waysOf a_sought a_starterRow a_wantedRow a_order v_thrown v_taped v_size v_to v_from v_kind v_number v_fault v_place v_word v_snapMany v_starterMany v_perfectMany v_wanted v_seed v_tape v_now v_read v_kept v_snaps v_before v_live v_other v_isKept v_waysOf v_sought v_starterRow v_wantedRow v_order) → va_S A s.heap H locs → lv_has ls 3 [(0, .ref a_this), (1, .int p1), (2, .int x2)] → W p l e { frames := 0, cells := 0, slots := 0, locals := 0 } s m args below meth c H locs 0 0 Q (F0 m 3 ls []) := by
    refine fun n x2 v_taped v_tape h => lp_walk (b := f_X9_lay_L3 p1) (r := (nv_taped, nv_tape)) (P := fun st => match st with | (x2, v_taped, v_tape) => ∀ (H : Heap) (locs : List Loc) (ls : Array Slot), va_P D vwCl (wd_X9 cI cZ cP a_this a_tape a_now a_read a_kept a_snaps a_before a_live a_other a_isKept a_waysOf a_sought a_starterRow a_wantedRow a_order v_thrown v_taped v_size v_to v_from v_kind v_number v_fault v_place v_word v_snapMany v_starterMany v_perfectMany v_wanted v_seed v_tape v_now v_read v_kept v_snaps v_before v_live v_other v_isKept v_waysOf v_sought v_starterRow v_wantedRow v_order) H → va_D A (wd_X9 cI cZ cP a_this a_tape a_now a_read a_kept a_snaps a_before a_live a_other a_isKept a_waysOf a_sought a_starterRow a_wantedRow a_order v_thrown v_taped v_size v_to v_from v_kind v_number v_fault v_place v_word v_snapMany v_starterMany v_perfectMany v_wanted v_seed v_tape v_now v_read v_kept v_snaps v_before v_live v_other v_isKept v_waysOf v_sought v_starterRow v_wantedRow v_order) → va_S A s.heap H locs → lv_has ls 3 [(0, .ref a_this), (1, .int p1), (2, .int x2)] → W p l e { frames := 0, cells := 0, slots := 0, locals := 0 } s m args below meth c H locs 0 0 Q (F0 m 3 ls [])) (fun self hself0 st h => ?_) n (x2, v_taped, v_tape) h
    obtain ⟨x2, v_taped, v_tape⟩ := st
    have hself : ∀ (x2 : Int32) (v_taped : Int32) (v_tape : Nat → Int32), self (x2, v_taped, v_tape) = some (nv_taped, nv_tape) → ∀ (H : Heap) (locs : List Loc) (ls : Array Slot), va_P D vwCl (wd_X9 cI cZ cP a_this a_tape a_now a_read a_kept a_snaps a_before a_live a_other a_isKept a_waysOf a_sought a_starterRow a_wantedRow a_order v_thrown v_taped v_size v_to v_from v_kind v_number v_fault v_place v_word v_snapMany v_starterMany v_perfectMany v_wanted v_seed v_tape v_now v_read v_kept v_snaps v_before v_live v_other v_isKept v_waysOf v_sought v_starterRow v_wantedRow v_order) H → va_D A (wd_X9 cI cZ cP a_this a_tape a_now a_read a_kept a_snaps a_before a_live a_other a_isKept a_waysOf a_sought a_starterRow a_wantedRow a_order v_thrown v_taped v_size v_to v_from v_kind v_number v_fault v_place v_word v_snapMany v_starterMany v_perfectMany v_wanted v_seed v_tape v_now v_read v_kept v_snaps v_before v_live v_other v_isKept v_waysOf v_sought v_starterRow v_wantedRow v_order) → va_S A s.heap H locs → lv_has ls 3 [(0, .ref a_this), (1, .int p1), (2, .int x2)] → W p l e { frames := 0, cells := 0, slots := 0, locals := 0 } s m args below meth c H locs 0 0 Q (F0 m 3 ls []) := fun x2 v_taped v_tape h => hself0 (x2, v_taped, v_tape) h
    clear hself0
    intro H locs ls hP hD hS hl
    replace h : (if x2 < 0 then some (v_taped, v_tape) else if inb v_taped 740 then bd (upd v_tape v_taped.toNatClampNeg (((p1.toUInt32 >>> (x2.toUInt32 &&& Int32.toUInt32 31)).toInt32) &&& (255 : Int32))) (fun v_tape_3 => bd (v_taped + (1 : Int32)) (fun v_taped_4 => bd (x2 + (-8 : Int32)) (fun x2_5 => self (x2_5, v_taped_4, v_tape_3)))) else none) = some (nv_taped, nv_tape) := h
    refine lv_iload_n hx hb dX9_lay_3 rfl (lv_at hl 2 rfl) ?_
    refine lv_if_lt (tgt := 39) hx hb dX9_lay_4 (by decide) (fun c_1 => ?_) (fun c_1 => ?_)
    · replace h := it_pos h c_1
      obtain ⟨rfl, rfl⟩ := inj2 h
      exact hret dX9_lay_39 hP hD hS
    · replace h := it_neg h c_1
      refine lv_aload_n hx hb dX9_lay_7 rfl (lv_at hl 0 rfl) ?_
      refine va_get (D := D) (ci := 9) (v := .ref a_tape) (C := RX9) (T := TX9) (N := 29) hx hb hts in_X9_lay_X9 hown hK hP 0 rfl rfl 1 (by decide) kw1 (fun _ h9 => h9) rfl dX9_lay_8 ?_
      refine lv_aload_n hx hb dX9_lay_11 rfl (lv_at hl 0 rfl) ?_
      refine va_get (D := D) (ci := 9) (v := .int v_taped) (C := RX9) (T := TX9) (N := 29) hx hb hts in_X9_lay_X9 hown hK hP 0 rfl rfl 2 (by decide) kw2 (fun _ h9 => h9) rfl dX9_lay_12 ?_
      refine lv_iload_n hx hb dX9_lay_15 rfl (lv_at hl 1 rfl) ?_
      refine lv_iload_n hx hb dX9_lay_16 rfl (lv_at hl 2 rfl) ?_
      refine lv_iushr (v := (p1.toUInt32 >>> (x2.toUInt32 &&& Int32.toUInt32 31)).toInt32) hx hb dX9_lay_17 rfl ?_
      refine lv_sipush (v := 255) hx hb dX9_lay_18 (by decide) ?_
      refine lv_iand hx hb dX9_lay_21 ?_
      obtain ⟨hi_2, h⟩ := gd_some h
      obtain ⟨v_tape_3, ev_tape_3, h⟩ := bd_some h
      refine rd_iast (W1 := wd_X9 cI cZ cP a_this a_tape a_now a_read a_kept a_snaps a_before a_live a_other a_isKept a_waysOf a_sought a_starterRow a_wantedRow a_order v_thrown v_taped v_size v_to v_from v_kind v_number v_fault v_place v_word v_snapMany v_starterMany v_perfectMany v_wanted v_seed v_tape_3 v_now v_read v_kept v_snaps v_before v_live v_other v_isKept v_waysOf v_sought v_starterRow v_wantedRow v_order) hx hb hK hP hD hS 1 0 rfl rfl hi_2 ev_tape_3 rfl dX9_lay_22 (fun H locs hP hD hS => ?_)
      refine lv_aload_n hx hb dX9_lay_23 rfl (lv_at hl 0 rfl) ?_
      refine lv_dup hx hb dX9_lay_24 rfl ?_
      refine va_get (D := D) (ci := 9) (v := .int v_taped) (C := RX9) (T := TX9) (N := 29) hx hb hts in_X9_lay_X9 hown hK hP 0 rfl rfl 2 (by decide) kw2 (fun _ h9 => h9) rfl dX9_lay_25 ?_
      refine lv_iconst (v := 1) hx hb dX9_lay_28 (by decide) ?_
      refine lv_iadd hx hb dX9_lay_29 ?_
      obtain ⟨v_taped_4, ev_taped_4, h⟩ := bd_some h
      refine rd_top ev_taped_4 ?_
      refine rd_put (W1 := wd_X9 cI cZ cP a_this a_tape a_now a_read a_kept a_snaps a_before a_live a_other a_isKept a_waysOf a_sought a_starterRow a_wantedRow a_order v_thrown v_taped_4 v_size v_to v_from v_kind v_number v_fault v_place v_word v_snapMany v_starterMany v_perfectMany v_wanted v_seed v_tape_3 v_now v_read v_kept v_snaps v_before v_live v_other v_isKept v_waysOf v_sought v_starterRow v_wantedRow v_order) (C := RX9) (T := TX9) (N := 29) (ci := 9) hx hb hts in_X9_lay_X9 tyX9 tyX9_ok nmX9 hown hK hP hD hS 0 rfl rfl 2 (by decide) kw2 (fun _ h9 => h9) rfl rfl rfl (Nat.le_of_ble_eq_true rfl) rfl dX9_lay_30 (fun H locs hP hD hS => ?_)
      obtain ⟨x2_5, ex2_5, h⟩ := bd_some h
      refine lv_iinc (v := x2_5) (lv' := [(2, .int x2_5), (0, .ref a_this), (1, .int p1)]) hx hb dX9_lay_33 hl (k := 2) rfl (by rw [ex2_5]; rfl) (by decide) rfl (fun ls hl => ?_)
      refine lv_goto (tgt := 3) hx hb dX9_lay_36 (by decide) ?_
      exact hself x2_5 v_taped_4 v_tape_3 h _ _ _ hP hD hS (lv_sub hl [1, 2, 0] rfl)
  refine lv_bipush (v := 24) hx hb dX9_lay_0 (by decide) ?_
  refine lv_istore_n (lv' := [(2, .int (24 : Int32)), (0, .ref a_this), (1, .int p1)]) hx hb dX9_lay_2 rfl hl (by decide) rfl (fun ls hl => ?_)
  exact w3 20000 (24 : Int32) v_taped v_tape h _ _ _ hP hD hS (lv_sub hl [1, 2, 0] rfl)
theorem in_X9_feed_X9 : ∀ w ∈ wsX90, w ∈ wsX9_feed := by decide +kernel
def f_X9_feed (v_thrown : Int32) (v_taped : Int32) (v_tape : Nat → Int32) (p1 : Int32) (p2 : Int32) (p3 : Int32) (p4 : Int32) (p5 : Int32) : Option (Int32 × Int32 × Int32 × (Nat → Int32)) := if (v_taped + (20 : Int32)) ≤ (740 : Int32) then (f_X9_lay v_taped v_tape p1).bind (fun t => match t with | (v_taped_2, v_tape_3) => (f_X9_lay v_taped_2 v_tape_3 p2).bind (fun t => match t with | (v_taped_5, v_tape_6) => (f_X9_lay v_taped_5 v_tape_6 p3).bind (fun t => match t with | (v_taped_8, v_tape_9) => (f_X9_lay v_taped_8 v_tape_9 p4).bind (fun t => match t with | (v_taped_11, v_tape_12) => (f_X9_lay v_taped_11 v_tape_12 p5).bind (fun t => match t with | (v_taped_14, v_tape_15) => some (v_taped_14, (0 : Int32), v_taped_14, v_tape_15)))))) else some ((-1 : Int32), (0 : Int32), v_taped, v_tape)
set_option maxHeartbeats 4000000 in
set_option maxRecDepth 100000 in
theorem c_X9_feed (l : Launch) (D : va_G) (cI cZ cP : ClassId) (a_this : Nat) (a_tape : Nat) (a_now : Nat) (a_read : Nat) (a_kept : Nat) (a_snaps : Nat) (a_before : Nat) (a_live : Nat) (a_other : Nat) (a_isKept : Nat) (a_waysOf : Nat) (a_sought : Nat) (a_starterRow : Nat) (a_wantedRow : Nat) (a_order : Nat) (v_thrown : Int32) (v_taped : Int32) (v_size : Int32) (v_to : Int32) (v_from : Int32) (v_kind : Int32) (v_number : Int32) (v_fault : Int32) (v_place : Int32) (v_word : Int64) (v_snapMany : Int32) (v_starterMany : Int32) (v_perfectMany : Int32) (v_wanted : Int32) (v_seed : Int32) (v_tape : Nat → Int32) (v_now : Nat → Int32) (v_read : Nat → Int32) (v_kept : Nat → Int32) (v_snaps : Nat → Int32) (v_before : Nat → Int32) (v_live : Nat → Int32) (v_other : Nat → Int32) (v_isKept : Nat → Int32) (v_waysOf : Nat → Int32) (v_sought : Nat → Int32) (v_starterRow : Nat → Int32) (v_wantedRow : Nat → Int32) (v_order : Nat → Int32) (p1 : Int32) (p2 : Int32) (p3 : Int32) (p4 : Int32) (p5 : Int32) (r : Int32) (nv_thrown : Int32) (nv_taped : Int32) (nv_tape : Nat → Int32) (h : f_X9_feed v_thrown v_taped v_tape p1 p2 p3 p4 p5 = some (r, nv_thrown, nv_taped, nv_tape)) : rd_I l yX9_feed wsX9_feed { frames := 1, cells := 0, slots := 0, locals := 22 } [.ref a_this, .int p1, .int p2, .int p3, .int p4, .int p5] D (tyA cI cZ cP) (wd_X9 cI cZ cP a_this a_tape a_now a_read a_kept a_snaps a_before a_live a_other a_isKept a_waysOf a_sought a_starterRow a_wantedRow a_order v_thrown v_taped v_size v_to v_from v_kind v_number v_fault v_place v_word v_snapMany v_starterMany v_perfectMany v_wanted v_seed v_tape v_now v_read v_kept v_snaps v_before v_live v_other v_isKept v_waysOf v_sought v_starterRow v_wantedRow v_order) (wd_X9 cI cZ cP a_this a_tape a_now a_read a_kept a_snaps a_before a_live a_other a_isKept a_waysOf a_sought a_starterRow a_wantedRow a_order nv_thrown nv_taped v_size v_to v_from v_kind v_number v_fault v_place v_word v_snapMany v_starterMany v_perfectMany v_wanted v_seed nv_tape v_now v_read v_kept v_snaps v_before v_live v_other v_isKept v_waysOf v_sought v_starterRow v_wantedRow v_order) r := by
  unfold f_X9_feed at h
  refine rd_enterI (cc := cX9_feed) (maxL := 6) (by decide) rfl (Nat.le_of_ble_eq_true rfl) ?_
  intro p e s m args below meth c A Q ls hx hb hml hown hts hA hK hP hD hS hl hret
  have hl : lv_has ls 6 [(0, .ref a_this), (1, .int p1), (2, .int p2), (3, .int p3), (4, .int p4), (5, .int p5)] := hl
  have kw1 := hts (.fieldLink RX9 1 "RoundDaysModel" "thrown" "I") (List.mem_of_getElem? (i := 1) rfl)
  have kw2 := hts (.fieldLink RX9 15 "RoundDaysModel" "taped" "I") (List.mem_of_getElem? (i := 2) rfl)
  refine lv_aload_n hx hb dX9_feed_0 rfl (lv_at hl 0 rfl) ?_
  refine lv_iconst (v := 0) hx hb dX9_feed_1 (by decide) ?_
  refine rd_put (W1 := wd_X9 cI cZ cP a_this a_tape a_now a_read a_kept a_snaps a_before a_live a_other a_isKept a_waysOf a_sought a_starterRow a_wantedRow a_order (0 : Int32) v_taped v_size v_to v_from v_kind v_number v_fault v_place v_word v_snapMany v_starterMany v_perfectMany v_wanted v_seed v_tape v_now v_read v_kept v_snaps v_before v_live v_other v_isKept v_waysOf v_sought v_starterRow v_wantedRow v_order) (C := RX9) (T := TX9) (N := 29) (ci := 9) hx hb hts in_X9_feed_X9 tyX9 tyX9_ok nmX9 hown hK hP hD hS 0 rfl rfl 0 (by decide) kw1 (fun _ h9 => h9) rfl rfl rfl (Nat.le_of_ble_eq_true rfl) rfl dX9_feed_2 (fun H locs hP hD hS => ?_)
  refine lv_aload_n hx hb dX9_feed_5 rfl (lv_at hl 0 rfl) ?_
  refine va_get (D := D) (ci := 9) (v := .int v_taped) (C := RX9) (T := TX9) (N := 29) hx hb hts in_X9_feed_X9 hown hK hP 0 rfl rfl 2 (by decide) kw2 (fun _ h9 => h9) rfl dX9_feed_6 ?_
  refine lv_bipush (v := 20) hx hb dX9_feed_9 (by decide) ?_
  refine lv_iadd hx hb dX9_feed_11 ?_
  refine lv_sipush (v := 740) hx hb dX9_feed_12 (by decide) ?_
  refine lv_icmp_le (tgt := 20) hx hb dX9_feed_15 (by decide) (fun c_1 => ?_) (fun c_1 => ?_)
  · replace h := it_pos h c_1
    refine lv_aload_n hx hb dX9_feed_20 rfl (lv_at hl 0 rfl) ?_
    refine lv_iload_n hx hb dX9_feed_21 rfl (lv_at hl 1 rfl) ?_
    obtain ⟨⟨v_taped_2, v_tape_3⟩, hc_4, h⟩ := bi_some h
    refine rd_callVv [.int p1] [] (wr := []) (W1 := wd_X9 cI cZ cP a_this a_tape a_now a_read a_kept a_snaps a_before a_live a_other a_isKept a_waysOf a_sought a_starterRow a_wantedRow a_order (0 : Int32) v_taped_2 v_size v_to v_from v_kind v_number v_fault v_place v_word v_snapMany v_starterMany v_perfectMany v_wanted v_seed v_tape_3 v_now v_read v_kept v_snaps v_before v_live v_other v_isKept v_waysOf v_sought v_starterRow v_wantedRow v_order) (ci := 9) ⟨hx, hb, hml, hown, hts⟩ (c_X9_lay l D cI cZ cP a_this a_tape a_now a_read a_kept a_snaps a_before a_live a_other a_isKept a_waysOf a_sought a_starterRow a_wantedRow a_order (0 : Int32) v_taped v_size v_to v_from v_kind v_number v_fault v_place v_word v_snapMany v_starterMany v_perfectMany v_wanted v_seed v_tape v_now v_read v_kept v_snaps v_before v_live v_other v_isKept v_waysOf v_sought v_starterRow v_wantedRow v_order p1 v_taped_2 v_tape_3 hc_4) (cwV 1 hts gX9_feed_X9_lay rfl rfl rfl (by decide +kernel) ⟨Nat.le_of_ble_eq_true rfl, Nat.le_of_ble_eq_true rfl⟩) rfl rfl hl.1 (Nat.le_of_ble_eq_true rfl) dX9_feed_22 ⟨Nat.zero_le _, Nat.zero_le _⟩ hK hP hD hS hA rfl rfl [0, 1, 2, 3, 4, 5, 6, 7, 8, 9, 10, 11, 12, 13, 14] [] [0, 1, 2, 3, 4, 5, 6, 7, 8, 9, 10, 11, 12, 13, 14] ⟨⟨rfl, rfl, rfl⟩, by decide⟩ (fun H locs hP hD hS => ?_)
    refine lv_aload_n hx hb dX9_feed_25 rfl (lv_at hl 0 rfl) ?_
    refine lv_iload_n hx hb dX9_feed_26 rfl (lv_at hl 2 rfl) ?_
    obtain ⟨⟨v_taped_5, v_tape_6⟩, hc_7, h⟩ := bi_some h
    refine rd_callVv [.int p2] [] (wr := []) (W1 := wd_X9 cI cZ cP a_this a_tape a_now a_read a_kept a_snaps a_before a_live a_other a_isKept a_waysOf a_sought a_starterRow a_wantedRow a_order (0 : Int32) v_taped_5 v_size v_to v_from v_kind v_number v_fault v_place v_word v_snapMany v_starterMany v_perfectMany v_wanted v_seed v_tape_6 v_now v_read v_kept v_snaps v_before v_live v_other v_isKept v_waysOf v_sought v_starterRow v_wantedRow v_order) (ci := 9) ⟨hx, hb, hml, hown, hts⟩ (c_X9_lay l D cI cZ cP a_this a_tape a_now a_read a_kept a_snaps a_before a_live a_other a_isKept a_waysOf a_sought a_starterRow a_wantedRow a_order (0 : Int32) v_taped_2 v_size v_to v_from v_kind v_number v_fault v_place v_word v_snapMany v_starterMany v_perfectMany v_wanted v_seed v_tape_3 v_now v_read v_kept v_snaps v_before v_live v_other v_isKept v_waysOf v_sought v_starterRow v_wantedRow v_order p2 v_taped_5 v_tape_6 hc_7) (cwV 1 hts gX9_feed_X9_lay rfl rfl rfl (by decide +kernel) ⟨Nat.le_of_ble_eq_true rfl, Nat.le_of_ble_eq_true rfl⟩) rfl rfl hl.1 (Nat.le_of_ble_eq_true rfl) dX9_feed_27 ⟨Nat.zero_le _, Nat.zero_le _⟩ hK hP hD hS hA rfl rfl [0, 1, 2, 3, 4, 5, 6, 7, 8, 9, 10, 11, 12, 13, 14] [] [0, 1, 2, 3, 4, 5, 6, 7, 8, 9, 10, 11, 12, 13, 14] ⟨⟨rfl, rfl, rfl⟩, by decide⟩ (fun H locs hP hD hS => ?_)
    refine lv_aload_n hx hb dX9_feed_30 rfl (lv_at hl 0 rfl) ?_
    refine lv_iload_n hx hb dX9_feed_31 rfl (lv_at hl 3 rfl) ?_
    obtain ⟨⟨v_taped_8, v_tape_9⟩, hc_10, h⟩ := bi_some h
    refine rd_callVv [.int p3] [] (wr := []) (W1 := wd_X9 cI cZ cP a_this a_tape a_now a_read a_kept a_snaps a_before a_live a_other a_isKept a_waysOf a_sought a_starterRow a_wantedRow a_order (0 : Int32) v_taped_8 v_size v_to v_from v_kind v_number v_fault v_place v_word v_snapMany v_starterMany v_perfectMany v_wanted v_seed v_tape_9 v_now v_read v_kept v_snaps v_before v_live v_other v_isKept v_waysOf v_sought v_starterRow v_wantedRow v_order) (ci := 9) ⟨hx, hb, hml, hown, hts⟩ (c_X9_lay l D cI cZ cP a_this a_tape a_now a_read a_kept a_snaps a_before a_live a_other a_isKept a_waysOf a_sought a_starterRow a_wantedRow a_order (0 : Int32) v_taped_5 v_size v_to v_from v_kind v_number v_fault v_place v_word v_snapMany v_starterMany v_perfectMany v_wanted v_seed v_tape_6 v_now v_read v_kept v_snaps v_before v_live v_other v_isKept v_waysOf v_sought v_starterRow v_wantedRow v_order p3 v_taped_8 v_tape_9 hc_10) (cwV 1 hts gX9_feed_X9_lay rfl rfl rfl (by decide +kernel) ⟨Nat.le_of_ble_eq_true rfl, Nat.le_of_ble_eq_true rfl⟩) rfl rfl hl.1 (Nat.le_of_ble_eq_true rfl) dX9_feed_32 ⟨Nat.zero_le _, Nat.zero_le _⟩ hK hP hD hS hA rfl rfl [0, 1, 2, 3, 4, 5, 6, 7, 8, 9, 10, 11, 12, 13, 14] [] [0, 1, 2, 3, 4, 5, 6, 7, 8, 9, 10, 11, 12, 13, 14] ⟨⟨rfl, rfl, rfl⟩, by decide⟩ (fun H locs hP hD hS => ?_)
    refine lv_aload_n hx hb dX9_feed_35 rfl (lv_at hl 0 rfl) ?_
    refine lv_iload hx hb dX9_feed_36 (lv_at hl 4 rfl) ?_
    obtain ⟨⟨v_taped_11, v_tape_12⟩, hc_13, h⟩ := bi_some h
    refine rd_callVv [.int p4] [] (wr := []) (W1 := wd_X9 cI cZ cP a_this a_tape a_now a_read a_kept a_snaps a_before a_live a_other a_isKept a_waysOf a_sought a_starterRow a_wantedRow a_order (0 : Int32) v_taped_11 v_size v_to v_from v_kind v_number v_fault v_place v_word v_snapMany v_starterMany v_perfectMany v_wanted v_seed v_tape_12 v_now v_read v_kept v_snaps v_before v_live v_other v_isKept v_waysOf v_sought v_starterRow v_wantedRow v_order) (ci := 9) ⟨hx, hb, hml, hown, hts⟩ (c_X9_lay l D cI cZ cP a_this a_tape a_now a_read a_kept a_snaps a_before a_live a_other a_isKept a_waysOf a_sought a_starterRow a_wantedRow a_order (0 : Int32) v_taped_8 v_size v_to v_from v_kind v_number v_fault v_place v_word v_snapMany v_starterMany v_perfectMany v_wanted v_seed v_tape_9 v_now v_read v_kept v_snaps v_before v_live v_other v_isKept v_waysOf v_sought v_starterRow v_wantedRow v_order p4 v_taped_11 v_tape_12 hc_13) (cwV 1 hts gX9_feed_X9_lay rfl rfl rfl (by decide +kernel) ⟨Nat.le_of_ble_eq_true rfl, Nat.le_of_ble_eq_true rfl⟩) rfl rfl hl.1 (Nat.le_of_ble_eq_true rfl) dX9_feed_38 ⟨Nat.zero_le _, Nat.zero_le _⟩ hK hP hD hS hA rfl rfl [0, 1, 2, 3, 4, 5, 6, 7, 8, 9, 10, 11, 12, 13, 14] [] [0, 1, 2, 3, 4, 5, 6, 7, 8, 9, 10, 11, 12, 13, 14] ⟨⟨rfl, rfl, rfl⟩, by decide⟩ (fun H locs hP hD hS => ?_)
    refine lv_aload_n hx hb dX9_feed_41 rfl (lv_at hl 0 rfl) ?_
    refine lv_iload hx hb dX9_feed_42 (lv_at hl 5 rfl) ?_
    obtain ⟨⟨v_taped_14, v_tape_15⟩, hc_16, h⟩ := bi_some h
    refine rd_callVv [.int p5] [] (wr := []) (W1 := wd_X9 cI cZ cP a_this a_tape a_now a_read a_kept a_snaps a_before a_live a_other a_isKept a_waysOf a_sought a_starterRow a_wantedRow a_order (0 : Int32) v_taped_14 v_size v_to v_from v_kind v_number v_fault v_place v_word v_snapMany v_starterMany v_perfectMany v_wanted v_seed v_tape_15 v_now v_read v_kept v_snaps v_before v_live v_other v_isKept v_waysOf v_sought v_starterRow v_wantedRow v_order) (ci := 9) ⟨hx, hb, hml, hown, hts⟩ (c_X9_lay l D cI cZ cP a_this a_tape a_now a_read a_kept a_snaps a_before a_live a_other a_isKept a_waysOf a_sought a_starterRow a_wantedRow a_order (0 : Int32) v_taped_11 v_size v_to v_from v_kind v_number v_fault v_place v_word v_snapMany v_starterMany v_perfectMany v_wanted v_seed v_tape_12 v_now v_read v_kept v_snaps v_before v_live v_other v_isKept v_waysOf v_sought v_starterRow v_wantedRow v_order p5 v_taped_14 v_tape_15 hc_16) (cwV 1 hts gX9_feed_X9_lay rfl rfl rfl (by decide +kernel) ⟨Nat.le_of_ble_eq_true rfl, Nat.le_of_ble_eq_true rfl⟩) rfl rfl hl.1 (Nat.le_of_ble_eq_true rfl) dX9_feed_44 ⟨Nat.zero_le _, Nat.zero_le _⟩ hK hP hD hS hA rfl rfl [0, 1, 2, 3, 4, 5, 6, 7, 8, 9, 10, 11, 12, 13, 14] [] [0, 1, 2, 3, 4, 5, 6, 7, 8, 9, 10, 11, 12, 13, 14] ⟨⟨rfl, rfl, rfl⟩, by decide⟩ (fun H locs hP hD hS => ?_)
    refine lv_aload_n hx hb dX9_feed_47 rfl (lv_at hl 0 rfl) ?_
    refine va_get (D := D) (ci := 9) (v := .int v_taped_14) (C := RX9) (T := TX9) (N := 29) hx hb hts in_X9_feed_X9 hown hK hP 0 rfl rfl 2 (by decide) kw2 (fun _ h9 => h9) rfl dX9_feed_48 ?_
    obtain ⟨rfl, rfl, rfl, rfl⟩ := inj4 h
    exact hret dX9_feed_51 hP hD hS
  · replace h := it_neg h c_1
    refine lv_iconst (v := -1) hx hb dX9_feed_18 (by decide) ?_
    obtain ⟨rfl, rfl, rfl, rfl⟩ := inj4 h
    exact hret dX9_feed_19 hP hD hS
theorem in_X9_end_X9 : ∀ w ∈ wsX90, w ∈ wsX9_end := by decide +kernel
def f_X9_end (v_thrown : Int32) (v_taped : Int32) (p1 : Int32) : Option (Int32 × Int32 × Int32) := if p1 < 0 then some ((0 : Int32), (0 : Int32), v_taped) else if p1 ≤ v_taped then some ((1 : Int32), (0 : Int32), p1) else some ((0 : Int32), (0 : Int32), v_taped)
set_option maxHeartbeats 4000000 in
set_option maxRecDepth 100000 in
theorem c_X9_end (l : Launch) (D : va_G) (cI cZ cP : ClassId) (a_this : Nat) (a_tape : Nat) (a_now : Nat) (a_read : Nat) (a_kept : Nat) (a_snaps : Nat) (a_before : Nat) (a_live : Nat) (a_other : Nat) (a_isKept : Nat) (a_waysOf : Nat) (a_sought : Nat) (a_starterRow : Nat) (a_wantedRow : Nat) (a_order : Nat) (v_thrown : Int32) (v_taped : Int32) (v_size : Int32) (v_to : Int32) (v_from : Int32) (v_kind : Int32) (v_number : Int32) (v_fault : Int32) (v_place : Int32) (v_word : Int64) (v_snapMany : Int32) (v_starterMany : Int32) (v_perfectMany : Int32) (v_wanted : Int32) (v_seed : Int32) (v_tape : Nat → Int32) (v_now : Nat → Int32) (v_read : Nat → Int32) (v_kept : Nat → Int32) (v_snaps : Nat → Int32) (v_before : Nat → Int32) (v_live : Nat → Int32) (v_other : Nat → Int32) (v_isKept : Nat → Int32) (v_waysOf : Nat → Int32) (v_sought : Nat → Int32) (v_starterRow : Nat → Int32) (v_wantedRow : Nat → Int32) (v_order : Nat → Int32) (p1 : Int32) (r : Int32) (nv_thrown : Int32) (nv_taped : Int32) (h : f_X9_end v_thrown v_taped p1 = some (r, nv_thrown, nv_taped)) : rd_I l yX9_end wsX9_end { frames := 0, cells := 0, slots := 0, locals := 0 } [.ref a_this, .int p1] D (tyA cI cZ cP) (wd_X9 cI cZ cP a_this a_tape a_now a_read a_kept a_snaps a_before a_live a_other a_isKept a_waysOf a_sought a_starterRow a_wantedRow a_order v_thrown v_taped v_size v_to v_from v_kind v_number v_fault v_place v_word v_snapMany v_starterMany v_perfectMany v_wanted v_seed v_tape v_now v_read v_kept v_snaps v_before v_live v_other v_isKept v_waysOf v_sought v_starterRow v_wantedRow v_order) (wd_X9 cI cZ cP a_this a_tape a_now a_read a_kept a_snaps a_before a_live a_other a_isKept a_waysOf a_sought a_starterRow a_wantedRow a_order nv_thrown nv_taped v_size v_to v_from v_kind v_number v_fault v_place v_word v_snapMany v_starterMany v_perfectMany v_wanted v_seed v_tape v_now v_read v_kept v_snaps v_before v_live v_other v_isKept v_waysOf v_sought v_starterRow v_wantedRow v_order) r := by
  unfold f_X9_end at h
  refine rd_enterZ (cc := cX9_end) (maxL := 2) (by decide) rfl (Nat.le_of_ble_eq_true rfl) ?_
  intro p e s m args below meth c A Q ls hx hb hml hown hts hA hK hP hD hS hl hret
  have hl : lv_has ls 2 [(0, .ref a_this), (1, .int p1)] := hl
  have kw1 := hts (.fieldLink RX9 1 "RoundDaysModel" "thrown" "I") (List.mem_of_getElem? (i := 1) rfl)
  have kw2 := hts (.fieldLink RX9 15 "RoundDaysModel" "taped" "I") (List.mem_of_getElem? (i := 2) rfl)
  refine lv_aload_n hx hb dX9_end_0 rfl (lv_at hl 0 rfl) ?_
  refine lv_iconst (v := 0) hx hb dX9_end_1 (by decide) ?_
  refine rd_put (W1 := wd_X9 cI cZ cP a_this a_tape a_now a_read a_kept a_snaps a_before a_live a_other a_isKept a_waysOf a_sought a_starterRow a_wantedRow a_order (0 : Int32) v_taped v_size v_to v_from v_kind v_number v_fault v_place v_word v_snapMany v_starterMany v_perfectMany v_wanted v_seed v_tape v_now v_read v_kept v_snaps v_before v_live v_other v_isKept v_waysOf v_sought v_starterRow v_wantedRow v_order) (C := RX9) (T := TX9) (N := 29) (ci := 9) hx hb hts in_X9_end_X9 tyX9 tyX9_ok nmX9 hown hK hP hD hS 0 rfl rfl 0 (by decide) kw1 (fun _ h9 => h9) rfl rfl rfl (Nat.le_of_ble_eq_true rfl) rfl dX9_end_2 (fun H locs hP hD hS => ?_)
  refine lv_iload_n hx hb dX9_end_5 rfl (lv_at hl 1 rfl) ?_
  refine lv_if_lt (tgt := 17) hx hb dX9_end_6 (by decide) (fun c_1 => ?_) (fun c_1 => ?_)
  · replace h := it_pos h c_1
    refine lv_iconst (v := 0) hx hb dX9_end_17 (by decide) ?_
    obtain ⟨rfl, rfl, rfl⟩ := inj3 h
    exact hret (by decide) dX9_end_18 hP hD hS
  · replace h := it_neg h c_1
    refine lv_iload_n hx hb dX9_end_9 rfl (lv_at hl 1 rfl) ?_
    refine lv_aload_n hx hb dX9_end_10 rfl (lv_at hl 0 rfl) ?_
    refine va_get (D := D) (ci := 9) (v := .int v_taped) (C := RX9) (T := TX9) (N := 29) hx hb hts in_X9_end_X9 hown hK hP 0 rfl rfl 2 (by decide) kw2 (fun _ h9 => h9) rfl dX9_end_11 ?_
    refine lv_icmp_le (tgt := 19) hx hb dX9_end_14 (by decide) (fun c_2 => ?_) (fun c_2 => ?_)
    · replace h := it_pos h c_2
      refine lv_aload_n hx hb dX9_end_19 rfl (lv_at hl 0 rfl) ?_
      refine lv_iload_n hx hb dX9_end_20 rfl (lv_at hl 1 rfl) ?_
      refine rd_put (W1 := wd_X9 cI cZ cP a_this a_tape a_now a_read a_kept a_snaps a_before a_live a_other a_isKept a_waysOf a_sought a_starterRow a_wantedRow a_order (0 : Int32) p1 v_size v_to v_from v_kind v_number v_fault v_place v_word v_snapMany v_starterMany v_perfectMany v_wanted v_seed v_tape v_now v_read v_kept v_snaps v_before v_live v_other v_isKept v_waysOf v_sought v_starterRow v_wantedRow v_order) (C := RX9) (T := TX9) (N := 29) (ci := 9) hx hb hts in_X9_end_X9 tyX9 tyX9_ok nmX9 hown hK hP hD hS 0 rfl rfl 2 (by decide) kw2 (fun _ h9 => h9) rfl rfl rfl (Nat.le_of_ble_eq_true rfl) rfl dX9_end_21 (fun H locs hP hD hS => ?_)
      refine lv_iconst (v := 1) hx hb dX9_end_24 (by decide) ?_
      obtain ⟨rfl, rfl, rfl⟩ := inj3 h
      exact hret (by decide) dX9_end_25 hP hD hS
    · replace h := it_neg h c_2
      refine lv_iconst (v := 0) hx hb dX9_end_17 (by decide) ?_
      obtain ⟨rfl, rfl, rfl⟩ := inj3 h
      exact hret (by decide) dX9_end_18 hP hD hS
theorem in_X9_tapeAt_X9 : ∀ w ∈ wsX90, w ∈ wsX9_tapeAt := by decide +kernel
def f_X9_tapeAt (v_size : Int32) (v_tape : Nat → Int32) (p1 : Int32) : Option (Int32) := if v_size ≤ p1 then some (0 : Int32) else if inb p1 740 then some (v_tape p1.toNatClampNeg) else none
set_option maxHeartbeats 4000000 in
set_option maxRecDepth 100000 in
theorem c_X9_tapeAt (l : Launch) (D : va_G) (cI cZ cP : ClassId) (a_this : Nat) (a_tape : Nat) (a_now : Nat) (a_read : Nat) (a_kept : Nat) (a_snaps : Nat) (a_before : Nat) (a_live : Nat) (a_other : Nat) (a_isKept : Nat) (a_waysOf : Nat) (a_sought : Nat) (a_starterRow : Nat) (a_wantedRow : Nat) (a_order : Nat) (v_thrown : Int32) (v_taped : Int32) (v_size : Int32) (v_to : Int32) (v_from : Int32) (v_kind : Int32) (v_number : Int32) (v_fault : Int32) (v_place : Int32) (v_word : Int64) (v_snapMany : Int32) (v_starterMany : Int32) (v_perfectMany : Int32) (v_wanted : Int32) (v_seed : Int32) (v_tape : Nat → Int32) (v_now : Nat → Int32) (v_read : Nat → Int32) (v_kept : Nat → Int32) (v_snaps : Nat → Int32) (v_before : Nat → Int32) (v_live : Nat → Int32) (v_other : Nat → Int32) (v_isKept : Nat → Int32) (v_waysOf : Nat → Int32) (v_sought : Nat → Int32) (v_starterRow : Nat → Int32) (v_wantedRow : Nat → Int32) (v_order : Nat → Int32) (p1 : Int32) (r : Int32) (h : f_X9_tapeAt v_size v_tape p1 = some r) : rd_I l yX9_tapeAt wsX9_tapeAt { frames := 0, cells := 0, slots := 0, locals := 0 } [.ref a_this, .int p1] D (tyA cI cZ cP) (wd_X9 cI cZ cP a_this a_tape a_now a_read a_kept a_snaps a_before a_live a_other a_isKept a_waysOf a_sought a_starterRow a_wantedRow a_order v_thrown v_taped v_size v_to v_from v_kind v_number v_fault v_place v_word v_snapMany v_starterMany v_perfectMany v_wanted v_seed v_tape v_now v_read v_kept v_snaps v_before v_live v_other v_isKept v_waysOf v_sought v_starterRow v_wantedRow v_order) (wd_X9 cI cZ cP a_this a_tape a_now a_read a_kept a_snaps a_before a_live a_other a_isKept a_waysOf a_sought a_starterRow a_wantedRow a_order v_thrown v_taped v_size v_to v_from v_kind v_number v_fault v_place v_word v_snapMany v_starterMany v_perfectMany v_wanted v_seed v_tape v_now v_read v_kept v_snaps v_before v_live v_other v_isKept v_waysOf v_sought v_starterRow v_wantedRow v_order) r := by
  unfold f_X9_tapeAt at h
  refine rd_enterI (cc := cX9_tapeAt) (maxL := 2) (by decide) rfl (Nat.le_of_ble_eq_true rfl) ?_
  intro p e s m args below meth c A Q ls hx hb hml hown hts hA hK hP hD hS hl hret
  have hl : lv_has ls 2 [(0, .ref a_this), (1, .int p1)] := hl
  have kw1 := hts (.fieldLink RX9 22 "RoundDaysModel" "size" "I") (List.mem_of_getElem? (i := 1) rfl)
  have kw2 := hts (.fieldLink RX9 11 "RoundDaysModel" "tape" "[I") (List.mem_of_getElem? (i := 2) rfl)
  refine lv_iload_n hx hb dX9_tapeAt_0 rfl (lv_at hl 1 rfl) ?_
  refine lv_aload_n hx hb dX9_tapeAt_1 rfl (lv_at hl 0 rfl) ?_
  refine va_get (D := D) (ci := 9) (v := .int v_size) (C := RX9) (T := TX9) (N := 29) hx hb hts in_X9_tapeAt_X9 hown hK hP 0 rfl rfl 3 (by decide) kw1 (fun _ h9 => h9) rfl dX9_tapeAt_2 ?_
  refine lv_icmp_ge (tgt := 17) hx hb dX9_tapeAt_5 (by decide) (fun c_1 => ?_) (fun c_1 => ?_)
  · replace h := it_pos h c_1
    refine lv_iconst (v := 0) hx hb dX9_tapeAt_17 (by decide) ?_
    obtain rfl := inj1 h
    exact hret dX9_tapeAt_18 hP hD hS
  · replace h := it_neg h c_1
    refine lv_aload_n hx hb dX9_tapeAt_8 rfl (lv_at hl 0 rfl) ?_
    refine va_get (D := D) (ci := 9) (v := .ref a_tape) (C := RX9) (T := TX9) (N := 29) hx hb hts in_X9_tapeAt_X9 hown hK hP 0 rfl rfl 1 (by decide) kw2 (fun _ h9 => h9) rfl dX9_tapeAt_9 ?_
    refine lv_iload_n hx hb dX9_tapeAt_12 rfl (lv_at hl 1 rfl) ?_
    obtain ⟨hi_2, h⟩ := gd_some h
    refine va_iald hx hb hK hP 1 0 rfl rfl (inb_in hi_2) dX9_tapeAt_13 ?_
    refine lv_goto (tgt := 18) hx hb dX9_tapeAt_14 (by decide) ?_
    obtain rfl := inj1 h
    exact hret dX9_tapeAt_18 hP hD hS
def f_X9_isDigit (p0 : Int32) : Option (Int32) := if p0 < (48 : Int32) then some (0 : Int32) else if (57 : Int32) < p0 then some (0 : Int32) else some (1 : Int32)
set_option maxHeartbeats 4000000 in
set_option maxRecDepth 100000 in
theorem c_X9_isDigit (l : Launch) (D : va_G) (cI cZ cP : ClassId) (p0 : Int32) (r : Int32) (h : f_X9_isDigit p0 = some r) : rd_I l yX9_isDigit wsX9_isDigit { frames := 0, cells := 0, slots := 0, locals := 0 } [.int p0] D (tyA cI cZ cP) ([]) ([]) r := by
  unfold f_X9_isDigit at h
  refine rd_enterZ (cc := cX9_isDigit) (maxL := 1) (by decide) rfl (Nat.le_of_ble_eq_true rfl) ?_
  intro p e s m args below meth c A Q ls hx hb hml hown hts hA hK hP hD hS hl hret
  have hl : lv_has ls 1 [(0, .int p0)] := hl
  refine lv_iload_n hx hb dX9_isDigit_0 rfl (lv_at hl 0 rfl) ?_
  refine lv_bipush (v := 48) hx hb dX9_isDigit_1 (by decide) ?_
  refine lv_icmp_lt (tgt := 16) hx hb dX9_isDigit_3 (by decide) (fun c_1 => ?_) (fun c_1 => ?_)
  · replace h := it_pos h c_1
    refine lv_iconst (v := 0) hx hb dX9_isDigit_16 (by decide) ?_
    obtain rfl := inj1 h
    exact hret (by decide) dX9_isDigit_17 hP hD hS
  · replace h := it_neg h c_1
    refine lv_iload_n hx hb dX9_isDigit_6 rfl (lv_at hl 0 rfl) ?_
    refine lv_bipush (v := 57) hx hb dX9_isDigit_7 (by decide) ?_
    refine lv_icmp_gt (tgt := 16) hx hb dX9_isDigit_9 (by decide) (fun c_2 => ?_) (fun c_2 => ?_)
    · replace h := it_pos h c_2
      refine lv_iconst (v := 0) hx hb dX9_isDigit_16 (by decide) ?_
      obtain rfl := inj1 h
      exact hret (by decide) dX9_isDigit_17 hP hD hS
    · replace h := it_neg h c_2
      refine lv_iconst (v := 1) hx hb dX9_isDigit_12 (by decide) ?_
      refine lv_goto (tgt := 17) hx hb dX9_isDigit_13 (by decide) ?_
      obtain rfl := inj1 h
      exact hret (by decide) dX9_isDigit_17 hP hD hS
def f_X9_isLetter (p0 : Int32) : Option (Int32) := if p0 < (97 : Int32) then some (0 : Int32) else if (122 : Int32) < p0 then some (0 : Int32) else some (1 : Int32)
set_option maxHeartbeats 4000000 in
set_option maxRecDepth 100000 in
theorem c_X9_isLetter (l : Launch) (D : va_G) (cI cZ cP : ClassId) (p0 : Int32) (r : Int32) (h : f_X9_isLetter p0 = some r) : rd_I l yX9_isLetter wsX9_isLetter { frames := 0, cells := 0, slots := 0, locals := 0 } [.int p0] D (tyA cI cZ cP) ([]) ([]) r := by
  unfold f_X9_isLetter at h
  refine rd_enterZ (cc := cX9_isLetter) (maxL := 1) (by decide) rfl (Nat.le_of_ble_eq_true rfl) ?_
  intro p e s m args below meth c A Q ls hx hb hml hown hts hA hK hP hD hS hl hret
  have hl : lv_has ls 1 [(0, .int p0)] := hl
  refine lv_iload_n hx hb dX9_isLetter_0 rfl (lv_at hl 0 rfl) ?_
  refine lv_bipush (v := 97) hx hb dX9_isLetter_1 (by decide) ?_
  refine lv_icmp_lt (tgt := 16) hx hb dX9_isLetter_3 (by decide) (fun c_1 => ?_) (fun c_1 => ?_)
  · replace h := it_pos h c_1
    refine lv_iconst (v := 0) hx hb dX9_isLetter_16 (by decide) ?_
    obtain rfl := inj1 h
    exact hret (by decide) dX9_isLetter_17 hP hD hS
  · replace h := it_neg h c_1
    refine lv_iload_n hx hb dX9_isLetter_6 rfl (lv_at hl 0 rfl) ?_
    refine lv_bipush (v := 122) hx hb dX9_isLetter_7 (by decide) ?_
    refine lv_icmp_gt (tgt := 16) hx hb dX9_isLetter_9 (by decide) (fun c_2 => ?_) (fun c_2 => ?_)
    · replace h := it_pos h c_2
      refine lv_iconst (v := 0) hx hb dX9_isLetter_16 (by decide) ?_
      obtain rfl := inj1 h
      exact hret (by decide) dX9_isLetter_17 hP hD hS
    · replace h := it_neg h c_2
      refine lv_iconst (v := 1) hx hb dX9_isLetter_12 (by decide) ?_
      refine lv_goto (tgt := 17) hx hb dX9_isLetter_13 (by decide) ?_
      obtain rfl := inj1 h
      exact hret (by decide) dX9_isLetter_17 hP hD hS
theorem in_X9_next_X9 : ∀ w ∈ wsX90, w ∈ wsX9_next := by decide +kernel
def f_X9_next_J39 (k0 : Int32 → Option (Int32 × Int32 × Int32 × Int32 × Int64)) (v_size : Int32) (v_tape : Nat → Int32) (v_from : Int32) (v_kind : Int32) (v_number : Int32) (v_word : Int64) : Int32 → Option (Int32 × Int32 × Int32 × Int32 × Int64) := fun v_to => bd (v_to + (1 : Int32)) (fun v_to_1 => k0 v_to_1)
def f_X9_next_J146 (v_size : Int32) (v_tape : Nat → Int32) : Int32 × Int32 × Int32 × Int32 × Int32 × Int64 → Option (Int32 × Int32 × Int32 × Int32 × Int64) := fun st => match st with | (s1, v_to, v_from, v_kind, v_number, v_word) => bd (v_to + (1 : Int32)) (fun v_to_2 => some (v_to_2, v_from, s1, v_number, v_word))
def f_X9_next_J233 (k234 : Int32 × Int32 × Int32 × Int32 × Int64 → Option (Int32 × Int32 × Int32 × Int32 × Int64)) (v_size : Int32) (v_tape : Nat → Int32) (x2 : Int32) (v_from : Int32) (v_kind : Int32) : Int32 × Int32 × Int32 × Int64 → Option (Int32 × Int32 × Int32 × Int32 × Int64) := fun st => match st with | (x4, v_to, v_number, v_word) => k234 (x4, (0 : Int32), v_to, v_number, v_word)
def f_X9_next_J299 (k177 : Int32 × Int32 × Int32 × Int64 → Option (Int32 × Int32 × Int32 × Int32 × Int64)) (v_size : Int32) (v_tape : Nat → Int32) (x2 : Int32) (v_from : Int32) (v_kind : Int32) : Int32 × Int32 × Int32 × Int64 → Option (Int32 × Int32 × Int32 × Int32 × Int64) := fun st => match st with | (x3, v_to, v_number, v_word) => bd (v_to + (1 : Int32)) (fun v_to_3 => k177 (x3, v_to_3, v_number, v_word))
def f_X9_next_J269 (k177 : Int32 × Int32 × Int32 × Int64 → Option (Int32 × Int32 × Int32 × Int32 × Int64)) (v_size : Int32) (v_tape : Nat → Int32) (x2 : Int32) (v_from : Int32) (v_kind : Int32) : Int32 × Int32 × Int32 × Int32 × Int64 → Option (Int32 × Int32 × Int32 × Int32 × Int64) := fun st => match st with | (x3, x4, v_to, v_number, v_word) => if (2 : Int32) ≤ (v_to - v_from) then f_X9_next_J299 k177 v_size v_tape x2 v_from v_kind (x3, v_to, v_number, v_word) else bd ((((10 : Int32) * v_number) + x4) - (48 : Int32)) (fun v_number_5 => f_X9_next_J299 k177 v_size v_tape x2 v_from v_kind (x3, v_to, v_number_5, v_word))
def f_X9_next_J234 (k177 : Int32 × Int32 × Int32 × Int64 → Option (Int32 × Int32 × Int32 × Int32 × Int64)) (v_size : Int32) (v_tape : Nat → Int32) (x2 : Int32) (v_from : Int32) (v_kind : Int32) : Int32 × Int32 × Int32 × Int32 × Int64 → Option (Int32 × Int32 × Int32 × Int32 × Int64) := fun st => match st with | (x4, s0, v_to, v_number, v_word) => if (6 : Int32) ≤ (v_to - v_from) then f_X9_next_J269 k177 v_size v_tape x2 v_from v_kind (s0, x4, v_to, v_number, v_word) else bd ((((27 : Int64) * v_word) + x4.toInt64) - (96 : Int64)) (fun v_word_7 => f_X9_next_J269 k177 v_size v_tape x2 v_from v_kind (s0, x4, v_to, v_number, v_word_7))
def f_X9_next_J205 (k177 : Int32 × Int32 × Int32 × Int64 → Option (Int32 × Int32 × Int32 × Int32 × Int64)) (v_size : Int32) (v_tape : Nat → Int32) (x2 : Int32) (v_from : Int32) (v_kind : Int32) : Int32 × Int32 × Int32 × Int64 → Option (Int32 × Int32 × Int32 × Int32 × Int64) := fun st => match st with | (x3, v_to, v_number, v_word) => if inb v_to 740 then bd (v_tape v_to.toNatClampNeg) (fun x4_9 => if x3 = 0 then f_X9_next_J233 (f_X9_next_J234 k177 v_size v_tape x2 v_from v_kind) v_size v_tape x2 v_from v_kind (x4_9, v_to, v_number, v_word) else (f_X9_isLetter x4_9).bind (fun r_11 => if r_11 = x2 then f_X9_next_J234 k177 v_size v_tape x2 v_from v_kind (x4_9, (1 : Int32), v_to, v_number, v_word) else f_X9_next_J233 (f_X9_next_J234 k177 v_size v_tape x2 v_from v_kind) v_size v_tape x2 v_from v_kind (x4_9, v_to, v_number, v_word))) else none
def f_X9_next_J338 (v_size : Int32) (v_tape : Nat → Int32) : Int32 × Int32 × Int32 × Int32 × Int32 × Int64 → Option (Int32 × Int32 × Int32 × Int32 × Int64) := fun st => match st with | (x2, v_to, v_from, v_kind, v_number, v_word) => if x2 = 0 then some (v_to, v_from, (3 : Int32), v_number, v_word) else some (v_to, v_from, (2 : Int32), v_number, v_word)
def f_X9_next_L177 (v_size : Int32) (v_tape : Nat → Int32) (x2 : Int32) (v_from : Int32) (v_kind : Int32) (self : Int32 × Int32 × Int32 × Int64 → Option (Int32 × Int32 × Int32 × Int32 × Int64)) : Int32 × Int32 × Int32 × Int64 → Option (Int32 × Int32 × Int32 × Int32 × Int64) := fun st => match st with | (x3, v_to, v_number, v_word) => (f_X9_tapeAt v_size v_tape v_to).bind (fun r_15 => (f_X9_isLetter r_15).bind (fun r_17 => if r_17 = 0 then (f_X9_tapeAt v_size v_tape v_to).bind (fun r_20 => (f_X9_isDigit r_20).bind (fun r_22 => if r_22 = 0 then if x3 = 0 then some (v_to, v_from, (1 : Int32), v_number, v_word) else if x2 = 0 then if (v_to - v_from) ≤ (2 : Int32) then f_X9_next_J338 v_size v_tape (x2, v_to, v_from, v_kind, v_number, v_word) else some (v_to, v_from, (1 : Int32), v_number, v_word) else f_X9_next_J338 v_size v_tape (x2, v_to, v_from, v_kind, v_number, v_word) else f_X9_next_J205 self v_size v_tape x2 v_from v_kind (x3, v_to, v_number, v_word))) else f_X9_next_J205 self v_size v_tape x2 v_from v_kind (x3, v_to, v_number, v_word)))
def f_X9_next_J160 (v_size : Int32) (v_tape : Nat → Int32) : Int32 × Int32 × Int32 × Int32 × Int32 × Int64 → Option (Int32 × Int32 × Int32 × Int32 × Int64) := fun st => match st with | (x1, v_to, v_from, v_kind, v_number, v_word) => (f_X9_isLetter x1).bind (fun r_28 => lp (f_X9_next_L177 v_size v_tape r_28 v_from v_kind) 20000 ((1 : Int32), v_to, (0 : Int32), (0 : Int64)))
def f_X9_next_J93 (v_size : Int32) (v_tape : Nat → Int32) : Int32 × Int32 × Int32 × Int32 × Int64 → Option (Int32 × Int32 × Int32 × Int32 × Int64) := fun st => match st with | (v_to, v_from, v_kind, v_number, v_word) => if v_to < v_size then if inb v_to 740 then bd (v_tape v_to.toNatClampNeg) (fun x1_32 => (f_X9_isLetter x1_32).bind (fun r_33 => if r_33 = 0 then (f_X9_isDigit x1_32).bind (fun r_36 => if r_36 = 0 then if x1_32 = (59 : Int32) then f_X9_next_J146 v_size v_tape ((4 : Int32), v_to, v_from, v_kind, v_number, v_word) else f_X9_next_J146 v_size v_tape ((1 : Int32), v_to, v_from, v_kind, v_number, v_word) else f_X9_next_J160 v_size v_tape (x1_32, v_to, v_from, v_kind, v_number, v_word)) else f_X9_next_J160 v_size v_tape (x1_32, v_to, v_from, v_kind, v_number, v_word))) else none else some (v_to, v_from, (0 : Int32), v_number, v_word)
def f_X9_next_J52 (v_size : Int32) (v_tape : Nat → Int32) : Int32 × Int32 × Int32 × Int32 × Int64 → Option (Int32 × Int32 × Int32 × Int32 × Int64) := fun st => match st with | (v_to, v_from, v_kind, v_number, v_word) => if v_size ≤ (700 : Int32) then f_X9_next_J93 v_size v_tape (v_to, v_to, v_kind, v_number, v_word) else if v_to < (700 : Int32) then f_X9_next_J93 v_size v_tape (v_to, v_to, v_kind, v_number, v_word) else some (v_to, (700 : Int32), (1 : Int32), v_number, v_word)
def f_X9_next_L0 (v_size : Int32) (v_tape : Nat → Int32) (v_from : Int32) (v_kind : Int32) (v_number : Int32) (v_word : Int64) (self : Int32 → Option (Int32 × Int32 × Int32 × Int32 × Int64)) : Int32 → Option (Int32 × Int32 × Int32 × Int32 × Int64) := fun v_to => if v_size ≤ v_to then f_X9_next_J52 v_size v_tape (v_to, v_from, v_kind, v_number, v_word) else if inb v_to 740 then if (v_tape v_to.toNatClampNeg) = (32 : Int32) then f_X9_next_J39 self v_size v_tape v_from v_kind v_number v_word v_to else if inb v_to 740 then if (v_tape v_to.toNatClampNeg) = (10 : Int32) then f_X9_next_J39 self v_size v_tape v_from v_kind v_number v_word v_to else f_X9_next_J52 v_size v_tape (v_to, v_from, v_kind, v_number, v_word) else none else none
def f_X9_next (v_size : Int32) (v_to : Int32) (v_from : Int32) (v_kind : Int32) (v_number : Int32) (v_word : Int64) (v_tape : Nat → Int32) : Option (Int32 × Int32 × Int32 × Int32 × Int64) := lp (f_X9_next_L0 v_size v_tape v_from v_kind v_number v_word) 20000 v_to
set_option maxHeartbeats 4000000 in
set_option maxRecDepth 100000 in
theorem c_X9_next (l : Launch) (D : va_G) (cI cZ cP : ClassId) (a_this : Nat) (a_tape : Nat) (a_now : Nat) (a_read : Nat) (a_kept : Nat) (a_snaps : Nat) (a_before : Nat) (a_live : Nat) (a_other : Nat) (a_isKept : Nat) (a_waysOf : Nat) (a_sought : Nat) (a_starterRow : Nat) (a_wantedRow : Nat) (a_order : Nat) (v_thrown : Int32) (v_taped : Int32) (v_size : Int32) (v_to : Int32) (v_from : Int32) (v_kind : Int32) (v_number : Int32) (v_fault : Int32) (v_place : Int32) (v_word : Int64) (v_snapMany : Int32) (v_starterMany : Int32) (v_perfectMany : Int32) (v_wanted : Int32) (v_seed : Int32) (v_tape : Nat → Int32) (v_now : Nat → Int32) (v_read : Nat → Int32) (v_kept : Nat → Int32) (v_snaps : Nat → Int32) (v_before : Nat → Int32) (v_live : Nat → Int32) (v_other : Nat → Int32) (v_isKept : Nat → Int32) (v_waysOf : Nat → Int32) (v_sought : Nat → Int32) (v_starterRow : Nat → Int32) (v_wantedRow : Nat → Int32) (v_order : Nat → Int32) (nv_to : Int32) (nv_from : Int32) (nv_kind : Int32) (nv_number : Int32) (nv_word : Int64) (h : f_X9_next v_size v_to v_from v_kind v_number v_word v_tape = some (nv_to, nv_from, nv_kind, nv_number, nv_word)) : rd_V l yX9_next wsX9_next { frames := 1, cells := 0, slots := 0, locals := 21 } [.ref a_this] D (tyA cI cZ cP) (wd_X9 cI cZ cP a_this a_tape a_now a_read a_kept a_snaps a_before a_live a_other a_isKept a_waysOf a_sought a_starterRow a_wantedRow a_order v_thrown v_taped v_size v_to v_from v_kind v_number v_fault v_place v_word v_snapMany v_starterMany v_perfectMany v_wanted v_seed v_tape v_now v_read v_kept v_snaps v_before v_live v_other v_isKept v_waysOf v_sought v_starterRow v_wantedRow v_order) (wd_X9 cI cZ cP a_this a_tape a_now a_read a_kept a_snaps a_before a_live a_other a_isKept a_waysOf a_sought a_starterRow a_wantedRow a_order v_thrown v_taped v_size nv_to nv_from nv_kind nv_number v_fault v_place nv_word v_snapMany v_starterMany v_perfectMany v_wanted v_seed v_tape v_now v_read v_kept v_snaps v_before v_live v_other v_isKept v_waysOf v_sought v_starterRow v_wantedRow v_order) := by
  unfold f_X9_next at h
  refine rd_enterV (cc := cX9_next) (maxL := 5) (by decide) rfl (Nat.le_of_ble_eq_true rfl) ?_
  intro p e s m args below meth c A Q ls hx hb hml hown hts hA hK hP hD hS hl hret
  have hl : lv_has ls 5 [(0, .ref a_this)] := hl
  have kw1 := hts (.fieldLink RX9 25 "RoundDaysModel" "to" "I") (List.mem_of_getElem? (i := 1) rfl)
  have kw2 := hts (.fieldLink RX9 22 "RoundDaysModel" "size" "I") (List.mem_of_getElem? (i := 2) rfl)
  have kw3 := hts (.fieldLink RX9 11 "RoundDaysModel" "tape" "[I") (List.mem_of_getElem? (i := 3) rfl)
  have kw4 := hts (.fieldLink RX9 28 "RoundDaysModel" "from" "I") (List.mem_of_getElem? (i := 4) rfl)
  have kw5 := hts (.fieldLink RX9 31 "RoundDaysModel" "kind" "I") (List.mem_of_getElem? (i := 5) rfl)
  have kw6 := hts (.fieldLink RX9 41 "RoundDaysModel" "word" "J") (List.mem_of_getElem? (i := 6) rfl)
  have kw7 := hts (.fieldLink RX9 45 "RoundDaysModel" "number" "I") (List.mem_of_getElem? (i := 7) rfl)
  have kw8 := hts (.constantLong RX9 52 (27)) (List.mem_of_getElem? (i := 8) rfl)
  have kw9 := hts (.constantLong RX9 54 (96)) (List.mem_of_getElem? (i := 9) rfl)
  have w39 : ∀ v_from : Int32, ∀ v_kind : Int32, ∀ v_number : Int32, ∀ v_word : Int64, ∀ k0 : Int32 → Option (Int32 × Int32 × Int32 × Int32 × Int64), (∀ (v_to : Int32), k0 v_to = some (nv_to, nv_from, nv_kind, nv_number, nv_word) → ∀ (H : Heap) (locs : List Loc) (ls : Array Slot), va_P D vwCl (wd_X9 cI cZ cP a_this a_tape a_now a_read a_kept a_snaps a_before a_live a_other a_isKept a_waysOf a_sought a_starterRow a_wantedRow a_order v_thrown v_taped v_size v_to v_from v_kind v_number v_fault v_place v_word v_snapMany v_starterMany v_perfectMany v_wanted v_seed v_tape v_now v_read v_kept v_snaps v_before v_live v_other v_isKept v_waysOf v_sought v_starterRow v_wantedRow v_order) H → va_D A (wd_X9 cI cZ cP a_this a_tape a_now a_read a_kept a_snaps a_before a_live a_other a_isKept a_waysOf a_sought a_starterRow a_wantedRow a_order v_thrown v_taped v_size v_to v_from v_kind v_number v_fault v_place v_word v_snapMany v_starterMany v_perfectMany v_wanted v_seed v_tape v_now v_read v_kept v_snaps v_before v_live v_other v_isKept v_waysOf v_sought v_starterRow v_wantedRow v_order) → va_S A s.heap H locs → lv_has ls 5 [(0, .ref a_this)] → W p l e { frames := 1, cells := 0, slots := 0, locals := 21 } s m args below meth c H locs 0 0 Q (F0 m 0 ls [])) → ∀ (v_to : Int32), f_X9_next_J39 k0 v_size v_tape v_from v_kind v_number v_word v_to = some (nv_to, nv_from, nv_kind, nv_number, nv_word) → ∀ (H : Heap) (locs : List Loc) (ls : Array Slot), va_P D vwCl (wd_X9 cI cZ cP a_this a_tape a_now a_read a_kept a_snaps a_before a_live a_other a_isKept a_waysOf a_sought a_starterRow a_wantedRow a_order v_thrown v_taped v_size v_to v_from v_kind v_number v_fault v_place v_word v_snapMany v_starterMany v_perfectMany v_wanted v_seed v_tape v_now v_read v_kept v_snaps v_before v_live v_other v_isKept v_waysOf v_sought v_starterRow v_wantedRow v_order) H → va_D A (wd_X9 cI cZ cP a_this a_tape a_now a_read a_kept a_snaps a_before a_live a_other a_isKept a_waysOf a_sought a_starterRow a_wantedRow a_order v_thrown v_taped v_size v_to v_from v_kind v_number v_fault v_place v_word v_snapMany v_starterMany v_perfectMany v_wanted v_seed v_tape v_now v_read v_kept v_snaps v_before v_live v_other v_isKept v_waysOf v_sought v_starterRow v_wantedRow v_order) → va_S A s.heap H locs → lv_has ls 5 [(0, .ref a_this)] → W p l e { frames := 1, cells := 0, slots := 0, locals := 21 } s m args below meth c H locs 0 0 Q (F0 m 39 ls []) := by
    intro v_from v_kind v_number v_word k0 hk0 v_to h H locs ls hP hD hS hl
    replace h : (bd (v_to + (1 : Int32)) (fun v_to_1 => k0 v_to_1)) = some (nv_to, nv_from, nv_kind, nv_number, nv_word) := h
    refine lv_aload_n hx hb dX9_next_39 rfl (lv_at hl 0 rfl) ?_
    refine lv_dup hx hb dX9_next_40 rfl ?_
    refine va_get (D := D) (ci := 9) (v := .int v_to) (C := RX9) (T := TX9) (N := 29) hx hb hts in_X9_next_X9 hown hK hP 0 rfl rfl 4 (by decide) kw1 (fun _ h9 => h9) rfl dX9_next_41 ?_
    refine lv_iconst (v := 1) hx hb dX9_next_44 (by decide) ?_
    refine lv_iadd hx hb dX9_next_45 ?_
    obtain ⟨v_to_1, ev_to_1, h⟩ := bd_some h
    refine rd_top ev_to_1 ?_
    refine rd_put (W1 := wd_X9 cI cZ cP a_this a_tape a_now a_read a_kept a_snaps a_before a_live a_other a_isKept a_waysOf a_sought a_starterRow a_wantedRow a_order v_thrown v_taped v_size v_to_1 v_from v_kind v_number v_fault v_place v_word v_snapMany v_starterMany v_perfectMany v_wanted v_seed v_tape v_now v_read v_kept v_snaps v_before v_live v_other v_isKept v_waysOf v_sought v_starterRow v_wantedRow v_order) (C := RX9) (T := TX9) (N := 29) (ci := 9) hx hb hts in_X9_next_X9 tyX9 tyX9_ok nmX9 hown hK hP hD hS 0 rfl rfl 4 (by decide) kw1 (fun _ h9 => h9) rfl rfl rfl (Nat.le_of_ble_eq_true rfl) rfl dX9_next_46 (fun H locs hP hD hS => ?_)
    refine lv_goto (tgt := 0) hx hb dX9_next_49 (by decide) ?_
    exact hk0 v_to_1 h _ _ _ hP hD hS (lv_sub hl [0] rfl)
  have w146 : ∀ (s1 : Int32) (v_to : Int32) (v_from : Int32) (v_kind : Int32) (v_number : Int32) (v_word : Int64), f_X9_next_J146 v_size v_tape (s1, v_to, v_from, v_kind, v_number, v_word) = some (nv_to, nv_from, nv_kind, nv_number, nv_word) → ∀ (H : Heap) (locs : List Loc) (ls : Array Slot), va_P D vwCl (wd_X9 cI cZ cP a_this a_tape a_now a_read a_kept a_snaps a_before a_live a_other a_isKept a_waysOf a_sought a_starterRow a_wantedRow a_order v_thrown v_taped v_size v_to v_from v_kind v_number v_fault v_place v_word v_snapMany v_starterMany v_perfectMany v_wanted v_seed v_tape v_now v_read v_kept v_snaps v_before v_live v_other v_isKept v_waysOf v_sought v_starterRow v_wantedRow v_order) H → va_D A (wd_X9 cI cZ cP a_this a_tape a_now a_read a_kept a_snaps a_before a_live a_other a_isKept a_waysOf a_sought a_starterRow a_wantedRow a_order v_thrown v_taped v_size v_to v_from v_kind v_number v_fault v_place v_word v_snapMany v_starterMany v_perfectMany v_wanted v_seed v_tape v_now v_read v_kept v_snaps v_before v_live v_other v_isKept v_waysOf v_sought v_starterRow v_wantedRow v_order) → va_S A s.heap H locs → lv_has ls 5 [(0, .ref a_this)] → W p l e { frames := 1, cells := 0, slots := 0, locals := 21 } s m args below meth c H locs 0 0 Q (F0 m 146 ls [.int s1, .ref a_this]) := by
    intro  s1 v_to v_from v_kind v_number v_word h H locs ls hP hD hS hl
    replace h : (bd (v_to + (1 : Int32)) (fun v_to_2 => some (v_to_2, v_from, s1, v_number, v_word))) = some (nv_to, nv_from, nv_kind, nv_number, nv_word) := h
    refine rd_put (W1 := wd_X9 cI cZ cP a_this a_tape a_now a_read a_kept a_snaps a_before a_live a_other a_isKept a_waysOf a_sought a_starterRow a_wantedRow a_order v_thrown v_taped v_size v_to v_from s1 v_number v_fault v_place v_word v_snapMany v_starterMany v_perfectMany v_wanted v_seed v_tape v_now v_read v_kept v_snaps v_before v_live v_other v_isKept v_waysOf v_sought v_starterRow v_wantedRow v_order) (C := RX9) (T := TX9) (N := 29) (ci := 9) hx hb hts in_X9_next_X9 tyX9 tyX9_ok nmX9 hown hK hP hD hS 0 rfl rfl 6 (by decide) kw5 (fun _ h9 => h9) rfl rfl rfl (Nat.le_of_ble_eq_true rfl) rfl dX9_next_146 (fun H locs hP hD hS => ?_)
    refine lv_aload_n hx hb dX9_next_149 rfl (lv_at hl 0 rfl) ?_
    refine lv_dup hx hb dX9_next_150 rfl ?_
    refine va_get (D := D) (ci := 9) (v := .int v_to) (C := RX9) (T := TX9) (N := 29) hx hb hts in_X9_next_X9 hown hK hP 0 rfl rfl 4 (by decide) kw1 (fun _ h9 => h9) rfl dX9_next_151 ?_
    refine lv_iconst (v := 1) hx hb dX9_next_154 (by decide) ?_
    refine lv_iadd hx hb dX9_next_155 ?_
    obtain ⟨v_to_2, ev_to_2, h⟩ := bd_some h
    refine rd_top ev_to_2 ?_
    refine rd_put (W1 := wd_X9 cI cZ cP a_this a_tape a_now a_read a_kept a_snaps a_before a_live a_other a_isKept a_waysOf a_sought a_starterRow a_wantedRow a_order v_thrown v_taped v_size v_to_2 v_from s1 v_number v_fault v_place v_word v_snapMany v_starterMany v_perfectMany v_wanted v_seed v_tape v_now v_read v_kept v_snaps v_before v_live v_other v_isKept v_waysOf v_sought v_starterRow v_wantedRow v_order) (C := RX9) (T := TX9) (N := 29) (ci := 9) hx hb hts in_X9_next_X9 tyX9 tyX9_ok nmX9 hown hK hP hD hS 0 rfl rfl 4 (by decide) kw1 (fun _ h9 => h9) rfl rfl rfl (Nat.le_of_ble_eq_true rfl) rfl dX9_next_156 (fun H locs hP hD hS => ?_)
    obtain ⟨rfl, rfl, rfl, rfl, rfl⟩ := inj5 h
    exact hret dX9_next_159 hP hD hS
  have w233 : ∀ x2 : Int32, ∀ v_from : Int32, ∀ v_kind : Int32, ∀ k234 : Int32 × Int32 × Int32 × Int32 × Int64 → Option (Int32 × Int32 × Int32 × Int32 × Int64), (∀ (x4 : Int32) (s0 : Int32) (v_to : Int32) (v_number : Int32) (v_word : Int64), k234 (x4, s0, v_to, v_number, v_word) = some (nv_to, nv_from, nv_kind, nv_number, nv_word) → ∀ (H : Heap) (locs : List Loc) (ls : Array Slot), va_P D vwCl (wd_X9 cI cZ cP a_this a_tape a_now a_read a_kept a_snaps a_before a_live a_other a_isKept a_waysOf a_sought a_starterRow a_wantedRow a_order v_thrown v_taped v_size v_to v_from v_kind v_number v_fault v_place v_word v_snapMany v_starterMany v_perfectMany v_wanted v_seed v_tape v_now v_read v_kept v_snaps v_before v_live v_other v_isKept v_waysOf v_sought v_starterRow v_wantedRow v_order) H → va_D A (wd_X9 cI cZ cP a_this a_tape a_now a_read a_kept a_snaps a_before a_live a_other a_isKept a_waysOf a_sought a_starterRow a_wantedRow a_order v_thrown v_taped v_size v_to v_from v_kind v_number v_fault v_place v_word v_snapMany v_starterMany v_perfectMany v_wanted v_seed v_tape v_now v_read v_kept v_snaps v_before v_live v_other v_isKept v_waysOf v_sought v_starterRow v_wantedRow v_order) → va_S A s.heap H locs → lv_has ls 5 [(0, .ref a_this), (2, .int x2), (4, .int x4)] → W p l e { frames := 1, cells := 0, slots := 0, locals := 21 } s m args below meth c H locs 0 0 Q (F0 m 234 ls [.int s0])) → ∀ (x4 : Int32) (v_to : Int32) (v_number : Int32) (v_word : Int64), f_X9_next_J233 k234 v_size v_tape x2 v_from v_kind (x4, v_to, v_number, v_word) = some (nv_to, nv_from, nv_kind, nv_number, nv_word) → ∀ (H : Heap) (locs : List Loc) (ls : Array Slot), va_P D vwCl (wd_X9 cI cZ cP a_this a_tape a_now a_read a_kept a_snaps a_before a_live a_other a_isKept a_waysOf a_sought a_starterRow a_wantedRow a_order v_thrown v_taped v_size v_to v_from v_kind v_number v_fault v_place v_word v_snapMany v_starterMany v_perfectMany v_wanted v_seed v_tape v_now v_read v_kept v_snaps v_before v_live v_other v_isKept v_waysOf v_sought v_starterRow v_wantedRow v_order) H → va_D A (wd_X9 cI cZ cP a_this a_tape a_now a_read a_kept a_snaps a_before a_live a_other a_isKept a_waysOf a_sought a_starterRow a_wantedRow a_order v_thrown v_taped v_size v_to v_from v_kind v_number v_fault v_place v_word v_snapMany v_starterMany v_perfectMany v_wanted v_seed v_tape v_now v_read v_kept v_snaps v_before v_live v_other v_isKept v_waysOf v_sought v_starterRow v_wantedRow v_order) → va_S A s.heap H locs → lv_has ls 5 [(0, .ref a_this), (2, .int x2), (4, .int x4)] → W p l e { frames := 1, cells := 0, slots := 0, locals := 21 } s m args below meth c H locs 0 0 Q (F0 m 233 ls []) := by
    intro x2 v_from v_kind k234 hk234 x4 v_to v_number v_word h H locs ls hP hD hS hl
    replace h : (k234 (x4, (0 : Int32), v_to, v_number, v_word)) = some (nv_to, nv_from, nv_kind, nv_number, nv_word) := h
    refine lv_iconst (v := 0) hx hb dX9_next_233 (by decide) ?_
    exact hk234 x4 (0 : Int32) v_to v_number v_word h _ _ _ hP hD hS (lv_sub hl [0, 1, 2] rfl)
  have w299 : ∀ x2 : Int32, ∀ v_from : Int32, ∀ v_kind : Int32, ∀ k177 : Int32 × Int32 × Int32 × Int64 → Option (Int32 × Int32 × Int32 × Int32 × Int64), (∀ (x3 : Int32) (v_to : Int32) (v_number : Int32) (v_word : Int64), k177 (x3, v_to, v_number, v_word) = some (nv_to, nv_from, nv_kind, nv_number, nv_word) → ∀ (H : Heap) (locs : List Loc) (ls : Array Slot), va_P D vwCl (wd_X9 cI cZ cP a_this a_tape a_now a_read a_kept a_snaps a_before a_live a_other a_isKept a_waysOf a_sought a_starterRow a_wantedRow a_order v_thrown v_taped v_size v_to v_from v_kind v_number v_fault v_place v_word v_snapMany v_starterMany v_perfectMany v_wanted v_seed v_tape v_now v_read v_kept v_snaps v_before v_live v_other v_isKept v_waysOf v_sought v_starterRow v_wantedRow v_order) H → va_D A (wd_X9 cI cZ cP a_this a_tape a_now a_read a_kept a_snaps a_before a_live a_other a_isKept a_waysOf a_sought a_starterRow a_wantedRow a_order v_thrown v_taped v_size v_to v_from v_kind v_number v_fault v_place v_word v_snapMany v_starterMany v_perfectMany v_wanted v_seed v_tape v_now v_read v_kept v_snaps v_before v_live v_other v_isKept v_waysOf v_sought v_starterRow v_wantedRow v_order) → va_S A s.heap H locs → lv_has ls 5 [(0, .ref a_this), (2, .int x2), (3, .int x3)] → W p l e { frames := 1, cells := 0, slots := 0, locals := 21 } s m args below meth c H locs 0 0 Q (F0 m 177 ls [])) → ∀ (x3 : Int32) (v_to : Int32) (v_number : Int32) (v_word : Int64), f_X9_next_J299 k177 v_size v_tape x2 v_from v_kind (x3, v_to, v_number, v_word) = some (nv_to, nv_from, nv_kind, nv_number, nv_word) → ∀ (H : Heap) (locs : List Loc) (ls : Array Slot), va_P D vwCl (wd_X9 cI cZ cP a_this a_tape a_now a_read a_kept a_snaps a_before a_live a_other a_isKept a_waysOf a_sought a_starterRow a_wantedRow a_order v_thrown v_taped v_size v_to v_from v_kind v_number v_fault v_place v_word v_snapMany v_starterMany v_perfectMany v_wanted v_seed v_tape v_now v_read v_kept v_snaps v_before v_live v_other v_isKept v_waysOf v_sought v_starterRow v_wantedRow v_order) H → va_D A (wd_X9 cI cZ cP a_this a_tape a_now a_read a_kept a_snaps a_before a_live a_other a_isKept a_waysOf a_sought a_starterRow a_wantedRow a_order v_thrown v_taped v_size v_to v_from v_kind v_number v_fault v_place v_word v_snapMany v_starterMany v_perfectMany v_wanted v_seed v_tape v_now v_read v_kept v_snaps v_before v_live v_other v_isKept v_waysOf v_sought v_starterRow v_wantedRow v_order) → va_S A s.heap H locs → lv_has ls 5 [(0, .ref a_this), (2, .int x2), (3, .int x3)] → W p l e { frames := 1, cells := 0, slots := 0, locals := 21 } s m args below meth c H locs 0 0 Q (F0 m 299 ls []) := by
    intro x2 v_from v_kind k177 hk177 x3 v_to v_number v_word h H locs ls hP hD hS hl
    replace h : (bd (v_to + (1 : Int32)) (fun v_to_3 => k177 (x3, v_to_3, v_number, v_word))) = some (nv_to, nv_from, nv_kind, nv_number, nv_word) := h
    refine lv_aload_n hx hb dX9_next_299 rfl (lv_at hl 0 rfl) ?_
    refine lv_dup hx hb dX9_next_300 rfl ?_
    refine va_get (D := D) (ci := 9) (v := .int v_to) (C := RX9) (T := TX9) (N := 29) hx hb hts in_X9_next_X9 hown hK hP 0 rfl rfl 4 (by decide) kw1 (fun _ h9 => h9) rfl dX9_next_301 ?_
    refine lv_iconst (v := 1) hx hb dX9_next_304 (by decide) ?_
    refine lv_iadd hx hb dX9_next_305 ?_
    obtain ⟨v_to_3, ev_to_3, h⟩ := bd_some h
    refine rd_top ev_to_3 ?_
    refine rd_put (W1 := wd_X9 cI cZ cP a_this a_tape a_now a_read a_kept a_snaps a_before a_live a_other a_isKept a_waysOf a_sought a_starterRow a_wantedRow a_order v_thrown v_taped v_size v_to_3 v_from v_kind v_number v_fault v_place v_word v_snapMany v_starterMany v_perfectMany v_wanted v_seed v_tape v_now v_read v_kept v_snaps v_before v_live v_other v_isKept v_waysOf v_sought v_starterRow v_wantedRow v_order) (C := RX9) (T := TX9) (N := 29) (ci := 9) hx hb hts in_X9_next_X9 tyX9 tyX9_ok nmX9 hown hK hP hD hS 0 rfl rfl 4 (by decide) kw1 (fun _ h9 => h9) rfl rfl rfl (Nat.le_of_ble_eq_true rfl) rfl dX9_next_306 (fun H locs hP hD hS => ?_)
    refine lv_goto (tgt := 177) hx hb dX9_next_309 (by decide) ?_
    exact hk177 x3 v_to_3 v_number v_word h _ _ _ hP hD hS (lv_sub hl [0, 1, 2] rfl)
  have w269 : ∀ x2 : Int32, ∀ v_from : Int32, ∀ v_kind : Int32, ∀ k177 : Int32 × Int32 × Int32 × Int64 → Option (Int32 × Int32 × Int32 × Int32 × Int64), (∀ (x3 : Int32) (v_to : Int32) (v_number : Int32) (v_word : Int64), k177 (x3, v_to, v_number, v_word) = some (nv_to, nv_from, nv_kind, nv_number, nv_word) → ∀ (H : Heap) (locs : List Loc) (ls : Array Slot), va_P D vwCl (wd_X9 cI cZ cP a_this a_tape a_now a_read a_kept a_snaps a_before a_live a_other a_isKept a_waysOf a_sought a_starterRow a_wantedRow a_order v_thrown v_taped v_size v_to v_from v_kind v_number v_fault v_place v_word v_snapMany v_starterMany v_perfectMany v_wanted v_seed v_tape v_now v_read v_kept v_snaps v_before v_live v_other v_isKept v_waysOf v_sought v_starterRow v_wantedRow v_order) H → va_D A (wd_X9 cI cZ cP a_this a_tape a_now a_read a_kept a_snaps a_before a_live a_other a_isKept a_waysOf a_sought a_starterRow a_wantedRow a_order v_thrown v_taped v_size v_to v_from v_kind v_number v_fault v_place v_word v_snapMany v_starterMany v_perfectMany v_wanted v_seed v_tape v_now v_read v_kept v_snaps v_before v_live v_other v_isKept v_waysOf v_sought v_starterRow v_wantedRow v_order) → va_S A s.heap H locs → lv_has ls 5 [(0, .ref a_this), (2, .int x2), (3, .int x3)] → W p l e { frames := 1, cells := 0, slots := 0, locals := 21 } s m args below meth c H locs 0 0 Q (F0 m 177 ls [])) → ∀ (x3 : Int32) (x4 : Int32) (v_to : Int32) (v_number : Int32) (v_word : Int64), f_X9_next_J269 k177 v_size v_tape x2 v_from v_kind (x3, x4, v_to, v_number, v_word) = some (nv_to, nv_from, nv_kind, nv_number, nv_word) → ∀ (H : Heap) (locs : List Loc) (ls : Array Slot), va_P D vwCl (wd_X9 cI cZ cP a_this a_tape a_now a_read a_kept a_snaps a_before a_live a_other a_isKept a_waysOf a_sought a_starterRow a_wantedRow a_order v_thrown v_taped v_size v_to v_from v_kind v_number v_fault v_place v_word v_snapMany v_starterMany v_perfectMany v_wanted v_seed v_tape v_now v_read v_kept v_snaps v_before v_live v_other v_isKept v_waysOf v_sought v_starterRow v_wantedRow v_order) H → va_D A (wd_X9 cI cZ cP a_this a_tape a_now a_read a_kept a_snaps a_before a_live a_other a_isKept a_waysOf a_sought a_starterRow a_wantedRow a_order v_thrown v_taped v_size v_to v_from v_kind v_number v_fault v_place v_word v_snapMany v_starterMany v_perfectMany v_wanted v_seed v_tape v_now v_read v_kept v_snaps v_before v_live v_other v_isKept v_waysOf v_sought v_starterRow v_wantedRow v_order) → va_S A s.heap H locs → lv_has ls 5 [(0, .ref a_this), (2, .int x2), (3, .int x3), (4, .int x4)] → W p l e { frames := 1, cells := 0, slots := 0, locals := 21 } s m args below meth c H locs 0 0 Q (F0 m 269 ls []) := by
    intro x2 v_from v_kind k177 hk177 x3 x4 v_to v_number v_word h H locs ls hP hD hS hl
    replace h : (if (2 : Int32) ≤ (v_to - v_from) then f_X9_next_J299 k177 v_size v_tape x2 v_from v_kind (x3, v_to, v_number, v_word) else bd ((((10 : Int32) * v_number) + x4) - (48 : Int32)) (fun v_number_5 => f_X9_next_J299 k177 v_size v_tape x2 v_from v_kind (x3, v_to, v_number_5, v_word))) = some (nv_to, nv_from, nv_kind, nv_number, nv_word) := h
    refine lv_aload_n hx hb dX9_next_269 rfl (lv_at hl 0 rfl) ?_
    refine va_get (D := D) (ci := 9) (v := .int v_to) (C := RX9) (T := TX9) (N := 29) hx hb hts in_X9_next_X9 hown hK hP 0 rfl rfl 4 (by decide) kw1 (fun _ h9 => h9) rfl dX9_next_270 ?_
    refine lv_aload_n hx hb dX9_next_273 rfl (lv_at hl 0 rfl) ?_
    refine va_get (D := D) (ci := 9) (v := .int v_from) (C := RX9) (T := TX9) (N := 29) hx hb hts in_X9_next_X9 hown hK hP 0 rfl rfl 5 (by decide) kw4 (fun _ h9 => h9) rfl dX9_next_274 ?_
    refine lv_isub hx hb dX9_next_277 ?_
    refine lv_iconst (v := 2) hx hb dX9_next_278 (by decide) ?_
    refine lv_icmp_ge (tgt := 299) hx hb dX9_next_279 (by decide) (fun c_4 => ?_) (fun c_4 => ?_)
    · replace h := it_pos h c_4
      exact w299 x2 v_from v_kind _ hk177 x3 v_to v_number v_word h _ _ _ hP hD hS (lv_sub hl [0, 1, 2] rfl)
    · replace h := it_neg h c_4
      refine lv_aload_n hx hb dX9_next_282 rfl (lv_at hl 0 rfl) ?_
      refine lv_bipush (v := 10) hx hb dX9_next_283 (by decide) ?_
      refine lv_aload_n hx hb dX9_next_285 rfl (lv_at hl 0 rfl) ?_
      refine va_get (D := D) (ci := 9) (v := .int v_number) (C := RX9) (T := TX9) (N := 29) hx hb hts in_X9_next_X9 hown hK hP 0 rfl rfl 7 (by decide) kw7 (fun _ h9 => h9) rfl dX9_next_286 ?_
      refine lv_imul hx hb dX9_next_289 ?_
      refine lv_iload hx hb dX9_next_290 (lv_at hl 3 rfl) ?_
      refine lv_iadd hx hb dX9_next_292 ?_
      refine lv_bipush (v := 48) hx hb dX9_next_293 (by decide) ?_
      refine lv_isub hx hb dX9_next_295 ?_
      obtain ⟨v_number_5, ev_number_5, h⟩ := bd_some h
      refine rd_top ev_number_5 ?_
      refine rd_put (W1 := wd_X9 cI cZ cP a_this a_tape a_now a_read a_kept a_snaps a_before a_live a_other a_isKept a_waysOf a_sought a_starterRow a_wantedRow a_order v_thrown v_taped v_size v_to v_from v_kind v_number_5 v_fault v_place v_word v_snapMany v_starterMany v_perfectMany v_wanted v_seed v_tape v_now v_read v_kept v_snaps v_before v_live v_other v_isKept v_waysOf v_sought v_starterRow v_wantedRow v_order) (C := RX9) (T := TX9) (N := 29) (ci := 9) hx hb hts in_X9_next_X9 tyX9 tyX9_ok nmX9 hown hK hP hD hS 0 rfl rfl 7 (by decide) kw7 (fun _ h9 => h9) rfl rfl rfl (Nat.le_of_ble_eq_true rfl) rfl dX9_next_296 (fun H locs hP hD hS => ?_)
      exact w299 x2 v_from v_kind _ hk177 x3 v_to v_number_5 v_word h _ _ _ hP hD hS (lv_sub hl [0, 1, 2] rfl)
  have w234 : ∀ x2 : Int32, ∀ v_from : Int32, ∀ v_kind : Int32, ∀ k177 : Int32 × Int32 × Int32 × Int64 → Option (Int32 × Int32 × Int32 × Int32 × Int64), (∀ (x3 : Int32) (v_to : Int32) (v_number : Int32) (v_word : Int64), k177 (x3, v_to, v_number, v_word) = some (nv_to, nv_from, nv_kind, nv_number, nv_word) → ∀ (H : Heap) (locs : List Loc) (ls : Array Slot), va_P D vwCl (wd_X9 cI cZ cP a_this a_tape a_now a_read a_kept a_snaps a_before a_live a_other a_isKept a_waysOf a_sought a_starterRow a_wantedRow a_order v_thrown v_taped v_size v_to v_from v_kind v_number v_fault v_place v_word v_snapMany v_starterMany v_perfectMany v_wanted v_seed v_tape v_now v_read v_kept v_snaps v_before v_live v_other v_isKept v_waysOf v_sought v_starterRow v_wantedRow v_order) H → va_D A (wd_X9 cI cZ cP a_this a_tape a_now a_read a_kept a_snaps a_before a_live a_other a_isKept a_waysOf a_sought a_starterRow a_wantedRow a_order v_thrown v_taped v_size v_to v_from v_kind v_number v_fault v_place v_word v_snapMany v_starterMany v_perfectMany v_wanted v_seed v_tape v_now v_read v_kept v_snaps v_before v_live v_other v_isKept v_waysOf v_sought v_starterRow v_wantedRow v_order) → va_S A s.heap H locs → lv_has ls 5 [(0, .ref a_this), (2, .int x2), (3, .int x3)] → W p l e { frames := 1, cells := 0, slots := 0, locals := 21 } s m args below meth c H locs 0 0 Q (F0 m 177 ls [])) → ∀ (x4 : Int32) (s0 : Int32) (v_to : Int32) (v_number : Int32) (v_word : Int64), f_X9_next_J234 k177 v_size v_tape x2 v_from v_kind (x4, s0, v_to, v_number, v_word) = some (nv_to, nv_from, nv_kind, nv_number, nv_word) → ∀ (H : Heap) (locs : List Loc) (ls : Array Slot), va_P D vwCl (wd_X9 cI cZ cP a_this a_tape a_now a_read a_kept a_snaps a_before a_live a_other a_isKept a_waysOf a_sought a_starterRow a_wantedRow a_order v_thrown v_taped v_size v_to v_from v_kind v_number v_fault v_place v_word v_snapMany v_starterMany v_perfectMany v_wanted v_seed v_tape v_now v_read v_kept v_snaps v_before v_live v_other v_isKept v_waysOf v_sought v_starterRow v_wantedRow v_order) H → va_D A (wd_X9 cI cZ cP a_this a_tape a_now a_read a_kept a_snaps a_before a_live a_other a_isKept a_waysOf a_sought a_starterRow a_wantedRow a_order v_thrown v_taped v_size v_to v_from v_kind v_number v_fault v_place v_word v_snapMany v_starterMany v_perfectMany v_wanted v_seed v_tape v_now v_read v_kept v_snaps v_before v_live v_other v_isKept v_waysOf v_sought v_starterRow v_wantedRow v_order) → va_S A s.heap H locs → lv_has ls 5 [(0, .ref a_this), (2, .int x2), (4, .int x4)] → W p l e { frames := 1, cells := 0, slots := 0, locals := 21 } s m args below meth c H locs 0 0 Q (F0 m 234 ls [.int s0]) := by
    intro x2 v_from v_kind k177 hk177 x4 s0 v_to v_number v_word h H locs ls hP hD hS hl
    replace h : (if (6 : Int32) ≤ (v_to - v_from) then f_X9_next_J269 k177 v_size v_tape x2 v_from v_kind (s0, x4, v_to, v_number, v_word) else bd ((((27 : Int64) * v_word) + x4.toInt64) - (96 : Int64)) (fun v_word_7 => f_X9_next_J269 k177 v_size v_tape x2 v_from v_kind (s0, x4, v_to, v_number, v_word_7))) = some (nv_to, nv_from, nv_kind, nv_number, nv_word) := h
    refine lv_istore_n (lv' := [(3, .int s0), (0, .ref a_this), (2, .int x2), (4, .int x4)]) hx hb dX9_next_234 rfl hl (by decide) rfl (fun ls hl => ?_)
    refine lv_aload_n hx hb dX9_next_235 rfl (lv_at hl 1 rfl) ?_
    refine va_get (D := D) (ci := 9) (v := .int v_to) (C := RX9) (T := TX9) (N := 29) hx hb hts in_X9_next_X9 hown hK hP 0 rfl rfl 4 (by decide) kw1 (fun _ h9 => h9) rfl dX9_next_236 ?_
    refine lv_aload_n hx hb dX9_next_239 rfl (lv_at hl 1 rfl) ?_
    refine va_get (D := D) (ci := 9) (v := .int v_from) (C := RX9) (T := TX9) (N := 29) hx hb hts in_X9_next_X9 hown hK hP 0 rfl rfl 5 (by decide) kw4 (fun _ h9 => h9) rfl dX9_next_240 ?_
    refine lv_isub hx hb dX9_next_243 ?_
    refine lv_bipush (v := 6) hx hb dX9_next_244 (by decide) ?_
    refine lv_icmp_ge (tgt := 269) hx hb dX9_next_246 (by decide) (fun c_6 => ?_) (fun c_6 => ?_)
    · replace h := it_pos h c_6
      exact w269 x2 v_from v_kind _ hk177 s0 x4 v_to v_number v_word h _ _ _ hP hD hS (lv_sub hl [1, 2, 0, 3] rfl)
    · replace h := it_neg h c_6
      refine lv_aload_n hx hb dX9_next_249 rfl (lv_at hl 1 rfl) ?_
      refine lv_ldc2 (v := 27) hx hb hown kw8 dX9_next_250 ?_
      refine lv_aload_n hx hb dX9_next_253 rfl (lv_at hl 1 rfl) ?_
      refine va_get (D := D) (ci := 9) (v := .long v_word) (C := RX9) (T := TX9) (N := 29) hx hb hts in_X9_next_X9 hown hK hP 0 rfl rfl 10 (by decide) kw6 (fun _ h9 => h9) rfl dX9_next_254 ?_
      refine lv_lmul hx hb dX9_next_257 ?_
      refine lv_iload hx hb dX9_next_258 (lv_at hl 3 rfl) ?_
      refine lv_i2l (v := x4.toInt64) hx hb dX9_next_260 rfl ?_
      refine lv_ladd hx hb dX9_next_261 ?_
      refine lv_ldc2 (v := 96) hx hb hown kw9 dX9_next_262 ?_
      refine lv_lsub hx hb dX9_next_265 ?_
      obtain ⟨v_word_7, ev_word_7, h⟩ := bd_some h
      refine rd_topl ev_word_7 ?_
      refine rd_put (W1 := wd_X9 cI cZ cP a_this a_tape a_now a_read a_kept a_snaps a_before a_live a_other a_isKept a_waysOf a_sought a_starterRow a_wantedRow a_order v_thrown v_taped v_size v_to v_from v_kind v_number v_fault v_place v_word_7 v_snapMany v_starterMany v_perfectMany v_wanted v_seed v_tape v_now v_read v_kept v_snaps v_before v_live v_other v_isKept v_waysOf v_sought v_starterRow v_wantedRow v_order) (C := RX9) (T := TX9) (N := 29) (ci := 9) hx hb hts in_X9_next_X9 tyX9 tyX9_ok nmX9 hown hK hP hD hS 0 rfl rfl 10 (by decide) kw6 (fun _ h9 => h9) rfl rfl rfl (Nat.le_of_ble_eq_true rfl) rfl dX9_next_266 (fun H locs hP hD hS => ?_)
      exact w269 x2 v_from v_kind _ hk177 s0 x4 v_to v_number v_word_7 h _ _ _ hP hD hS (lv_sub hl [1, 2, 0, 3] rfl)
  have w205 : ∀ x2 : Int32, ∀ v_from : Int32, ∀ v_kind : Int32, ∀ k177 : Int32 × Int32 × Int32 × Int64 → Option (Int32 × Int32 × Int32 × Int32 × Int64), (∀ (x3 : Int32) (v_to : Int32) (v_number : Int32) (v_word : Int64), k177 (x3, v_to, v_number, v_word) = some (nv_to, nv_from, nv_kind, nv_number, nv_word) → ∀ (H : Heap) (locs : List Loc) (ls : Array Slot), va_P D vwCl (wd_X9 cI cZ cP a_this a_tape a_now a_read a_kept a_snaps a_before a_live a_other a_isKept a_waysOf a_sought a_starterRow a_wantedRow a_order v_thrown v_taped v_size v_to v_from v_kind v_number v_fault v_place v_word v_snapMany v_starterMany v_perfectMany v_wanted v_seed v_tape v_now v_read v_kept v_snaps v_before v_live v_other v_isKept v_waysOf v_sought v_starterRow v_wantedRow v_order) H → va_D A (wd_X9 cI cZ cP a_this a_tape a_now a_read a_kept a_snaps a_before a_live a_other a_isKept a_waysOf a_sought a_starterRow a_wantedRow a_order v_thrown v_taped v_size v_to v_from v_kind v_number v_fault v_place v_word v_snapMany v_starterMany v_perfectMany v_wanted v_seed v_tape v_now v_read v_kept v_snaps v_before v_live v_other v_isKept v_waysOf v_sought v_starterRow v_wantedRow v_order) → va_S A s.heap H locs → lv_has ls 5 [(0, .ref a_this), (2, .int x2), (3, .int x3)] → W p l e { frames := 1, cells := 0, slots := 0, locals := 21 } s m args below meth c H locs 0 0 Q (F0 m 177 ls [])) → ∀ (x3 : Int32) (v_to : Int32) (v_number : Int32) (v_word : Int64), f_X9_next_J205 k177 v_size v_tape x2 v_from v_kind (x3, v_to, v_number, v_word) = some (nv_to, nv_from, nv_kind, nv_number, nv_word) → ∀ (H : Heap) (locs : List Loc) (ls : Array Slot), va_P D vwCl (wd_X9 cI cZ cP a_this a_tape a_now a_read a_kept a_snaps a_before a_live a_other a_isKept a_waysOf a_sought a_starterRow a_wantedRow a_order v_thrown v_taped v_size v_to v_from v_kind v_number v_fault v_place v_word v_snapMany v_starterMany v_perfectMany v_wanted v_seed v_tape v_now v_read v_kept v_snaps v_before v_live v_other v_isKept v_waysOf v_sought v_starterRow v_wantedRow v_order) H → va_D A (wd_X9 cI cZ cP a_this a_tape a_now a_read a_kept a_snaps a_before a_live a_other a_isKept a_waysOf a_sought a_starterRow a_wantedRow a_order v_thrown v_taped v_size v_to v_from v_kind v_number v_fault v_place v_word v_snapMany v_starterMany v_perfectMany v_wanted v_seed v_tape v_now v_read v_kept v_snaps v_before v_live v_other v_isKept v_waysOf v_sought v_starterRow v_wantedRow v_order) → va_S A s.heap H locs → lv_has ls 5 [(0, .ref a_this), (2, .int x2), (3, .int x3)] → W p l e { frames := 1, cells := 0, slots := 0, locals := 21 } s m args below meth c H locs 0 0 Q (F0 m 205 ls []) := by
    intro x2 v_from v_kind k177 hk177 x3 v_to v_number v_word h H locs ls hP hD hS hl
    replace h : (if inb v_to 740 then bd (v_tape v_to.toNatClampNeg) (fun x4_9 => if x3 = 0 then f_X9_next_J233 (f_X9_next_J234 k177 v_size v_tape x2 v_from v_kind) v_size v_tape x2 v_from v_kind (x4_9, v_to, v_number, v_word) else (f_X9_isLetter x4_9).bind (fun r_11 => if r_11 = x2 then f_X9_next_J234 k177 v_size v_tape x2 v_from v_kind (x4_9, (1 : Int32), v_to, v_number, v_word) else f_X9_next_J233 (f_X9_next_J234 k177 v_size v_tape x2 v_from v_kind) v_size v_tape x2 v_from v_kind (x4_9, v_to, v_number, v_word))) else none) = some (nv_to, nv_from, nv_kind, nv_number, nv_word) := h
    refine lv_aload_n hx hb dX9_next_205 rfl (lv_at hl 0 rfl) ?_
    refine va_get (D := D) (ci := 9) (v := .ref a_tape) (C := RX9) (T := TX9) (N := 29) hx hb hts in_X9_next_X9 hown hK hP 0 rfl rfl 1 (by decide) kw3 (fun _ h9 => h9) rfl dX9_next_206 ?_
    refine lv_aload_n hx hb dX9_next_209 rfl (lv_at hl 0 rfl) ?_
    refine va_get (D := D) (ci := 9) (v := .int v_to) (C := RX9) (T := TX9) (N := 29) hx hb hts in_X9_next_X9 hown hK hP 0 rfl rfl 4 (by decide) kw1 (fun _ h9 => h9) rfl dX9_next_210 ?_
    obtain ⟨hi_8, h⟩ := gd_some h
    refine va_iald hx hb hK hP 1 0 rfl rfl (inb_in hi_8) dX9_next_213 ?_
    obtain ⟨x4_9, ex4_9, h⟩ := bd_some h
    refine rd_top ex4_9 ?_
    refine lv_istore (lv' := [(4, .int x4_9), (0, .ref a_this), (2, .int x2), (3, .int x3)]) hx hb dX9_next_214 hl (by decide) rfl (fun ls hl => ?_)
    refine lv_iload_n hx hb dX9_next_216 rfl (lv_at hl 3 rfl) ?_
    refine lv_if_eq (tgt := 233) hx hb dX9_next_217 (by decide) (fun c_10 => ?_) (fun c_10 => ?_)
    · replace h := it_pos h c_10
      exact w233 x2 v_from v_kind _ (w234 _ _ _ _ hk177) x4_9 v_to v_number v_word h _ _ _ hP hD hS (lv_sub hl [1, 2, 0] rfl)
    · replace h := it_neg h c_10
      refine lv_iload hx hb dX9_next_220 (lv_at hl 0 rfl) ?_
      obtain ⟨r_11, hc_12, h⟩ := bi_some h
      refine rd_callSi [.int x4_9] [] (wr := [(a_this, .inr (9, [.int v_thrown, .ref a_tape, .int v_taped, .int v_size, .int v_to, .int v_from, .int v_kind, .int v_number, .int v_fault, .int v_place, .long v_word, .ref a_now, .ref a_read, .ref a_kept, .ref a_snaps, .ref a_before, .ref a_live, .ref a_other, .ref a_isKept, .int v_snapMany, .ref a_waysOf, .ref a_sought, .ref a_starterRow, .ref a_wantedRow, .int v_starterMany, .int v_perfectMany, .int v_wanted, .ref a_order, .int v_seed])), (a_tape, .inl (cI, 740, .inl v_tape)), (a_now, .inl (cI, 184, .inl v_now)), (a_read, .inl (cI, 184, .inl v_read)), (a_kept, .inl (cI, 368, .inl v_kept)), (a_snaps, .inl (cI, 1472, .inl v_snaps)), (a_before, .inl (cI, 184, .inl v_before)), (a_live, .inl (cI, 184, .inl v_live)), (a_other, .inl (cI, 184, .inl v_other)), (a_isKept, .inl (cZ, 2, .inl v_isKept)), (a_waysOf, .inl (cI, 16384, .inl v_waysOf)), (a_sought, .inl (cI, 14, .inl v_sought)), (a_starterRow, .inl (cI, 14, .inl v_starterRow)), (a_wantedRow, .inl (cI, 14, .inl v_wantedRow)), (a_order, .inl (cI, 13, .inl v_order))]) (W1 := wd_X9 cI cZ cP a_this a_tape a_now a_read a_kept a_snaps a_before a_live a_other a_isKept a_waysOf a_sought a_starterRow a_wantedRow a_order v_thrown v_taped v_size v_to v_from v_kind v_number v_fault v_place v_word v_snapMany v_starterMany v_perfectMany v_wanted v_seed v_tape v_now v_read v_kept v_snaps v_before v_live v_other v_isKept v_waysOf v_sought v_starterRow v_wantedRow v_order) ⟨hx, hb, hml, hown, hts⟩ (c_X9_isLetter l D cI cZ cP x4_9 r_11 hc_12) (va_cwS 1 hts gX9_next_X9_isLetter rfl rfl rfl (by decide +kernel) ⟨Nat.le_of_ble_eq_true rfl, Nat.le_of_ble_eq_true rfl⟩) rfl rfl hl.1 (Nat.le_of_ble_eq_true rfl) dX9_next_222 ⟨Nat.zero_le _, Nat.zero_le _⟩ hK hP hD hS hA [] [0, 1, 2, 3, 4, 5, 6, 7, 8, 9, 10, 11, 12, 13, 14] [0, 1, 2, 3, 4, 5, 6, 7, 8, 9, 10, 11, 12, 13, 14] ⟨⟨rfl, rfl, rfl⟩, by decide⟩ (fun H locs hP hD hS => ?_)
      refine lv_iload_n hx hb dX9_next_225 rfl (lv_at hl 2 rfl) ?_
      refine lv_icmp_ne (tgt := 233) hx hb dX9_next_226 (by decide) (fun c_13 => ?_) (fun c_13 => ?_)
      · replace h := it_neg h c_13
        exact w233 x2 v_from v_kind _ (w234 _ _ _ _ hk177) x4_9 v_to v_number v_word h _ _ _ hP hD hS (lv_sub hl [1, 2, 0] rfl)
      · replace h := it_pos h c_13
        refine lv_iconst (v := 1) hx hb dX9_next_229 (by decide) ?_
        refine lv_goto (tgt := 234) hx hb dX9_next_230 (by decide) ?_
        exact w234 x2 v_from v_kind _ hk177 x4_9 (1 : Int32) v_to v_number v_word h _ _ _ hP hD hS (lv_sub hl [1, 2, 0] rfl)
  have w338 : ∀ (x2 : Int32) (v_to : Int32) (v_from : Int32) (v_kind : Int32) (v_number : Int32) (v_word : Int64), f_X9_next_J338 v_size v_tape (x2, v_to, v_from, v_kind, v_number, v_word) = some (nv_to, nv_from, nv_kind, nv_number, nv_word) → ∀ (H : Heap) (locs : List Loc) (ls : Array Slot), va_P D vwCl (wd_X9 cI cZ cP a_this a_tape a_now a_read a_kept a_snaps a_before a_live a_other a_isKept a_waysOf a_sought a_starterRow a_wantedRow a_order v_thrown v_taped v_size v_to v_from v_kind v_number v_fault v_place v_word v_snapMany v_starterMany v_perfectMany v_wanted v_seed v_tape v_now v_read v_kept v_snaps v_before v_live v_other v_isKept v_waysOf v_sought v_starterRow v_wantedRow v_order) H → va_D A (wd_X9 cI cZ cP a_this a_tape a_now a_read a_kept a_snaps a_before a_live a_other a_isKept a_waysOf a_sought a_starterRow a_wantedRow a_order v_thrown v_taped v_size v_to v_from v_kind v_number v_fault v_place v_word v_snapMany v_starterMany v_perfectMany v_wanted v_seed v_tape v_now v_read v_kept v_snaps v_before v_live v_other v_isKept v_waysOf v_sought v_starterRow v_wantedRow v_order) → va_S A s.heap H locs → lv_has ls 5 [(2, .int x2)] → W p l e { frames := 1, cells := 0, slots := 0, locals := 21 } s m args below meth c H locs 0 0 Q (F0 m 338 ls [.ref a_this]) := by
    intro  x2 v_to v_from v_kind v_number v_word h H locs ls hP hD hS hl
    replace h : (if x2 = 0 then some (v_to, v_from, (3 : Int32), v_number, v_word) else some (v_to, v_from, (2 : Int32), v_number, v_word)) = some (nv_to, nv_from, nv_kind, nv_number, nv_word) := h
    refine lv_iload_n hx hb dX9_next_338 rfl (lv_at hl 0 rfl) ?_
    refine lv_if_eq (tgt := 346) hx hb dX9_next_339 (by decide) (fun c_14 => ?_) (fun c_14 => ?_)
    · replace h := it_pos h c_14
      refine lv_iconst (v := 3) hx hb dX9_next_346 (by decide) ?_
      refine rd_put (W1 := wd_X9 cI cZ cP a_this a_tape a_now a_read a_kept a_snaps a_before a_live a_other a_isKept a_waysOf a_sought a_starterRow a_wantedRow a_order v_thrown v_taped v_size v_to v_from (3 : Int32) v_number v_fault v_place v_word v_snapMany v_starterMany v_perfectMany v_wanted v_seed v_tape v_now v_read v_kept v_snaps v_before v_live v_other v_isKept v_waysOf v_sought v_starterRow v_wantedRow v_order) (C := RX9) (T := TX9) (N := 29) (ci := 9) hx hb hts in_X9_next_X9 tyX9 tyX9_ok nmX9 hown hK hP hD hS 0 rfl rfl 6 (by decide) kw5 (fun _ h9 => h9) rfl rfl rfl (Nat.le_of_ble_eq_true rfl) rfl dX9_next_347 (fun H locs hP hD hS => ?_)
      obtain ⟨rfl, rfl, rfl, rfl, rfl⟩ := inj5 h
      exact hret dX9_next_350 hP hD hS
    · replace h := it_neg h c_14
      refine lv_iconst (v := 2) hx hb dX9_next_342 (by decide) ?_
      refine lv_goto (tgt := 347) hx hb dX9_next_343 (by decide) ?_
      refine rd_put (W1 := wd_X9 cI cZ cP a_this a_tape a_now a_read a_kept a_snaps a_before a_live a_other a_isKept a_waysOf a_sought a_starterRow a_wantedRow a_order v_thrown v_taped v_size v_to v_from (2 : Int32) v_number v_fault v_place v_word v_snapMany v_starterMany v_perfectMany v_wanted v_seed v_tape v_now v_read v_kept v_snaps v_before v_live v_other v_isKept v_waysOf v_sought v_starterRow v_wantedRow v_order) (C := RX9) (T := TX9) (N := 29) (ci := 9) hx hb hts in_X9_next_X9 tyX9 tyX9_ok nmX9 hown hK hP hD hS 0 rfl rfl 6 (by decide) kw5 (fun _ h9 => h9) rfl rfl rfl (Nat.le_of_ble_eq_true rfl) rfl dX9_next_347 (fun H locs hP hD hS => ?_)
      obtain ⟨rfl, rfl, rfl, rfl, rfl⟩ := inj5 h
      exact hret dX9_next_350 hP hD hS
  have w177 : ∀ x2 : Int32, ∀ v_from : Int32, ∀ v_kind : Int32, ∀ n : Nat, ∀ (x3 : Int32) (v_to : Int32) (v_number : Int32) (v_word : Int64), lp (f_X9_next_L177 v_size v_tape x2 v_from v_kind) n (x3, v_to, v_number, v_word) = some (nv_to, nv_from, nv_kind, nv_number, nv_word) → ∀ (H : Heap) (locs : List Loc) (ls : Array Slot), va_P D vwCl (wd_X9 cI cZ cP a_this a_tape a_now a_read a_kept a_snaps a_before a_live a_other a_isKept a_waysOf a_sought a_starterRow a_wantedRow a_order v_thrown v_taped v_size v_to v_from v_kind v_number v_fault v_place v_word v_snapMany v_starterMany v_perfectMany v_wanted v_seed v_tape v_now v_read v_kept v_snaps v_before v_live v_other v_isKept v_waysOf v_sought v_starterRow v_wantedRow v_order) H → va_D A (wd_X9 cI cZ cP a_this a_tape a_now a_read a_kept a_snaps a_before a_live a_other a_isKept a_waysOf a_sought a_starterRow a_wantedRow a_order v_thrown v_taped v_size v_to v_from v_kind v_number v_fault v_place v_word v_snapMany v_starterMany v_perfectMany v_wanted v_seed v_tape v_now v_read v_kept v_snaps v_before v_live v_other v_isKept v_waysOf v_sought v_starterRow v_wantedRow v_order) → va_S A s.heap H locs → lv_has ls 5 [(0, .ref a_this), (2, .int x2), (3, .int x3)] → W p l e { frames := 1, cells := 0, slots := 0, locals := 21 } s m args below meth c H locs 0 0 Q (F0 m 177 ls []) := by
    intro x2 v_from v_kind
    refine fun n x3 v_to v_number v_word h => lp_walk (b := f_X9_next_L177 v_size v_tape x2 v_from v_kind) (r := (nv_to, nv_from, nv_kind, nv_number, nv_word)) (P := fun st => match st with | (x3, v_to, v_number, v_word) => ∀ (H : Heap) (locs : List Loc) (ls : Array Slot), va_P D vwCl (wd_X9 cI cZ cP a_this a_tape a_now a_read a_kept a_snaps a_before a_live a_other a_isKept a_waysOf a_sought a_starterRow a_wantedRow a_order v_thrown v_taped v_size v_to v_from v_kind v_number v_fault v_place v_word v_snapMany v_starterMany v_perfectMany v_wanted v_seed v_tape v_now v_read v_kept v_snaps v_before v_live v_other v_isKept v_waysOf v_sought v_starterRow v_wantedRow v_order) H → va_D A (wd_X9 cI cZ cP a_this a_tape a_now a_read a_kept a_snaps a_before a_live a_other a_isKept a_waysOf a_sought a_starterRow a_wantedRow a_order v_thrown v_taped v_size v_to v_from v_kind v_number v_fault v_place v_word v_snapMany v_starterMany v_perfectMany v_wanted v_seed v_tape v_now v_read v_kept v_snaps v_before v_live v_other v_isKept v_waysOf v_sought v_starterRow v_wantedRow v_order) → va_S A s.heap H locs → lv_has ls 5 [(0, .ref a_this), (2, .int x2), (3, .int x3)] → W p l e { frames := 1, cells := 0, slots := 0, locals := 21 } s m args below meth c H locs 0 0 Q (F0 m 177 ls [])) (fun self hself0 st h => ?_) n (x3, v_to, v_number, v_word) h
    obtain ⟨x3, v_to, v_number, v_word⟩ := st
    have hself : ∀ (x3 : Int32) (v_to : Int32) (v_number : Int32) (v_word : Int64), self (x3, v_to, v_number, v_word) = some (nv_to, nv_from, nv_kind, nv_number, nv_word) → ∀ (H : Heap) (locs : List Loc) (ls : Array Slot), va_P D vwCl (wd_X9 cI cZ cP a_this a_tape a_now a_read a_kept a_snaps a_before a_live a_other a_isKept a_waysOf a_sought a_starterRow a_wantedRow a_order v_thrown v_taped v_size v_to v_from v_kind v_number v_fault v_place v_word v_snapMany v_starterMany v_perfectMany v_wanted v_seed v_tape v_now v_read v_kept v_snaps v_before v_live v_other v_isKept v_waysOf v_sought v_starterRow v_wantedRow v_order) H → va_D A (wd_X9 cI cZ cP a_this a_tape a_now a_read a_kept a_snaps a_before a_live a_other a_isKept a_waysOf a_sought a_starterRow a_wantedRow a_order v_thrown v_taped v_size v_to v_from v_kind v_number v_fault v_place v_word v_snapMany v_starterMany v_perfectMany v_wanted v_seed v_tape v_now v_read v_kept v_snaps v_before v_live v_other v_isKept v_waysOf v_sought v_starterRow v_wantedRow v_order) → va_S A s.heap H locs → lv_has ls 5 [(0, .ref a_this), (2, .int x2), (3, .int x3)] → W p l e { frames := 1, cells := 0, slots := 0, locals := 21 } s m args below meth c H locs 0 0 Q (F0 m 177 ls []) := fun x3 v_to v_number v_word h => hself0 (x3, v_to, v_number, v_word) h
    clear hself0
    intro H locs ls hP hD hS hl
    replace h : ((f_X9_tapeAt v_size v_tape v_to).bind (fun r_15 => (f_X9_isLetter r_15).bind (fun r_17 => if r_17 = 0 then (f_X9_tapeAt v_size v_tape v_to).bind (fun r_20 => (f_X9_isDigit r_20).bind (fun r_22 => if r_22 = 0 then if x3 = 0 then some (v_to, v_from, (1 : Int32), v_number, v_word) else if x2 = 0 then if (v_to - v_from) ≤ (2 : Int32) then f_X9_next_J338 v_size v_tape (x2, v_to, v_from, v_kind, v_number, v_word) else some (v_to, v_from, (1 : Int32), v_number, v_word) else f_X9_next_J338 v_size v_tape (x2, v_to, v_from, v_kind, v_number, v_word) else f_X9_next_J205 self v_size v_tape x2 v_from v_kind (x3, v_to, v_number, v_word))) else f_X9_next_J205 self v_size v_tape x2 v_from v_kind (x3, v_to, v_number, v_word)))) = some (nv_to, nv_from, nv_kind, nv_number, nv_word) := h
    refine lv_aload_n hx hb dX9_next_177 rfl (lv_at hl 0 rfl) ?_
    refine lv_aload_n hx hb dX9_next_178 rfl (lv_at hl 0 rfl) ?_
    refine va_get (D := D) (ci := 9) (v := .int v_to) (C := RX9) (T := TX9) (N := 29) hx hb hts in_X9_next_X9 hown hK hP 0 rfl rfl 4 (by decide) kw1 (fun _ h9 => h9) rfl dX9_next_179 ?_
    obtain ⟨r_15, hc_16, h⟩ := bi_some h
    refine rd_callVi [.int v_to] [] (wr := []) (W1 := wd_X9 cI cZ cP a_this a_tape a_now a_read a_kept a_snaps a_before a_live a_other a_isKept a_waysOf a_sought a_starterRow a_wantedRow a_order v_thrown v_taped v_size v_to v_from v_kind v_number v_fault v_place v_word v_snapMany v_starterMany v_perfectMany v_wanted v_seed v_tape v_now v_read v_kept v_snaps v_before v_live v_other v_isKept v_waysOf v_sought v_starterRow v_wantedRow v_order) (ci := 9) ⟨hx, hb, hml, hown, hts⟩ (c_X9_tapeAt l D cI cZ cP a_this a_tape a_now a_read a_kept a_snaps a_before a_live a_other a_isKept a_waysOf a_sought a_starterRow a_wantedRow a_order v_thrown v_taped v_size v_to v_from v_kind v_number v_fault v_place v_word v_snapMany v_starterMany v_perfectMany v_wanted v_seed v_tape v_now v_read v_kept v_snaps v_before v_live v_other v_isKept v_waysOf v_sought v_starterRow v_wantedRow v_order v_to r_15 hc_16) (cwV 1 hts gX9_next_X9_tapeAt rfl rfl rfl (by decide +kernel) ⟨Nat.le_of_ble_eq_true rfl, Nat.le_of_ble_eq_true rfl⟩) rfl rfl hl.1 (Nat.le_of_ble_eq_true rfl) dX9_next_182 ⟨Nat.zero_le _, Nat.zero_le _⟩ hK hP hD hS hA rfl rfl [0, 1, 2, 3, 4, 5, 6, 7, 8, 9, 10, 11, 12, 13, 14] [] [0, 1, 2, 3, 4, 5, 6, 7, 8, 9, 10, 11, 12, 13, 14] ⟨⟨rfl, rfl, rfl⟩, by decide⟩ (fun H locs hP hD hS => ?_)
    obtain ⟨r_17, hc_18, h⟩ := bi_some h
    refine rd_callSi [.int r_15] [] (wr := [(a_this, .inr (9, [.int v_thrown, .ref a_tape, .int v_taped, .int v_size, .int v_to, .int v_from, .int v_kind, .int v_number, .int v_fault, .int v_place, .long v_word, .ref a_now, .ref a_read, .ref a_kept, .ref a_snaps, .ref a_before, .ref a_live, .ref a_other, .ref a_isKept, .int v_snapMany, .ref a_waysOf, .ref a_sought, .ref a_starterRow, .ref a_wantedRow, .int v_starterMany, .int v_perfectMany, .int v_wanted, .ref a_order, .int v_seed])), (a_tape, .inl (cI, 740, .inl v_tape)), (a_now, .inl (cI, 184, .inl v_now)), (a_read, .inl (cI, 184, .inl v_read)), (a_kept, .inl (cI, 368, .inl v_kept)), (a_snaps, .inl (cI, 1472, .inl v_snaps)), (a_before, .inl (cI, 184, .inl v_before)), (a_live, .inl (cI, 184, .inl v_live)), (a_other, .inl (cI, 184, .inl v_other)), (a_isKept, .inl (cZ, 2, .inl v_isKept)), (a_waysOf, .inl (cI, 16384, .inl v_waysOf)), (a_sought, .inl (cI, 14, .inl v_sought)), (a_starterRow, .inl (cI, 14, .inl v_starterRow)), (a_wantedRow, .inl (cI, 14, .inl v_wantedRow)), (a_order, .inl (cI, 13, .inl v_order))]) (W1 := wd_X9 cI cZ cP a_this a_tape a_now a_read a_kept a_snaps a_before a_live a_other a_isKept a_waysOf a_sought a_starterRow a_wantedRow a_order v_thrown v_taped v_size v_to v_from v_kind v_number v_fault v_place v_word v_snapMany v_starterMany v_perfectMany v_wanted v_seed v_tape v_now v_read v_kept v_snaps v_before v_live v_other v_isKept v_waysOf v_sought v_starterRow v_wantedRow v_order) ⟨hx, hb, hml, hown, hts⟩ (c_X9_isLetter l D cI cZ cP r_15 r_17 hc_18) (va_cwS 1 hts gX9_next_X9_isLetter rfl rfl rfl (by decide +kernel) ⟨Nat.le_of_ble_eq_true rfl, Nat.le_of_ble_eq_true rfl⟩) rfl rfl hl.1 (Nat.le_of_ble_eq_true rfl) dX9_next_185 ⟨Nat.zero_le _, Nat.zero_le _⟩ hK hP hD hS hA [] [0, 1, 2, 3, 4, 5, 6, 7, 8, 9, 10, 11, 12, 13, 14] [0, 1, 2, 3, 4, 5, 6, 7, 8, 9, 10, 11, 12, 13, 14] ⟨⟨rfl, rfl, rfl⟩, by decide⟩ (fun H locs hP hD hS => ?_)
    refine lv_if_ne (tgt := 205) hx hb dX9_next_188 (by decide) (fun c_19 => ?_) (fun c_19 => ?_)
    · replace h := it_neg h c_19
      exact w205 x2 v_from v_kind _ hself x3 v_to v_number v_word h _ _ _ hP hD hS (lv_sub hl [0, 1, 2] rfl)
    · replace h := it_pos h c_19
      refine lv_aload_n hx hb dX9_next_191 rfl (lv_at hl 0 rfl) ?_
      refine lv_aload_n hx hb dX9_next_192 rfl (lv_at hl 0 rfl) ?_
      refine va_get (D := D) (ci := 9) (v := .int v_to) (C := RX9) (T := TX9) (N := 29) hx hb hts in_X9_next_X9 hown hK hP 0 rfl rfl 4 (by decide) kw1 (fun _ h9 => h9) rfl dX9_next_193 ?_
      obtain ⟨r_20, hc_21, h⟩ := bi_some h
      refine rd_callVi [.int v_to] [] (wr := []) (W1 := wd_X9 cI cZ cP a_this a_tape a_now a_read a_kept a_snaps a_before a_live a_other a_isKept a_waysOf a_sought a_starterRow a_wantedRow a_order v_thrown v_taped v_size v_to v_from v_kind v_number v_fault v_place v_word v_snapMany v_starterMany v_perfectMany v_wanted v_seed v_tape v_now v_read v_kept v_snaps v_before v_live v_other v_isKept v_waysOf v_sought v_starterRow v_wantedRow v_order) (ci := 9) ⟨hx, hb, hml, hown, hts⟩ (c_X9_tapeAt l D cI cZ cP a_this a_tape a_now a_read a_kept a_snaps a_before a_live a_other a_isKept a_waysOf a_sought a_starterRow a_wantedRow a_order v_thrown v_taped v_size v_to v_from v_kind v_number v_fault v_place v_word v_snapMany v_starterMany v_perfectMany v_wanted v_seed v_tape v_now v_read v_kept v_snaps v_before v_live v_other v_isKept v_waysOf v_sought v_starterRow v_wantedRow v_order v_to r_20 hc_21) (cwV 1 hts gX9_next_X9_tapeAt rfl rfl rfl (by decide +kernel) ⟨Nat.le_of_ble_eq_true rfl, Nat.le_of_ble_eq_true rfl⟩) rfl rfl hl.1 (Nat.le_of_ble_eq_true rfl) dX9_next_196 ⟨Nat.zero_le _, Nat.zero_le _⟩ hK hP hD hS hA rfl rfl [0, 1, 2, 3, 4, 5, 6, 7, 8, 9, 10, 11, 12, 13, 14] [] [0, 1, 2, 3, 4, 5, 6, 7, 8, 9, 10, 11, 12, 13, 14] ⟨⟨rfl, rfl, rfl⟩, by decide⟩ (fun H locs hP hD hS => ?_)
      obtain ⟨r_22, hc_23, h⟩ := bi_some h
      refine rd_callSi [.int r_20] [] (wr := [(a_this, .inr (9, [.int v_thrown, .ref a_tape, .int v_taped, .int v_size, .int v_to, .int v_from, .int v_kind, .int v_number, .int v_fault, .int v_place, .long v_word, .ref a_now, .ref a_read, .ref a_kept, .ref a_snaps, .ref a_before, .ref a_live, .ref a_other, .ref a_isKept, .int v_snapMany, .ref a_waysOf, .ref a_sought, .ref a_starterRow, .ref a_wantedRow, .int v_starterMany, .int v_perfectMany, .int v_wanted, .ref a_order, .int v_seed])), (a_tape, .inl (cI, 740, .inl v_tape)), (a_now, .inl (cI, 184, .inl v_now)), (a_read, .inl (cI, 184, .inl v_read)), (a_kept, .inl (cI, 368, .inl v_kept)), (a_snaps, .inl (cI, 1472, .inl v_snaps)), (a_before, .inl (cI, 184, .inl v_before)), (a_live, .inl (cI, 184, .inl v_live)), (a_other, .inl (cI, 184, .inl v_other)), (a_isKept, .inl (cZ, 2, .inl v_isKept)), (a_waysOf, .inl (cI, 16384, .inl v_waysOf)), (a_sought, .inl (cI, 14, .inl v_sought)), (a_starterRow, .inl (cI, 14, .inl v_starterRow)), (a_wantedRow, .inl (cI, 14, .inl v_wantedRow)), (a_order, .inl (cI, 13, .inl v_order))]) (W1 := wd_X9 cI cZ cP a_this a_tape a_now a_read a_kept a_snaps a_before a_live a_other a_isKept a_waysOf a_sought a_starterRow a_wantedRow a_order v_thrown v_taped v_size v_to v_from v_kind v_number v_fault v_place v_word v_snapMany v_starterMany v_perfectMany v_wanted v_seed v_tape v_now v_read v_kept v_snaps v_before v_live v_other v_isKept v_waysOf v_sought v_starterRow v_wantedRow v_order) ⟨hx, hb, hml, hown, hts⟩ (c_X9_isDigit l D cI cZ cP r_20 r_22 hc_23) (va_cwS 1 hts gX9_next_X9_isDigit rfl rfl rfl (by decide +kernel) ⟨Nat.le_of_ble_eq_true rfl, Nat.le_of_ble_eq_true rfl⟩) rfl rfl hl.1 (Nat.le_of_ble_eq_true rfl) dX9_next_199 ⟨Nat.zero_le _, Nat.zero_le _⟩ hK hP hD hS hA [] [0, 1, 2, 3, 4, 5, 6, 7, 8, 9, 10, 11, 12, 13, 14] [0, 1, 2, 3, 4, 5, 6, 7, 8, 9, 10, 11, 12, 13, 14] ⟨⟨rfl, rfl, rfl⟩, by decide⟩ (fun H locs hP hD hS => ?_)
      refine lv_if_eq (tgt := 312) hx hb dX9_next_202 (by decide) (fun c_24 => ?_) (fun c_24 => ?_)
      · replace h := it_pos h c_24
        refine lv_aload_n hx hb dX9_next_312 rfl (lv_at hl 0 rfl) ?_
        refine lv_iload_n hx hb dX9_next_313 rfl (lv_at hl 2 rfl) ?_
        refine lv_if_eq (tgt := 334) hx hb dX9_next_314 (by decide) (fun c_25 => ?_) (fun c_25 => ?_)
        · replace h := it_pos h c_25
          refine lv_iconst (v := 1) hx hb dX9_next_334 (by decide) ?_
          refine lv_goto (tgt := 347) hx hb dX9_next_335 (by decide) ?_
          refine rd_put (W1 := wd_X9 cI cZ cP a_this a_tape a_now a_read a_kept a_snaps a_before a_live a_other a_isKept a_waysOf a_sought a_starterRow a_wantedRow a_order v_thrown v_taped v_size v_to v_from (1 : Int32) v_number v_fault v_place v_word v_snapMany v_starterMany v_perfectMany v_wanted v_seed v_tape v_now v_read v_kept v_snaps v_before v_live v_other v_isKept v_waysOf v_sought v_starterRow v_wantedRow v_order) (C := RX9) (T := TX9) (N := 29) (ci := 9) hx hb hts in_X9_next_X9 tyX9 tyX9_ok nmX9 hown hK hP hD hS 0 rfl rfl 6 (by decide) kw5 (fun _ h9 => h9) rfl rfl rfl (Nat.le_of_ble_eq_true rfl) rfl dX9_next_347 (fun H locs hP hD hS => ?_)
          obtain ⟨rfl, rfl, rfl, rfl, rfl⟩ := inj5 h
          exact hret dX9_next_350 hP hD hS
        · replace h := it_neg h c_25
          refine lv_iload_n hx hb dX9_next_317 rfl (lv_at hl 1 rfl) ?_
          refine lv_if_ne (tgt := 338) hx hb dX9_next_318 (by decide) (fun c_26 => ?_) (fun c_26 => ?_)
          · replace h := it_neg h c_26
            exact w338 x2 v_to v_from v_kind v_number v_word h _ _ _ hP hD hS (lv_sub hl [1] rfl)
          · replace h := it_pos h c_26
            refine lv_aload_n hx hb dX9_next_321 rfl (lv_at hl 0 rfl) ?_
            refine va_get (D := D) (ci := 9) (v := .int v_to) (C := RX9) (T := TX9) (N := 29) hx hb hts in_X9_next_X9 hown hK hP 0 rfl rfl 4 (by decide) kw1 (fun _ h9 => h9) rfl dX9_next_322 ?_
            refine lv_aload_n hx hb dX9_next_325 rfl (lv_at hl 0 rfl) ?_
            refine va_get (D := D) (ci := 9) (v := .int v_from) (C := RX9) (T := TX9) (N := 29) hx hb hts in_X9_next_X9 hown hK hP 0 rfl rfl 5 (by decide) kw4 (fun _ h9 => h9) rfl dX9_next_326 ?_
            refine lv_isub hx hb dX9_next_329 ?_
            refine lv_iconst (v := 2) hx hb dX9_next_330 (by decide) ?_
            refine lv_icmp_le (tgt := 338) hx hb dX9_next_331 (by decide) (fun c_27 => ?_) (fun c_27 => ?_)
            · replace h := it_pos h c_27
              exact w338 x2 v_to v_from v_kind v_number v_word h _ _ _ hP hD hS (lv_sub hl [1] rfl)
            · replace h := it_neg h c_27
              refine lv_iconst (v := 1) hx hb dX9_next_334 (by decide) ?_
              refine lv_goto (tgt := 347) hx hb dX9_next_335 (by decide) ?_
              refine rd_put (W1 := wd_X9 cI cZ cP a_this a_tape a_now a_read a_kept a_snaps a_before a_live a_other a_isKept a_waysOf a_sought a_starterRow a_wantedRow a_order v_thrown v_taped v_size v_to v_from (1 : Int32) v_number v_fault v_place v_word v_snapMany v_starterMany v_perfectMany v_wanted v_seed v_tape v_now v_read v_kept v_snaps v_before v_live v_other v_isKept v_waysOf v_sought v_starterRow v_wantedRow v_order) (C := RX9) (T := TX9) (N := 29) (ci := 9) hx hb hts in_X9_next_X9 tyX9 tyX9_ok nmX9 hown hK hP hD hS 0 rfl rfl 6 (by decide) kw5 (fun _ h9 => h9) rfl rfl rfl (Nat.le_of_ble_eq_true rfl) rfl dX9_next_347 (fun H locs hP hD hS => ?_)
              obtain ⟨rfl, rfl, rfl, rfl, rfl⟩ := inj5 h
              exact hret dX9_next_350 hP hD hS
      · replace h := it_neg h c_24
        exact w205 x2 v_from v_kind _ hself x3 v_to v_number v_word h _ _ _ hP hD hS (lv_sub hl [0, 1, 2] rfl)
  have w160 : ∀ (x1 : Int32) (v_to : Int32) (v_from : Int32) (v_kind : Int32) (v_number : Int32) (v_word : Int64), f_X9_next_J160 v_size v_tape (x1, v_to, v_from, v_kind, v_number, v_word) = some (nv_to, nv_from, nv_kind, nv_number, nv_word) → ∀ (H : Heap) (locs : List Loc) (ls : Array Slot), va_P D vwCl (wd_X9 cI cZ cP a_this a_tape a_now a_read a_kept a_snaps a_before a_live a_other a_isKept a_waysOf a_sought a_starterRow a_wantedRow a_order v_thrown v_taped v_size v_to v_from v_kind v_number v_fault v_place v_word v_snapMany v_starterMany v_perfectMany v_wanted v_seed v_tape v_now v_read v_kept v_snaps v_before v_live v_other v_isKept v_waysOf v_sought v_starterRow v_wantedRow v_order) H → va_D A (wd_X9 cI cZ cP a_this a_tape a_now a_read a_kept a_snaps a_before a_live a_other a_isKept a_waysOf a_sought a_starterRow a_wantedRow a_order v_thrown v_taped v_size v_to v_from v_kind v_number v_fault v_place v_word v_snapMany v_starterMany v_perfectMany v_wanted v_seed v_tape v_now v_read v_kept v_snaps v_before v_live v_other v_isKept v_waysOf v_sought v_starterRow v_wantedRow v_order) → va_S A s.heap H locs → lv_has ls 5 [(0, .ref a_this), (1, .int x1)] → W p l e { frames := 1, cells := 0, slots := 0, locals := 21 } s m args below meth c H locs 0 0 Q (F0 m 160 ls []) := by
    intro  x1 v_to v_from v_kind v_number v_word h H locs ls hP hD hS hl
    replace h : ((f_X9_isLetter x1).bind (fun r_28 => lp (f_X9_next_L177 v_size v_tape r_28 v_from v_kind) 20000 ((1 : Int32), v_to, (0 : Int32), (0 : Int64)))) = some (nv_to, nv_from, nv_kind, nv_number, nv_word) := h
    refine lv_iload_n hx hb dX9_next_160 rfl (lv_at hl 1 rfl) ?_
    obtain ⟨r_28, hc_29, h⟩ := bi_some h
    refine rd_callSi [.int x1] [] (wr := [(a_this, .inr (9, [.int v_thrown, .ref a_tape, .int v_taped, .int v_size, .int v_to, .int v_from, .int v_kind, .int v_number, .int v_fault, .int v_place, .long v_word, .ref a_now, .ref a_read, .ref a_kept, .ref a_snaps, .ref a_before, .ref a_live, .ref a_other, .ref a_isKept, .int v_snapMany, .ref a_waysOf, .ref a_sought, .ref a_starterRow, .ref a_wantedRow, .int v_starterMany, .int v_perfectMany, .int v_wanted, .ref a_order, .int v_seed])), (a_tape, .inl (cI, 740, .inl v_tape)), (a_now, .inl (cI, 184, .inl v_now)), (a_read, .inl (cI, 184, .inl v_read)), (a_kept, .inl (cI, 368, .inl v_kept)), (a_snaps, .inl (cI, 1472, .inl v_snaps)), (a_before, .inl (cI, 184, .inl v_before)), (a_live, .inl (cI, 184, .inl v_live)), (a_other, .inl (cI, 184, .inl v_other)), (a_isKept, .inl (cZ, 2, .inl v_isKept)), (a_waysOf, .inl (cI, 16384, .inl v_waysOf)), (a_sought, .inl (cI, 14, .inl v_sought)), (a_starterRow, .inl (cI, 14, .inl v_starterRow)), (a_wantedRow, .inl (cI, 14, .inl v_wantedRow)), (a_order, .inl (cI, 13, .inl v_order))]) (W1 := wd_X9 cI cZ cP a_this a_tape a_now a_read a_kept a_snaps a_before a_live a_other a_isKept a_waysOf a_sought a_starterRow a_wantedRow a_order v_thrown v_taped v_size v_to v_from v_kind v_number v_fault v_place v_word v_snapMany v_starterMany v_perfectMany v_wanted v_seed v_tape v_now v_read v_kept v_snaps v_before v_live v_other v_isKept v_waysOf v_sought v_starterRow v_wantedRow v_order) ⟨hx, hb, hml, hown, hts⟩ (c_X9_isLetter l D cI cZ cP x1 r_28 hc_29) (va_cwS 1 hts gX9_next_X9_isLetter rfl rfl rfl (by decide +kernel) ⟨Nat.le_of_ble_eq_true rfl, Nat.le_of_ble_eq_true rfl⟩) rfl rfl hl.1 (Nat.le_of_ble_eq_true rfl) dX9_next_161 ⟨Nat.zero_le _, Nat.zero_le _⟩ hK hP hD hS hA [] [0, 1, 2, 3, 4, 5, 6, 7, 8, 9, 10, 11, 12, 13, 14] [0, 1, 2, 3, 4, 5, 6, 7, 8, 9, 10, 11, 12, 13, 14] ⟨⟨rfl, rfl, rfl⟩, by decide⟩ (fun H locs hP hD hS => ?_)
    refine lv_istore_n (lv' := [(2, .int r_28), (0, .ref a_this), (1, .int x1)]) hx hb dX9_next_164 rfl hl (by decide) rfl (fun ls hl => ?_)
    refine lv_iconst (v := 1) hx hb dX9_next_165 (by decide) ?_
    refine lv_istore_n (lv' := [(3, .int (1 : Int32)), (2, .int r_28), (0, .ref a_this), (1, .int x1)]) hx hb dX9_next_166 rfl hl (by decide) rfl (fun ls hl => ?_)
    refine lv_aload_n hx hb dX9_next_167 rfl (lv_at hl 2 rfl) ?_
    refine lv_lconst (v := 0) hx hb dX9_next_168 (by decide) ?_
    refine rd_put (W1 := wd_X9 cI cZ cP a_this a_tape a_now a_read a_kept a_snaps a_before a_live a_other a_isKept a_waysOf a_sought a_starterRow a_wantedRow a_order v_thrown v_taped v_size v_to v_from v_kind v_number v_fault v_place (0 : Int64) v_snapMany v_starterMany v_perfectMany v_wanted v_seed v_tape v_now v_read v_kept v_snaps v_before v_live v_other v_isKept v_waysOf v_sought v_starterRow v_wantedRow v_order) (C := RX9) (T := TX9) (N := 29) (ci := 9) hx hb hts in_X9_next_X9 tyX9 tyX9_ok nmX9 hown hK hP hD hS 0 rfl rfl 10 (by decide) kw6 (fun _ h9 => h9) rfl rfl rfl (Nat.le_of_ble_eq_true rfl) rfl dX9_next_169 (fun H locs hP hD hS => ?_)
    refine lv_aload_n hx hb dX9_next_172 rfl (lv_at hl 2 rfl) ?_
    refine lv_iconst (v := 0) hx hb dX9_next_173 (by decide) ?_
    refine rd_put (W1 := wd_X9 cI cZ cP a_this a_tape a_now a_read a_kept a_snaps a_before a_live a_other a_isKept a_waysOf a_sought a_starterRow a_wantedRow a_order v_thrown v_taped v_size v_to v_from v_kind (0 : Int32) v_fault v_place (0 : Int64) v_snapMany v_starterMany v_perfectMany v_wanted v_seed v_tape v_now v_read v_kept v_snaps v_before v_live v_other v_isKept v_waysOf v_sought v_starterRow v_wantedRow v_order) (C := RX9) (T := TX9) (N := 29) (ci := 9) hx hb hts in_X9_next_X9 tyX9 tyX9_ok nmX9 hown hK hP hD hS 0 rfl rfl 7 (by decide) kw7 (fun _ h9 => h9) rfl rfl rfl (Nat.le_of_ble_eq_true rfl) rfl dX9_next_174 (fun H locs hP hD hS => ?_)
    exact w177 r_28 v_from v_kind 20000 (1 : Int32) v_to (0 : Int32) (0 : Int64) h _ _ _ hP hD hS (lv_sub hl [2, 1, 0] rfl)
  have w93 : ∀ (v_to : Int32) (v_from : Int32) (v_kind : Int32) (v_number : Int32) (v_word : Int64), f_X9_next_J93 v_size v_tape (v_to, v_from, v_kind, v_number, v_word) = some (nv_to, nv_from, nv_kind, nv_number, nv_word) → ∀ (H : Heap) (locs : List Loc) (ls : Array Slot), va_P D vwCl (wd_X9 cI cZ cP a_this a_tape a_now a_read a_kept a_snaps a_before a_live a_other a_isKept a_waysOf a_sought a_starterRow a_wantedRow a_order v_thrown v_taped v_size v_to v_from v_kind v_number v_fault v_place v_word v_snapMany v_starterMany v_perfectMany v_wanted v_seed v_tape v_now v_read v_kept v_snaps v_before v_live v_other v_isKept v_waysOf v_sought v_starterRow v_wantedRow v_order) H → va_D A (wd_X9 cI cZ cP a_this a_tape a_now a_read a_kept a_snaps a_before a_live a_other a_isKept a_waysOf a_sought a_starterRow a_wantedRow a_order v_thrown v_taped v_size v_to v_from v_kind v_number v_fault v_place v_word v_snapMany v_starterMany v_perfectMany v_wanted v_seed v_tape v_now v_read v_kept v_snaps v_before v_live v_other v_isKept v_waysOf v_sought v_starterRow v_wantedRow v_order) → va_S A s.heap H locs → lv_has ls 5 [(0, .ref a_this)] → W p l e { frames := 1, cells := 0, slots := 0, locals := 21 } s m args below meth c H locs 0 0 Q (F0 m 93 ls []) := by
    intro  v_to v_from v_kind v_number v_word h H locs ls hP hD hS hl
    replace h : (if v_to < v_size then if inb v_to 740 then bd (v_tape v_to.toNatClampNeg) (fun x1_32 => (f_X9_isLetter x1_32).bind (fun r_33 => if r_33 = 0 then (f_X9_isDigit x1_32).bind (fun r_36 => if r_36 = 0 then if x1_32 = (59 : Int32) then f_X9_next_J146 v_size v_tape ((4 : Int32), v_to, v_from, v_kind, v_number, v_word) else f_X9_next_J146 v_size v_tape ((1 : Int32), v_to, v_from, v_kind, v_number, v_word) else f_X9_next_J160 v_size v_tape (x1_32, v_to, v_from, v_kind, v_number, v_word)) else f_X9_next_J160 v_size v_tape (x1_32, v_to, v_from, v_kind, v_number, v_word))) else none else some (v_to, v_from, (0 : Int32), v_number, v_word)) = some (nv_to, nv_from, nv_kind, nv_number, nv_word) := h
    refine lv_aload_n hx hb dX9_next_93 rfl (lv_at hl 0 rfl) ?_
    refine va_get (D := D) (ci := 9) (v := .int v_to) (C := RX9) (T := TX9) (N := 29) hx hb hts in_X9_next_X9 hown hK hP 0 rfl rfl 4 (by decide) kw1 (fun _ h9 => h9) rfl dX9_next_94 ?_
    refine lv_aload_n hx hb dX9_next_97 rfl (lv_at hl 0 rfl) ?_
    refine va_get (D := D) (ci := 9) (v := .int v_size) (C := RX9) (T := TX9) (N := 29) hx hb hts in_X9_next_X9 hown hK hP 0 rfl rfl 3 (by decide) kw2 (fun _ h9 => h9) rfl dX9_next_98 ?_
    refine lv_icmp_lt (tgt := 110) hx hb dX9_next_101 (by decide) (fun c_30 => ?_) (fun c_30 => ?_)
    · replace h := it_pos h c_30
      refine lv_aload_n hx hb dX9_next_110 rfl (lv_at hl 0 rfl) ?_
      refine va_get (D := D) (ci := 9) (v := .ref a_tape) (C := RX9) (T := TX9) (N := 29) hx hb hts in_X9_next_X9 hown hK hP 0 rfl rfl 1 (by decide) kw3 (fun _ h9 => h9) rfl dX9_next_111 ?_
      refine lv_aload_n hx hb dX9_next_114 rfl (lv_at hl 0 rfl) ?_
      refine va_get (D := D) (ci := 9) (v := .int v_to) (C := RX9) (T := TX9) (N := 29) hx hb hts in_X9_next_X9 hown hK hP 0 rfl rfl 4 (by decide) kw1 (fun _ h9 => h9) rfl dX9_next_115 ?_
      obtain ⟨hi_31, h⟩ := gd_some h
      refine va_iald hx hb hK hP 1 0 rfl rfl (inb_in hi_31) dX9_next_118 ?_
      obtain ⟨x1_32, ex1_32, h⟩ := bd_some h
      refine rd_top ex1_32 ?_
      refine lv_istore_n (lv' := [(1, .int x1_32), (0, .ref a_this)]) hx hb dX9_next_119 rfl hl (by decide) rfl (fun ls hl => ?_)
      refine lv_iload_n hx hb dX9_next_120 rfl (lv_at hl 0 rfl) ?_
      obtain ⟨r_33, hc_34, h⟩ := bi_some h
      refine rd_callSi [.int x1_32] [] (wr := [(a_this, .inr (9, [.int v_thrown, .ref a_tape, .int v_taped, .int v_size, .int v_to, .int v_from, .int v_kind, .int v_number, .int v_fault, .int v_place, .long v_word, .ref a_now, .ref a_read, .ref a_kept, .ref a_snaps, .ref a_before, .ref a_live, .ref a_other, .ref a_isKept, .int v_snapMany, .ref a_waysOf, .ref a_sought, .ref a_starterRow, .ref a_wantedRow, .int v_starterMany, .int v_perfectMany, .int v_wanted, .ref a_order, .int v_seed])), (a_tape, .inl (cI, 740, .inl v_tape)), (a_now, .inl (cI, 184, .inl v_now)), (a_read, .inl (cI, 184, .inl v_read)), (a_kept, .inl (cI, 368, .inl v_kept)), (a_snaps, .inl (cI, 1472, .inl v_snaps)), (a_before, .inl (cI, 184, .inl v_before)), (a_live, .inl (cI, 184, .inl v_live)), (a_other, .inl (cI, 184, .inl v_other)), (a_isKept, .inl (cZ, 2, .inl v_isKept)), (a_waysOf, .inl (cI, 16384, .inl v_waysOf)), (a_sought, .inl (cI, 14, .inl v_sought)), (a_starterRow, .inl (cI, 14, .inl v_starterRow)), (a_wantedRow, .inl (cI, 14, .inl v_wantedRow)), (a_order, .inl (cI, 13, .inl v_order))]) (W1 := wd_X9 cI cZ cP a_this a_tape a_now a_read a_kept a_snaps a_before a_live a_other a_isKept a_waysOf a_sought a_starterRow a_wantedRow a_order v_thrown v_taped v_size v_to v_from v_kind v_number v_fault v_place v_word v_snapMany v_starterMany v_perfectMany v_wanted v_seed v_tape v_now v_read v_kept v_snaps v_before v_live v_other v_isKept v_waysOf v_sought v_starterRow v_wantedRow v_order) ⟨hx, hb, hml, hown, hts⟩ (c_X9_isLetter l D cI cZ cP x1_32 r_33 hc_34) (va_cwS 1 hts gX9_next_X9_isLetter rfl rfl rfl (by decide +kernel) ⟨Nat.le_of_ble_eq_true rfl, Nat.le_of_ble_eq_true rfl⟩) rfl rfl hl.1 (Nat.le_of_ble_eq_true rfl) dX9_next_121 ⟨Nat.zero_le _, Nat.zero_le _⟩ hK hP hD hS hA [] [0, 1, 2, 3, 4, 5, 6, 7, 8, 9, 10, 11, 12, 13, 14] [0, 1, 2, 3, 4, 5, 6, 7, 8, 9, 10, 11, 12, 13, 14] ⟨⟨rfl, rfl, rfl⟩, by decide⟩ (fun H locs hP hD hS => ?_)
      refine lv_if_ne (tgt := 160) hx hb dX9_next_124 (by decide) (fun c_35 => ?_) (fun c_35 => ?_)
      · replace h := it_neg h c_35
        exact w160 x1_32 v_to v_from v_kind v_number v_word h _ _ _ hP hD hS (lv_sub hl [1, 0] rfl)
      · replace h := it_pos h c_35
        refine lv_iload_n hx hb dX9_next_127 rfl (lv_at hl 0 rfl) ?_
        obtain ⟨r_36, hc_37, h⟩ := bi_some h
        refine rd_callSi [.int x1_32] [] (wr := [(a_this, .inr (9, [.int v_thrown, .ref a_tape, .int v_taped, .int v_size, .int v_to, .int v_from, .int v_kind, .int v_number, .int v_fault, .int v_place, .long v_word, .ref a_now, .ref a_read, .ref a_kept, .ref a_snaps, .ref a_before, .ref a_live, .ref a_other, .ref a_isKept, .int v_snapMany, .ref a_waysOf, .ref a_sought, .ref a_starterRow, .ref a_wantedRow, .int v_starterMany, .int v_perfectMany, .int v_wanted, .ref a_order, .int v_seed])), (a_tape, .inl (cI, 740, .inl v_tape)), (a_now, .inl (cI, 184, .inl v_now)), (a_read, .inl (cI, 184, .inl v_read)), (a_kept, .inl (cI, 368, .inl v_kept)), (a_snaps, .inl (cI, 1472, .inl v_snaps)), (a_before, .inl (cI, 184, .inl v_before)), (a_live, .inl (cI, 184, .inl v_live)), (a_other, .inl (cI, 184, .inl v_other)), (a_isKept, .inl (cZ, 2, .inl v_isKept)), (a_waysOf, .inl (cI, 16384, .inl v_waysOf)), (a_sought, .inl (cI, 14, .inl v_sought)), (a_starterRow, .inl (cI, 14, .inl v_starterRow)), (a_wantedRow, .inl (cI, 14, .inl v_wantedRow)), (a_order, .inl (cI, 13, .inl v_order))]) (W1 := wd_X9 cI cZ cP a_this a_tape a_now a_read a_kept a_snaps a_before a_live a_other a_isKept a_waysOf a_sought a_starterRow a_wantedRow a_order v_thrown v_taped v_size v_to v_from v_kind v_number v_fault v_place v_word v_snapMany v_starterMany v_perfectMany v_wanted v_seed v_tape v_now v_read v_kept v_snaps v_before v_live v_other v_isKept v_waysOf v_sought v_starterRow v_wantedRow v_order) ⟨hx, hb, hml, hown, hts⟩ (c_X9_isDigit l D cI cZ cP x1_32 r_36 hc_37) (va_cwS 1 hts gX9_next_X9_isDigit rfl rfl rfl (by decide +kernel) ⟨Nat.le_of_ble_eq_true rfl, Nat.le_of_ble_eq_true rfl⟩) rfl rfl hl.1 (Nat.le_of_ble_eq_true rfl) dX9_next_128 ⟨Nat.zero_le _, Nat.zero_le _⟩ hK hP hD hS hA [] [0, 1, 2, 3, 4, 5, 6, 7, 8, 9, 10, 11, 12, 13, 14] [0, 1, 2, 3, 4, 5, 6, 7, 8, 9, 10, 11, 12, 13, 14] ⟨⟨rfl, rfl, rfl⟩, by decide⟩ (fun H locs hP hD hS => ?_)
        refine lv_if_ne (tgt := 160) hx hb dX9_next_131 (by decide) (fun c_38 => ?_) (fun c_38 => ?_)
        · replace h := it_neg h c_38
          exact w160 x1_32 v_to v_from v_kind v_number v_word h _ _ _ hP hD hS (lv_sub hl [1, 0] rfl)
        · replace h := it_pos h c_38
          refine lv_aload_n hx hb dX9_next_134 rfl (lv_at hl 1 rfl) ?_
          refine lv_iload_n hx hb dX9_next_135 rfl (lv_at hl 0 rfl) ?_
          refine lv_bipush (v := 59) hx hb dX9_next_136 (by decide) ?_
          refine lv_icmp_ne (tgt := 145) hx hb dX9_next_138 (by decide) (fun c_39 => ?_) (fun c_39 => ?_)
          · replace h := it_neg h c_39
            refine lv_iconst (v := 1) hx hb dX9_next_145 (by decide) ?_
            exact w146 (1 : Int32) v_to v_from v_kind v_number v_word h _ _ _ hP hD hS (lv_sub hl [1] rfl)
          · replace h := it_pos h c_39
            refine lv_iconst (v := 4) hx hb dX9_next_141 (by decide) ?_
            refine lv_goto (tgt := 146) hx hb dX9_next_142 (by decide) ?_
            exact w146 (4 : Int32) v_to v_from v_kind v_number v_word h _ _ _ hP hD hS (lv_sub hl [1] rfl)
    · replace h := it_neg h c_30
      refine lv_aload_n hx hb dX9_next_104 rfl (lv_at hl 0 rfl) ?_
      refine lv_iconst (v := 0) hx hb dX9_next_105 (by decide) ?_
      refine rd_put (W1 := wd_X9 cI cZ cP a_this a_tape a_now a_read a_kept a_snaps a_before a_live a_other a_isKept a_waysOf a_sought a_starterRow a_wantedRow a_order v_thrown v_taped v_size v_to v_from (0 : Int32) v_number v_fault v_place v_word v_snapMany v_starterMany v_perfectMany v_wanted v_seed v_tape v_now v_read v_kept v_snaps v_before v_live v_other v_isKept v_waysOf v_sought v_starterRow v_wantedRow v_order) (C := RX9) (T := TX9) (N := 29) (ci := 9) hx hb hts in_X9_next_X9 tyX9 tyX9_ok nmX9 hown hK hP hD hS 0 rfl rfl 6 (by decide) kw5 (fun _ h9 => h9) rfl rfl rfl (Nat.le_of_ble_eq_true rfl) rfl dX9_next_106 (fun H locs hP hD hS => ?_)
      obtain ⟨rfl, rfl, rfl, rfl, rfl⟩ := inj5 h
      exact hret dX9_next_109 hP hD hS
  have w52 : ∀ (v_to : Int32) (v_from : Int32) (v_kind : Int32) (v_number : Int32) (v_word : Int64), f_X9_next_J52 v_size v_tape (v_to, v_from, v_kind, v_number, v_word) = some (nv_to, nv_from, nv_kind, nv_number, nv_word) → ∀ (H : Heap) (locs : List Loc) (ls : Array Slot), va_P D vwCl (wd_X9 cI cZ cP a_this a_tape a_now a_read a_kept a_snaps a_before a_live a_other a_isKept a_waysOf a_sought a_starterRow a_wantedRow a_order v_thrown v_taped v_size v_to v_from v_kind v_number v_fault v_place v_word v_snapMany v_starterMany v_perfectMany v_wanted v_seed v_tape v_now v_read v_kept v_snaps v_before v_live v_other v_isKept v_waysOf v_sought v_starterRow v_wantedRow v_order) H → va_D A (wd_X9 cI cZ cP a_this a_tape a_now a_read a_kept a_snaps a_before a_live a_other a_isKept a_waysOf a_sought a_starterRow a_wantedRow a_order v_thrown v_taped v_size v_to v_from v_kind v_number v_fault v_place v_word v_snapMany v_starterMany v_perfectMany v_wanted v_seed v_tape v_now v_read v_kept v_snaps v_before v_live v_other v_isKept v_waysOf v_sought v_starterRow v_wantedRow v_order) → va_S A s.heap H locs → lv_has ls 5 [(0, .ref a_this)] → W p l e { frames := 1, cells := 0, slots := 0, locals := 21 } s m args below meth c H locs 0 0 Q (F0 m 52 ls []) := by
    intro  v_to v_from v_kind v_number v_word h H locs ls hP hD hS hl
    replace h : (if v_size ≤ (700 : Int32) then f_X9_next_J93 v_size v_tape (v_to, v_to, v_kind, v_number, v_word) else if v_to < (700 : Int32) then f_X9_next_J93 v_size v_tape (v_to, v_to, v_kind, v_number, v_word) else some (v_to, (700 : Int32), (1 : Int32), v_number, v_word)) = some (nv_to, nv_from, nv_kind, nv_number, nv_word) := h
    refine lv_aload_n hx hb dX9_next_52 rfl (lv_at hl 0 rfl) ?_
    refine lv_aload_n hx hb dX9_next_53 rfl (lv_at hl 0 rfl) ?_
    refine va_get (D := D) (ci := 9) (v := .int v_to) (C := RX9) (T := TX9) (N := 29) hx hb hts in_X9_next_X9 hown hK hP 0 rfl rfl 4 (by decide) kw1 (fun _ h9 => h9) rfl dX9_next_54 ?_
    refine rd_put (W1 := wd_X9 cI cZ cP a_this a_tape a_now a_read a_kept a_snaps a_before a_live a_other a_isKept a_waysOf a_sought a_starterRow a_wantedRow a_order v_thrown v_taped v_size v_to v_to v_kind v_number v_fault v_place v_word v_snapMany v_starterMany v_perfectMany v_wanted v_seed v_tape v_now v_read v_kept v_snaps v_before v_live v_other v_isKept v_waysOf v_sought v_starterRow v_wantedRow v_order) (C := RX9) (T := TX9) (N := 29) (ci := 9) hx hb hts in_X9_next_X9 tyX9 tyX9_ok nmX9 hown hK hP hD hS 0 rfl rfl 5 (by decide) kw4 (fun _ h9 => h9) rfl rfl rfl (Nat.le_of_ble_eq_true rfl) rfl dX9_next_57 (fun H locs hP hD hS => ?_)
    refine lv_aload_n hx hb dX9_next_60 rfl (lv_at hl 0 rfl) ?_
    refine va_get (D := D) (ci := 9) (v := .int v_size) (C := RX9) (T := TX9) (N := 29) hx hb hts in_X9_next_X9 hown hK hP 0 rfl rfl 3 (by decide) kw2 (fun _ h9 => h9) rfl dX9_next_61 ?_
    refine lv_sipush (v := 700) hx hb dX9_next_64 (by decide) ?_
    refine lv_icmp_le (tgt := 93) hx hb dX9_next_67 (by decide) (fun c_40 => ?_) (fun c_40 => ?_)
    · replace h := it_pos h c_40
      exact w93 v_to v_to v_kind v_number v_word h _ _ _ hP hD hS (lv_sub hl [0] rfl)
    · replace h := it_neg h c_40
      refine lv_aload_n hx hb dX9_next_70 rfl (lv_at hl 0 rfl) ?_
      refine va_get (D := D) (ci := 9) (v := .int v_to) (C := RX9) (T := TX9) (N := 29) hx hb hts in_X9_next_X9 hown hK hP 0 rfl rfl 5 (by decide) kw4 (fun _ h9 => h9) rfl dX9_next_71 ?_
      refine lv_sipush (v := 700) hx hb dX9_next_74 (by decide) ?_
      refine lv_icmp_lt (tgt := 93) hx hb dX9_next_77 (by decide) (fun c_41 => ?_) (fun c_41 => ?_)
      · replace h := it_pos h c_41
        exact w93 v_to v_to v_kind v_number v_word h _ _ _ hP hD hS (lv_sub hl [0] rfl)
      · replace h := it_neg h c_41
        refine lv_aload_n hx hb dX9_next_80 rfl (lv_at hl 0 rfl) ?_
        refine lv_sipush (v := 700) hx hb dX9_next_81 (by decide) ?_
        refine rd_put (W1 := wd_X9 cI cZ cP a_this a_tape a_now a_read a_kept a_snaps a_before a_live a_other a_isKept a_waysOf a_sought a_starterRow a_wantedRow a_order v_thrown v_taped v_size v_to (700 : Int32) v_kind v_number v_fault v_place v_word v_snapMany v_starterMany v_perfectMany v_wanted v_seed v_tape v_now v_read v_kept v_snaps v_before v_live v_other v_isKept v_waysOf v_sought v_starterRow v_wantedRow v_order) (C := RX9) (T := TX9) (N := 29) (ci := 9) hx hb hts in_X9_next_X9 tyX9 tyX9_ok nmX9 hown hK hP hD hS 0 rfl rfl 5 (by decide) kw4 (fun _ h9 => h9) rfl rfl rfl (Nat.le_of_ble_eq_true rfl) rfl dX9_next_84 (fun H locs hP hD hS => ?_)
        refine lv_aload_n hx hb dX9_next_87 rfl (lv_at hl 0 rfl) ?_
        refine lv_iconst (v := 1) hx hb dX9_next_88 (by decide) ?_
        refine rd_put (W1 := wd_X9 cI cZ cP a_this a_tape a_now a_read a_kept a_snaps a_before a_live a_other a_isKept a_waysOf a_sought a_starterRow a_wantedRow a_order v_thrown v_taped v_size v_to (700 : Int32) (1 : Int32) v_number v_fault v_place v_word v_snapMany v_starterMany v_perfectMany v_wanted v_seed v_tape v_now v_read v_kept v_snaps v_before v_live v_other v_isKept v_waysOf v_sought v_starterRow v_wantedRow v_order) (C := RX9) (T := TX9) (N := 29) (ci := 9) hx hb hts in_X9_next_X9 tyX9 tyX9_ok nmX9 hown hK hP hD hS 0 rfl rfl 6 (by decide) kw5 (fun _ h9 => h9) rfl rfl rfl (Nat.le_of_ble_eq_true rfl) rfl dX9_next_89 (fun H locs hP hD hS => ?_)
        obtain ⟨rfl, rfl, rfl, rfl, rfl⟩ := inj5 h
        exact hret dX9_next_92 hP hD hS
  have w0 : ∀ v_from : Int32, ∀ v_kind : Int32, ∀ v_number : Int32, ∀ v_word : Int64, ∀ n : Nat, ∀ (v_to : Int32), lp (f_X9_next_L0 v_size v_tape v_from v_kind v_number v_word) n v_to = some (nv_to, nv_from, nv_kind, nv_number, nv_word) → ∀ (H : Heap) (locs : List Loc) (ls : Array Slot), va_P D vwCl (wd_X9 cI cZ cP a_this a_tape a_now a_read a_kept a_snaps a_before a_live a_other a_isKept a_waysOf a_sought a_starterRow a_wantedRow a_order v_thrown v_taped v_size v_to v_from v_kind v_number v_fault v_place v_word v_snapMany v_starterMany v_perfectMany v_wanted v_seed v_tape v_now v_read v_kept v_snaps v_before v_live v_other v_isKept v_waysOf v_sought v_starterRow v_wantedRow v_order) H → va_D A (wd_X9 cI cZ cP a_this a_tape a_now a_read a_kept a_snaps a_before a_live a_other a_isKept a_waysOf a_sought a_starterRow a_wantedRow a_order v_thrown v_taped v_size v_to v_from v_kind v_number v_fault v_place v_word v_snapMany v_starterMany v_perfectMany v_wanted v_seed v_tape v_now v_read v_kept v_snaps v_before v_live v_other v_isKept v_waysOf v_sought v_starterRow v_wantedRow v_order) → va_S A s.heap H locs → lv_has ls 5 [(0, .ref a_this)] → W p l e { frames := 1, cells := 0, slots := 0, locals := 21 } s m args below meth c H locs 0 0 Q (F0 m 0 ls []) := by
    intro v_from v_kind v_number v_word
    refine fun n v_to h => lp_walk (b := f_X9_next_L0 v_size v_tape v_from v_kind v_number v_word) (r := (nv_to, nv_from, nv_kind, nv_number, nv_word)) (P := fun v_to => ∀ (H : Heap) (locs : List Loc) (ls : Array Slot), va_P D vwCl (wd_X9 cI cZ cP a_this a_tape a_now a_read a_kept a_snaps a_before a_live a_other a_isKept a_waysOf a_sought a_starterRow a_wantedRow a_order v_thrown v_taped v_size v_to v_from v_kind v_number v_fault v_place v_word v_snapMany v_starterMany v_perfectMany v_wanted v_seed v_tape v_now v_read v_kept v_snaps v_before v_live v_other v_isKept v_waysOf v_sought v_starterRow v_wantedRow v_order) H → va_D A (wd_X9 cI cZ cP a_this a_tape a_now a_read a_kept a_snaps a_before a_live a_other a_isKept a_waysOf a_sought a_starterRow a_wantedRow a_order v_thrown v_taped v_size v_to v_from v_kind v_number v_fault v_place v_word v_snapMany v_starterMany v_perfectMany v_wanted v_seed v_tape v_now v_read v_kept v_snaps v_before v_live v_other v_isKept v_waysOf v_sought v_starterRow v_wantedRow v_order) → va_S A s.heap H locs → lv_has ls 5 [(0, .ref a_this)] → W p l e { frames := 1, cells := 0, slots := 0, locals := 21 } s m args below meth c H locs 0 0 Q (F0 m 0 ls [])) (fun self hself0 st h => ?_) n v_to h
    revert h; revert st; intro v_to h
    have hself : ∀ (v_to : Int32), self v_to = some (nv_to, nv_from, nv_kind, nv_number, nv_word) → ∀ (H : Heap) (locs : List Loc) (ls : Array Slot), va_P D vwCl (wd_X9 cI cZ cP a_this a_tape a_now a_read a_kept a_snaps a_before a_live a_other a_isKept a_waysOf a_sought a_starterRow a_wantedRow a_order v_thrown v_taped v_size v_to v_from v_kind v_number v_fault v_place v_word v_snapMany v_starterMany v_perfectMany v_wanted v_seed v_tape v_now v_read v_kept v_snaps v_before v_live v_other v_isKept v_waysOf v_sought v_starterRow v_wantedRow v_order) H → va_D A (wd_X9 cI cZ cP a_this a_tape a_now a_read a_kept a_snaps a_before a_live a_other a_isKept a_waysOf a_sought a_starterRow a_wantedRow a_order v_thrown v_taped v_size v_to v_from v_kind v_number v_fault v_place v_word v_snapMany v_starterMany v_perfectMany v_wanted v_seed v_tape v_now v_read v_kept v_snaps v_before v_live v_other v_isKept v_waysOf v_sought v_starterRow v_wantedRow v_order) → va_S A s.heap H locs → lv_has ls 5 [(0, .ref a_this)] → W p l e { frames := 1, cells := 0, slots := 0, locals := 21 } s m args below meth c H locs 0 0 Q (F0 m 0 ls []) := fun v_to h => hself0 v_to h
    clear hself0
    intro H locs ls hP hD hS hl
    replace h : (if v_size ≤ v_to then f_X9_next_J52 v_size v_tape (v_to, v_from, v_kind, v_number, v_word) else if inb v_to 740 then if (v_tape v_to.toNatClampNeg) = (32 : Int32) then f_X9_next_J39 self v_size v_tape v_from v_kind v_number v_word v_to else if inb v_to 740 then if (v_tape v_to.toNatClampNeg) = (10 : Int32) then f_X9_next_J39 self v_size v_tape v_from v_kind v_number v_word v_to else f_X9_next_J52 v_size v_tape (v_to, v_from, v_kind, v_number, v_word) else none else none) = some (nv_to, nv_from, nv_kind, nv_number, nv_word) := h
    refine lv_aload_n hx hb dX9_next_0 rfl (lv_at hl 0 rfl) ?_
    refine va_get (D := D) (ci := 9) (v := .int v_to) (C := RX9) (T := TX9) (N := 29) hx hb hts in_X9_next_X9 hown hK hP 0 rfl rfl 4 (by decide) kw1 (fun _ h9 => h9) rfl dX9_next_1 ?_
    refine lv_aload_n hx hb dX9_next_4 rfl (lv_at hl 0 rfl) ?_
    refine va_get (D := D) (ci := 9) (v := .int v_size) (C := RX9) (T := TX9) (N := 29) hx hb hts in_X9_next_X9 hown hK hP 0 rfl rfl 3 (by decide) kw2 (fun _ h9 => h9) rfl dX9_next_5 ?_
    refine lv_icmp_ge (tgt := 52) hx hb dX9_next_8 (by decide) (fun c_42 => ?_) (fun c_42 => ?_)
    · replace h := it_pos h c_42
      exact w52 v_to v_from v_kind v_number v_word h _ _ _ hP hD hS (lv_sub hl [0] rfl)
    · replace h := it_neg h c_42
      refine lv_aload_n hx hb dX9_next_11 rfl (lv_at hl 0 rfl) ?_
      refine va_get (D := D) (ci := 9) (v := .ref a_tape) (C := RX9) (T := TX9) (N := 29) hx hb hts in_X9_next_X9 hown hK hP 0 rfl rfl 1 (by decide) kw3 (fun _ h9 => h9) rfl dX9_next_12 ?_
      refine lv_aload_n hx hb dX9_next_15 rfl (lv_at hl 0 rfl) ?_
      refine va_get (D := D) (ci := 9) (v := .int v_to) (C := RX9) (T := TX9) (N := 29) hx hb hts in_X9_next_X9 hown hK hP 0 rfl rfl 4 (by decide) kw1 (fun _ h9 => h9) rfl dX9_next_16 ?_
      obtain ⟨hi_43, h⟩ := gd_some h
      refine va_iald hx hb hK hP 1 0 rfl rfl (inb_in hi_43) dX9_next_19 ?_
      refine lv_bipush (v := 32) hx hb dX9_next_20 (by decide) ?_
      refine lv_icmp_eq (tgt := 39) hx hb dX9_next_22 (by decide) (fun c_44 => ?_) (fun c_44 => ?_)
      · replace h := it_pos h c_44
        exact w39 v_from v_kind v_number v_word _ hself v_to h _ _ _ hP hD hS (lv_sub hl [0] rfl)
      · replace h := it_neg h c_44
        refine lv_aload_n hx hb dX9_next_25 rfl (lv_at hl 0 rfl) ?_
        refine va_get (D := D) (ci := 9) (v := .ref a_tape) (C := RX9) (T := TX9) (N := 29) hx hb hts in_X9_next_X9 hown hK hP 0 rfl rfl 1 (by decide) kw3 (fun _ h9 => h9) rfl dX9_next_26 ?_
        refine lv_aload_n hx hb dX9_next_29 rfl (lv_at hl 0 rfl) ?_
        refine va_get (D := D) (ci := 9) (v := .int v_to) (C := RX9) (T := TX9) (N := 29) hx hb hts in_X9_next_X9 hown hK hP 0 rfl rfl 4 (by decide) kw1 (fun _ h9 => h9) rfl dX9_next_30 ?_
        obtain ⟨hi_45, h⟩ := gd_some h
        refine va_iald hx hb hK hP 1 0 rfl rfl (inb_in hi_45) dX9_next_33 ?_
        refine lv_bipush (v := 10) hx hb dX9_next_34 (by decide) ?_
        refine lv_icmp_ne (tgt := 52) hx hb dX9_next_36 (by decide) (fun c_46 => ?_) (fun c_46 => ?_)
        · replace h := it_neg h c_46
          exact w52 v_to v_from v_kind v_number v_word h _ _ _ hP hD hS (lv_sub hl [0] rfl)
        · replace h := it_pos h c_46
          exact w39 v_from v_kind v_number v_word _ hself v_to h _ _ _ hP hD hS (lv_sub hl [0] rfl)
  exact w0 v_from v_kind v_number v_word 20000 v_to h _ _ _ hP hD hS (lv_sub hl [0] rfl)
def f_X9_spelt (p0 : Int32) (p1 : Int32) (p2 : Int32) (p3 : Int32) (p4 : Int32) : Option (Int64) := bd ((((27 : Int64) * ((((27 : Int64) * (p0.toInt64 - (96 : Int64))) + p1.toInt64) - (96 : Int64))) + p2.toInt64) - (96 : Int64)) (fun x5_1 => if p3 ≤ 0 then some x5_1 else some ((((27 : Int64) * ((((27 : Int64) * x5_1) + p3.toInt64) - (96 : Int64))) + p4.toInt64) - (96 : Int64)))
set_option maxHeartbeats 4000000 in
set_option maxRecDepth 100000 in
theorem c_X9_spelt (l : Launch) (D : va_G) (cI cZ cP : ClassId) (p0 : Int32) (p1 : Int32) (p2 : Int32) (p3 : Int32) (p4 : Int32) (r : Int64) (h : f_X9_spelt p0 p1 p2 p3 p4 = some r) : rd_L l yX9_spelt wsX9_spelt { frames := 0, cells := 0, slots := 0, locals := 0 } [.int p0, .int p1, .int p2, .int p3, .int p4] D (tyA cI cZ cP) ([]) ([]) r := by
  unfold f_X9_spelt at h
  refine rd_enterL (cc := cX9_spelt) (maxL := 7) (by decide) rfl (Nat.le_of_ble_eq_true rfl) ?_
  intro p e s m args below meth c A Q ls hx hb hml hown hts hA hK hP hD hS hl hret
  have hl : lv_has ls 7 [(0, .int p0), (1, .int p1), (2, .int p2), (3, .int p3), (4, .int p4)] := hl
  have kw1 := hts (.constantLong RX9 52 (27)) (List.mem_of_getElem? (i := 1) rfl)
  have kw2 := hts (.constantLong RX9 54 (96)) (List.mem_of_getElem? (i := 2) rfl)
  refine lv_ldc2 (v := 27) hx hb hown kw1 dX9_spelt_0 ?_
  refine lv_ldc2 (v := 27) hx hb hown kw1 dX9_spelt_3 ?_
  refine lv_iload_n hx hb dX9_spelt_6 rfl (lv_at hl 0 rfl) ?_
  refine lv_i2l (v := p0.toInt64) hx hb dX9_spelt_7 rfl ?_
  refine lv_ldc2 (v := 96) hx hb hown kw2 dX9_spelt_8 ?_
  refine lv_lsub hx hb dX9_spelt_11 ?_
  refine lv_lmul hx hb dX9_spelt_12 ?_
  refine lv_iload_n hx hb dX9_spelt_13 rfl (lv_at hl 1 rfl) ?_
  refine lv_i2l (v := p1.toInt64) hx hb dX9_spelt_14 rfl ?_
  refine lv_ladd hx hb dX9_spelt_15 ?_
  refine lv_ldc2 (v := 96) hx hb hown kw2 dX9_spelt_16 ?_
  refine lv_lsub hx hb dX9_spelt_19 ?_
  refine lv_lmul hx hb dX9_spelt_20 ?_
  refine lv_iload_n hx hb dX9_spelt_21 rfl (lv_at hl 2 rfl) ?_
  refine lv_i2l (v := p2.toInt64) hx hb dX9_spelt_22 rfl ?_
  refine lv_ladd hx hb dX9_spelt_23 ?_
  refine lv_ldc2 (v := 96) hx hb hown kw2 dX9_spelt_24 ?_
  refine lv_lsub hx hb dX9_spelt_27 ?_
  obtain ⟨x5_1, ex5_1, h⟩ := bd_some h
  refine rd_topl ex5_1 ?_
  refine lv_lstore (lv' := [(5, .long x5_1), (0, .int p0), (1, .int p1), (2, .int p2), (3, .int p3), (4, .int p4)]) hx hb dX9_spelt_28 hl (by decide) rfl (fun ls hl => ?_)
  refine lv_iload_n hx hb dX9_spelt_30 rfl (lv_at hl 4 rfl) ?_
  refine lv_if_le (tgt := 62) hx hb dX9_spelt_31 (by decide) (fun c_2 => ?_) (fun c_2 => ?_)
  · replace h := it_pos h c_2
    refine lv_lload hx hb dX9_spelt_62 (lv_at hl 0 rfl) ?_
    obtain rfl := inj1 h
    exact hret dX9_spelt_64 hP hD hS
  · replace h := it_neg h c_2
    refine lv_ldc2 (v := 27) hx hb hown kw1 dX9_spelt_34 ?_
    refine lv_ldc2 (v := 27) hx hb hown kw1 dX9_spelt_37 ?_
    refine lv_lload hx hb dX9_spelt_40 (lv_at hl 0 rfl) ?_
    refine lv_lmul hx hb dX9_spelt_42 ?_
    refine lv_iload_n hx hb dX9_spelt_43 rfl (lv_at hl 4 rfl) ?_
    refine lv_i2l (v := p3.toInt64) hx hb dX9_spelt_44 rfl ?_
    refine lv_ladd hx hb dX9_spelt_45 ?_
    refine lv_ldc2 (v := 96) hx hb hown kw2 dX9_spelt_46 ?_
    refine lv_lsub hx hb dX9_spelt_49 ?_
    refine lv_lmul hx hb dX9_spelt_50 ?_
    refine lv_iload hx hb dX9_spelt_51 (lv_at hl 5 rfl) ?_
    refine lv_i2l (v := p4.toInt64) hx hb dX9_spelt_53 rfl ?_
    refine lv_ladd hx hb dX9_spelt_54 ?_
    refine lv_ldc2 (v := 96) hx hb hown kw2 dX9_spelt_55 ?_
    refine lv_lsub hx hb dX9_spelt_58 ?_
    refine lv_goto (tgt := 64) hx hb dX9_spelt_59 (by decide) ?_
    obtain rfl := inj1 h
    exact hret dX9_spelt_64 hP hD hS
theorem in_X9_isWord_X9 : ∀ w ∈ wsX90, w ∈ wsX9_isWord := by decide +kernel
def f_X9_isWord (v_kind : Int32) (v_word : Int64) (p1 : Int64) : Option (Int32) := if v_kind = (2 : Int32) then if (lg_cmp v_word p1) = 0 then some (1 : Int32) else some (0 : Int32) else some (0 : Int32)
set_option maxHeartbeats 4000000 in
set_option maxRecDepth 100000 in
theorem c_X9_isWord (l : Launch) (D : va_G) (cI cZ cP : ClassId) (a_this : Nat) (a_tape : Nat) (a_now : Nat) (a_read : Nat) (a_kept : Nat) (a_snaps : Nat) (a_before : Nat) (a_live : Nat) (a_other : Nat) (a_isKept : Nat) (a_waysOf : Nat) (a_sought : Nat) (a_starterRow : Nat) (a_wantedRow : Nat) (a_order : Nat) (v_thrown : Int32) (v_taped : Int32) (v_size : Int32) (v_to : Int32) (v_from : Int32) (v_kind : Int32) (v_number : Int32) (v_fault : Int32) (v_place : Int32) (v_word : Int64) (v_snapMany : Int32) (v_starterMany : Int32) (v_perfectMany : Int32) (v_wanted : Int32) (v_seed : Int32) (v_tape : Nat → Int32) (v_now : Nat → Int32) (v_read : Nat → Int32) (v_kept : Nat → Int32) (v_snaps : Nat → Int32) (v_before : Nat → Int32) (v_live : Nat → Int32) (v_other : Nat → Int32) (v_isKept : Nat → Int32) (v_waysOf : Nat → Int32) (v_sought : Nat → Int32) (v_starterRow : Nat → Int32) (v_wantedRow : Nat → Int32) (v_order : Nat → Int32) (p1 : Int64) (r : Int32) (h : f_X9_isWord v_kind v_word p1 = some r) : rd_I l yX9_isWord wsX9_isWord { frames := 0, cells := 0, slots := 0, locals := 0 } [.ref a_this, .long p1] D (tyA cI cZ cP) (wd_X9 cI cZ cP a_this a_tape a_now a_read a_kept a_snaps a_before a_live a_other a_isKept a_waysOf a_sought a_starterRow a_wantedRow a_order v_thrown v_taped v_size v_to v_from v_kind v_number v_fault v_place v_word v_snapMany v_starterMany v_perfectMany v_wanted v_seed v_tape v_now v_read v_kept v_snaps v_before v_live v_other v_isKept v_waysOf v_sought v_starterRow v_wantedRow v_order) (wd_X9 cI cZ cP a_this a_tape a_now a_read a_kept a_snaps a_before a_live a_other a_isKept a_waysOf a_sought a_starterRow a_wantedRow a_order v_thrown v_taped v_size v_to v_from v_kind v_number v_fault v_place v_word v_snapMany v_starterMany v_perfectMany v_wanted v_seed v_tape v_now v_read v_kept v_snaps v_before v_live v_other v_isKept v_waysOf v_sought v_starterRow v_wantedRow v_order) r := by
  unfold f_X9_isWord at h
  refine rd_enterZ (cc := cX9_isWord) (maxL := 3) (by decide) rfl (Nat.le_of_ble_eq_true rfl) ?_
  intro p e s m args below meth c A Q ls hx hb hml hown hts hA hK hP hD hS hl hret
  have hl : lv_has ls 3 [(0, .ref a_this), (1, .long p1)] := hl
  have kw1 := hts (.fieldLink RX9 31 "RoundDaysModel" "kind" "I") (List.mem_of_getElem? (i := 1) rfl)
  have kw2 := hts (.fieldLink RX9 41 "RoundDaysModel" "word" "J") (List.mem_of_getElem? (i := 2) rfl)
  refine lv_aload_n hx hb dX9_isWord_0 rfl (lv_at hl 0 rfl) ?_
  refine va_get (D := D) (ci := 9) (v := .int v_kind) (C := RX9) (T := TX9) (N := 29) hx hb hts in_X9_isWord_X9 hown hK hP 0 rfl rfl 6 (by decide) kw1 (fun _ h9 => h9) rfl dX9_isWord_1 ?_
  refine lv_iconst (v := 2) hx hb dX9_isWord_4 (by decide) ?_
  refine lv_icmp_ne (tgt := 21) hx hb dX9_isWord_5 (by decide) (fun c_1 => ?_) (fun c_1 => ?_)
  · replace h := it_neg h c_1
    refine lv_iconst (v := 0) hx hb dX9_isWord_21 (by decide) ?_
    obtain rfl := inj1 h
    exact hret (by decide) dX9_isWord_22 hP hD hS
  · replace h := it_pos h c_1
    refine lv_aload_n hx hb dX9_isWord_8 rfl (lv_at hl 0 rfl) ?_
    refine va_get (D := D) (ci := 9) (v := .long v_word) (C := RX9) (T := TX9) (N := 29) hx hb hts in_X9_isWord_X9 hown hK hP 0 rfl rfl 10 (by decide) kw2 (fun _ h9 => h9) rfl dX9_isWord_9 ?_
    refine lv_lload_n hx hb dX9_isWord_12 rfl (lv_at hl 1 rfl) ?_
    refine W.lcmp hx hb dX9_isWord_13 ?_
    refine lv_if_ne (tgt := 21) hx hb dX9_isWord_14 (by decide) (fun c_2 => ?_) (fun c_2 => ?_)
    · replace h := it_neg h c_2
      refine lv_iconst (v := 0) hx hb dX9_isWord_21 (by decide) ?_
      obtain rfl := inj1 h
      exact hret (by decide) dX9_isWord_22 hP hD hS
    · replace h := it_pos h c_2
      refine lv_iconst (v := 1) hx hb dX9_isWord_17 (by decide) ?_
      refine lv_goto (tgt := 22) hx hb dX9_isWord_18 (by decide) ?_
      obtain rfl := inj1 h
      exact hret (by decide) dX9_isWord_22 hP hD hS
theorem in_X9_bad_X9 : ∀ w ∈ wsX90, w ∈ wsX9_bad := by decide +kernel
def f_X9_bad_J14 (v_from : Int32) (v_kind : Int32) (p1 : Int32) : Int32 × Int32 × Int32 → Option (Int32 × Int32 × Int32) := fun st => match st with | (s1, v_fault, v_place) => some ((0 : Int32), s1, v_from)
def f_X9_bad (v_from : Int32) (v_kind : Int32) (v_fault : Int32) (v_place : Int32) (p1 : Int32) : Option (Int32 × Int32 × Int32) := if v_kind = (1 : Int32) then f_X9_bad_J14 v_from v_kind p1 ((1 : Int32), v_fault, v_place) else f_X9_bad_J14 v_from v_kind p1 (p1, v_fault, v_place)
set_option maxHeartbeats 4000000 in
set_option maxRecDepth 100000 in
theorem c_X9_bad (l : Launch) (D : va_G) (cI cZ cP : ClassId) (a_this : Nat) (a_tape : Nat) (a_now : Nat) (a_read : Nat) (a_kept : Nat) (a_snaps : Nat) (a_before : Nat) (a_live : Nat) (a_other : Nat) (a_isKept : Nat) (a_waysOf : Nat) (a_sought : Nat) (a_starterRow : Nat) (a_wantedRow : Nat) (a_order : Nat) (v_thrown : Int32) (v_taped : Int32) (v_size : Int32) (v_to : Int32) (v_from : Int32) (v_kind : Int32) (v_number : Int32) (v_fault : Int32) (v_place : Int32) (v_word : Int64) (v_snapMany : Int32) (v_starterMany : Int32) (v_perfectMany : Int32) (v_wanted : Int32) (v_seed : Int32) (v_tape : Nat → Int32) (v_now : Nat → Int32) (v_read : Nat → Int32) (v_kept : Nat → Int32) (v_snaps : Nat → Int32) (v_before : Nat → Int32) (v_live : Nat → Int32) (v_other : Nat → Int32) (v_isKept : Nat → Int32) (v_waysOf : Nat → Int32) (v_sought : Nat → Int32) (v_starterRow : Nat → Int32) (v_wantedRow : Nat → Int32) (v_order : Nat → Int32) (p1 : Int32) (r : Int32) (nv_fault : Int32) (nv_place : Int32) (h : f_X9_bad v_from v_kind v_fault v_place p1 = some (r, nv_fault, nv_place)) : rd_I l yX9_bad wsX9_bad { frames := 0, cells := 0, slots := 0, locals := 0 } [.ref a_this, .int p1] D (tyA cI cZ cP) (wd_X9 cI cZ cP a_this a_tape a_now a_read a_kept a_snaps a_before a_live a_other a_isKept a_waysOf a_sought a_starterRow a_wantedRow a_order v_thrown v_taped v_size v_to v_from v_kind v_number v_fault v_place v_word v_snapMany v_starterMany v_perfectMany v_wanted v_seed v_tape v_now v_read v_kept v_snaps v_before v_live v_other v_isKept v_waysOf v_sought v_starterRow v_wantedRow v_order) (wd_X9 cI cZ cP a_this a_tape a_now a_read a_kept a_snaps a_before a_live a_other a_isKept a_waysOf a_sought a_starterRow a_wantedRow a_order v_thrown v_taped v_size v_to v_from v_kind v_number nv_fault nv_place v_word v_snapMany v_starterMany v_perfectMany v_wanted v_seed v_tape v_now v_read v_kept v_snaps v_before v_live v_other v_isKept v_waysOf v_sought v_starterRow v_wantedRow v_order) r := by
  unfold f_X9_bad at h
  refine rd_enterZ (cc := cX9_bad) (maxL := 2) (by decide) rfl (Nat.le_of_ble_eq_true rfl) ?_
  intro p e s m args below meth c A Q ls hx hb hml hown hts hA hK hP hD hS hl hret
  have hl : lv_has ls 2 [(0, .ref a_this), (1, .int p1)] := hl
  have kw1 := hts (.fieldLink RX9 31 "RoundDaysModel" "kind" "I") (List.mem_of_getElem? (i := 1) rfl)
  have kw2 := hts (.fieldLink RX9 56 "RoundDaysModel" "fault" "I") (List.mem_of_getElem? (i := 2) rfl)
  have kw3 := hts (.fieldLink RX9 28 "RoundDaysModel" "from" "I") (List.mem_of_getElem? (i := 3) rfl)
  have kw4 := hts (.fieldLink RX9 59 "RoundDaysModel" "place" "I") (List.mem_of_getElem? (i := 4) rfl)
  have w14 : ∀ (s1 : Int32) (v_fault : Int32) (v_place : Int32), f_X9_bad_J14 v_from v_kind p1 (s1, v_fault, v_place) = some (r, nv_fault, nv_place) → ∀ (H : Heap) (locs : List Loc) (ls : Array Slot), va_P D vwCl (wd_X9 cI cZ cP a_this a_tape a_now a_read a_kept a_snaps a_before a_live a_other a_isKept a_waysOf a_sought a_starterRow a_wantedRow a_order v_thrown v_taped v_size v_to v_from v_kind v_number v_fault v_place v_word v_snapMany v_starterMany v_perfectMany v_wanted v_seed v_tape v_now v_read v_kept v_snaps v_before v_live v_other v_isKept v_waysOf v_sought v_starterRow v_wantedRow v_order) H → va_D A (wd_X9 cI cZ cP a_this a_tape a_now a_read a_kept a_snaps a_before a_live a_other a_isKept a_waysOf a_sought a_starterRow a_wantedRow a_order v_thrown v_taped v_size v_to v_from v_kind v_number v_fault v_place v_word v_snapMany v_starterMany v_perfectMany v_wanted v_seed v_tape v_now v_read v_kept v_snaps v_before v_live v_other v_isKept v_waysOf v_sought v_starterRow v_wantedRow v_order) → va_S A s.heap H locs → lv_has ls 2 [(0, .ref a_this)] → W p l e { frames := 0, cells := 0, slots := 0, locals := 0 } s m args below meth c H locs 0 0 Q (F0 m 14 ls [.int s1, .ref a_this]) := by
    intro  s1 v_fault v_place h H locs ls hP hD hS hl
    replace h : (some ((0 : Int32), s1, v_from)) = some (r, nv_fault, nv_place) := h
    refine rd_put (W1 := wd_X9 cI cZ cP a_this a_tape a_now a_read a_kept a_snaps a_before a_live a_other a_isKept a_waysOf a_sought a_starterRow a_wantedRow a_order v_thrown v_taped v_size v_to v_from v_kind v_number s1 v_place v_word v_snapMany v_starterMany v_perfectMany v_wanted v_seed v_tape v_now v_read v_kept v_snaps v_before v_live v_other v_isKept v_waysOf v_sought v_starterRow v_wantedRow v_order) (C := RX9) (T := TX9) (N := 29) (ci := 9) hx hb hts in_X9_bad_X9 tyX9 tyX9_ok nmX9 hown hK hP hD hS 0 rfl rfl 8 (by decide) kw2 (fun _ h9 => h9) rfl rfl rfl (Nat.le_of_ble_eq_true rfl) rfl dX9_bad_14 (fun H locs hP hD hS => ?_)
    refine lv_aload_n hx hb dX9_bad_17 rfl (lv_at hl 0 rfl) ?_
    refine lv_aload_n hx hb dX9_bad_18 rfl (lv_at hl 0 rfl) ?_
    refine va_get (D := D) (ci := 9) (v := .int v_from) (C := RX9) (T := TX9) (N := 29) hx hb hts in_X9_bad_X9 hown hK hP 0 rfl rfl 5 (by decide) kw3 (fun _ h9 => h9) rfl dX9_bad_19 ?_
    refine rd_put (W1 := wd_X9 cI cZ cP a_this a_tape a_now a_read a_kept a_snaps a_before a_live a_other a_isKept a_waysOf a_sought a_starterRow a_wantedRow a_order v_thrown v_taped v_size v_to v_from v_kind v_number s1 v_from v_word v_snapMany v_starterMany v_perfectMany v_wanted v_seed v_tape v_now v_read v_kept v_snaps v_before v_live v_other v_isKept v_waysOf v_sought v_starterRow v_wantedRow v_order) (C := RX9) (T := TX9) (N := 29) (ci := 9) hx hb hts in_X9_bad_X9 tyX9 tyX9_ok nmX9 hown hK hP hD hS 0 rfl rfl 9 (by decide) kw4 (fun _ h9 => h9) rfl rfl rfl (Nat.le_of_ble_eq_true rfl) rfl dX9_bad_22 (fun H locs hP hD hS => ?_)
    refine lv_iconst (v := 0) hx hb dX9_bad_25 (by decide) ?_
    obtain ⟨rfl, rfl, rfl⟩ := inj3 h
    exact hret (by decide) dX9_bad_26 hP hD hS
  refine lv_aload_n hx hb dX9_bad_0 rfl (lv_at hl 0 rfl) ?_
  refine lv_aload_n hx hb dX9_bad_1 rfl (lv_at hl 0 rfl) ?_
  refine va_get (D := D) (ci := 9) (v := .int v_kind) (C := RX9) (T := TX9) (N := 29) hx hb hts in_X9_bad_X9 hown hK hP 0 rfl rfl 6 (by decide) kw1 (fun _ h9 => h9) rfl dX9_bad_2 ?_
  refine lv_iconst (v := 1) hx hb dX9_bad_5 (by decide) ?_
  refine lv_icmp_ne (tgt := 13) hx hb dX9_bad_6 (by decide) (fun c_1 => ?_) (fun c_1 => ?_)
  · replace h := it_neg h c_1
    refine lv_iload_n hx hb dX9_bad_13 rfl (lv_at hl 1 rfl) ?_
    exact w14 p1 v_fault v_place h _ _ _ hP hD hS (lv_sub hl [0] rfl)
  · replace h := it_pos h c_1
    refine lv_iconst (v := 1) hx hb dX9_bad_9 (by decide) ?_
    refine lv_goto (tgt := 14) hx hb dX9_bad_10 (by decide) ?_
    exact w14 (1 : Int32) v_fault v_place h _ _ _ hP hD hS (lv_sub hl [0] rfl)
def f_X9_copy_L3 (n_p0 : Nat) (n_p2 : Nat) (v_p0 : Nat → Int32) (p1 : Int32) (p3 : Int32) (self : Int32 × (Nat → Int32) → Option ((Nat → Int32))) : Int32 × (Nat → Int32) → Option ((Nat → Int32)) := fun st => match st with | (x4, v_p2) => if (184 : Int32) ≤ x4 then some v_p2 else if inb (p1 + x4) n_p0 then if inb (p3 + x4) n_p2 then bd (upd v_p2 (p3 + x4).toNatClampNeg (v_p0 (p1 + x4).toNatClampNeg)) (fun v_p2_4 => bd (x4 + (1 : Int32)) (fun x4_5 => self (x4_5, v_p2_4))) else none else none
def f_X9_copy (n_p0 : Nat) (n_p2 : Nat) (v_p0 : Nat → Int32) (v_p2 : Nat → Int32) (p1 : Int32) (p3 : Int32) : Option ((Nat → Int32)) := lp (f_X9_copy_L3 n_p0 n_p2 v_p0 p1 p3) 20000 ((0 : Int32), v_p2)
set_option maxHeartbeats 4000000 in
set_option maxRecDepth 100000 in
theorem c_X9_copy (l : Launch) (D : va_G) (cI cZ cP : ClassId) (a_p0 : Nat) (a_p2 : Nat) (n_p0 : Nat) (n_p2 : Nat) (v_p0 : Nat → Int32) (v_p2 : Nat → Int32) (p1 : Int32) (p3 : Int32) (nv_p2 : Nat → Int32) (h : f_X9_copy n_p0 n_p2 v_p0 v_p2 p1 p3 = some nv_p2) : rd_V l yX9_copy wsX9_copy { frames := 0, cells := 0, slots := 0, locals := 0 } [.ref a_p0, .int p1, .ref a_p2, .int p3] D (tyA cI cZ cP) ((wd_I cI cZ cP a_p0 n_p0 v_p0) ++ (wd_I cI cZ cP a_p2 n_p2 v_p2)) ((wd_I cI cZ cP a_p0 n_p0 v_p0) ++ (wd_I cI cZ cP a_p2 n_p2 nv_p2)) := by
  unfold f_X9_copy at h
  refine rd_enterV (cc := cX9_copy) (maxL := 5) (by decide) rfl (Nat.le_of_ble_eq_true rfl) ?_
  intro p e s m args below meth c A Q ls hx hb hml hown hts hA hK hP hD hS hl hret
  have hl : lv_has ls 5 [(0, .ref a_p0), (1, .int p1), (2, .ref a_p2), (3, .int p3)] := hl
  have w3 : ∀ n : Nat, ∀ (x4 : Int32) (v_p2 : Nat → Int32), lp (f_X9_copy_L3 n_p0 n_p2 v_p0 p1 p3) n (x4, v_p2) = some nv_p2 → ∀ (H : Heap) (locs : List Loc) (ls : Array Slot), va_P D vwCl ((wd_I cI cZ cP a_p0 n_p0 v_p0) ++ (wd_I cI cZ cP a_p2 n_p2 v_p2)) H → va_D A ((wd_I cI cZ cP a_p0 n_p0 v_p0) ++ (wd_I cI cZ cP a_p2 n_p2 v_p2)) → va_S A s.heap H locs → lv_has ls 5 [(0, .ref a_p0), (1, .int p1), (2, .ref a_p2), (3, .int p3), (4, .int x4)] → W p l e { frames := 0, cells := 0, slots := 0, locals := 0 } s m args below meth c H locs 0 0 Q (F0 m 3 ls []) := by
    refine fun n x4 v_p2 h => lp_walk (b := f_X9_copy_L3 n_p0 n_p2 v_p0 p1 p3) (r := nv_p2) (P := fun st => match st with | (x4, v_p2) => ∀ (H : Heap) (locs : List Loc) (ls : Array Slot), va_P D vwCl ((wd_I cI cZ cP a_p0 n_p0 v_p0) ++ (wd_I cI cZ cP a_p2 n_p2 v_p2)) H → va_D A ((wd_I cI cZ cP a_p0 n_p0 v_p0) ++ (wd_I cI cZ cP a_p2 n_p2 v_p2)) → va_S A s.heap H locs → lv_has ls 5 [(0, .ref a_p0), (1, .int p1), (2, .ref a_p2), (3, .int p3), (4, .int x4)] → W p l e { frames := 0, cells := 0, slots := 0, locals := 0 } s m args below meth c H locs 0 0 Q (F0 m 3 ls [])) (fun self hself0 st h => ?_) n (x4, v_p2) h
    obtain ⟨x4, v_p2⟩ := st
    have hself : ∀ (x4 : Int32) (v_p2 : Nat → Int32), self (x4, v_p2) = some nv_p2 → ∀ (H : Heap) (locs : List Loc) (ls : Array Slot), va_P D vwCl ((wd_I cI cZ cP a_p0 n_p0 v_p0) ++ (wd_I cI cZ cP a_p2 n_p2 v_p2)) H → va_D A ((wd_I cI cZ cP a_p0 n_p0 v_p0) ++ (wd_I cI cZ cP a_p2 n_p2 v_p2)) → va_S A s.heap H locs → lv_has ls 5 [(0, .ref a_p0), (1, .int p1), (2, .ref a_p2), (3, .int p3), (4, .int x4)] → W p l e { frames := 0, cells := 0, slots := 0, locals := 0 } s m args below meth c H locs 0 0 Q (F0 m 3 ls []) := fun x4 v_p2 h => hself0 (x4, v_p2) h
    clear hself0
    intro H locs ls hP hD hS hl
    replace h : (if (184 : Int32) ≤ x4 then some v_p2 else if inb (p1 + x4) n_p0 then if inb (p3 + x4) n_p2 then bd (upd v_p2 (p3 + x4).toNatClampNeg (v_p0 (p1 + x4).toNatClampNeg)) (fun v_p2_4 => bd (x4 + (1 : Int32)) (fun x4_5 => self (x4_5, v_p2_4))) else none else none) = some nv_p2 := h
    refine lv_iload hx hb dX9_copy_3 (lv_at hl 4 rfl) ?_
    refine lv_sipush (v := 184) hx hb dX9_copy_5 (by decide) ?_
    refine lv_icmp_ge (tgt := 29) hx hb dX9_copy_8 (by decide) (fun c_1 => ?_) (fun c_1 => ?_)
    · replace h := it_pos h c_1
      obtain rfl := inj1 h
      exact hret dX9_copy_29 hP hD hS
    · replace h := it_neg h c_1
      refine lv_aload_n hx hb dX9_copy_11 rfl (lv_at hl 2 rfl) ?_
      refine lv_iload_n hx hb dX9_copy_12 rfl (lv_at hl 3 rfl) ?_
      refine lv_iload hx hb dX9_copy_13 (lv_at hl 4 rfl) ?_
      refine lv_iadd hx hb dX9_copy_15 ?_
      refine lv_aload_n hx hb dX9_copy_16 rfl (lv_at hl 0 rfl) ?_
      refine lv_iload_n hx hb dX9_copy_17 rfl (lv_at hl 1 rfl) ?_
      refine lv_iload hx hb dX9_copy_18 (lv_at hl 4 rfl) ?_
      refine lv_iadd hx hb dX9_copy_20 ?_
      obtain ⟨hi_2, h⟩ := gd_some h
      refine va_iald hx hb hK hP 0 0 rfl rfl (inb_in hi_2) dX9_copy_21 ?_
      obtain ⟨hi_3, h⟩ := gd_some h
      obtain ⟨v_p2_4, ev_p2_4, h⟩ := bd_some h
      refine rd_iast (W1 := (wd_I cI cZ cP a_p0 n_p0 v_p0) ++ (wd_I cI cZ cP a_p2 n_p2 v_p2_4)) hx hb hK hP hD hS 1 0 rfl rfl hi_3 ev_p2_4 rfl dX9_copy_22 (fun H locs hP hD hS => ?_)
      obtain ⟨x4_5, ex4_5, h⟩ := bd_some h
      refine lv_iinc (v := x4_5) (lv' := [(4, .int x4_5), (0, .ref a_p0), (1, .int p1), (2, .ref a_p2), (3, .int p3)]) hx hb dX9_copy_23 hl (k := 4) rfl (by rw [ex4_5]; rfl) (by decide) rfl (fun ls hl => ?_)
      refine lv_goto (tgt := 3) hx hb dX9_copy_26 (by decide) ?_
      exact hself x4_5 v_p2_4 h _ _ _ hP hD hS (lv_sub hl [1, 2, 3, 4, 0] rfl)
  refine lv_iconst (v := 0) hx hb dX9_copy_0 (by decide) ?_
  refine lv_istore (lv' := [(4, .int (0 : Int32)), (0, .ref a_p0), (1, .int p1), (2, .ref a_p2), (3, .int p3)]) hx hb dX9_copy_1 hl (by decide) rfl (fun ls hl => ?_)
  exact w3 20000 (0 : Int32) v_p2 h _ _ _ hP hD hS (lv_sub hl [1, 2, 3, 4, 0] rfl)
def f_X9_meets (n_p0 : Nat) (v_p0 : Nat → Int32) (p1 : Int32) (p2 : Int32) : Option (Int32) := if inb (((2 : Int32) + ((14 : Int32) * p1)) + p2) n_p0 then some (v_p0 (((2 : Int32) + ((14 : Int32) * p1)) + p2).toNatClampNeg) else none
set_option maxHeartbeats 4000000 in
set_option maxRecDepth 100000 in
theorem c_X9_meets (l : Launch) (D : va_G) (cI cZ cP : ClassId) (a_p0 : Nat) (n_p0 : Nat) (v_p0 : Nat → Int32) (p1 : Int32) (p2 : Int32) (r : Int32) (h : f_X9_meets n_p0 v_p0 p1 p2 = some r) : rd_I l yX9_meets wsX9_meets { frames := 0, cells := 0, slots := 0, locals := 0 } [.ref a_p0, .int p1, .int p2] D (tyA cI cZ cP) (wd_I cI cZ cP a_p0 n_p0 v_p0) (wd_I cI cZ cP a_p0 n_p0 v_p0) r := by
  unfold f_X9_meets at h
  refine rd_enterI (cc := cX9_meets) (maxL := 3) (by decide) rfl (Nat.le_of_ble_eq_true rfl) ?_
  intro p e s m args below meth c A Q ls hx hb hml hown hts hA hK hP hD hS hl hret
  have hl : lv_has ls 3 [(0, .ref a_p0), (1, .int p1), (2, .int p2)] := hl
  refine lv_aload_n hx hb dX9_meets_0 rfl (lv_at hl 0 rfl) ?_
  refine lv_iconst (v := 2) hx hb dX9_meets_1 (by decide) ?_
  refine lv_bipush (v := 14) hx hb dX9_meets_2 (by decide) ?_
  refine lv_iload_n hx hb dX9_meets_4 rfl (lv_at hl 1 rfl) ?_
  refine lv_imul hx hb dX9_meets_5 ?_
  refine lv_iadd hx hb dX9_meets_6 ?_
  refine lv_iload_n hx hb dX9_meets_7 rfl (lv_at hl 2 rfl) ?_
  refine lv_iadd hx hb dX9_meets_8 ?_
  obtain ⟨hi_1, h⟩ := gd_some h
  refine va_iald hx hb hK hP 0 0 rfl rfl (inb_in hi_1) dX9_meets_9 ?_
  obtain rfl := inj1 h
  exact hret dX9_meets_10 hP hD hS
def f_X9_pairs (n_p0 : Nat) (v_p0 : Nat → Int32) (p1 : Int32) (p2 : Int32) (p3 : Int32) : Option ((Nat → Int32)) := if inb (((2 : Int32) + ((14 : Int32) * p1)) + p2) n_p0 then bd (upd v_p0 (((2 : Int32) + ((14 : Int32) * p1)) + p2).toNatClampNeg p3) (fun v_p0_2 => if inb (((2 : Int32) + ((14 : Int32) * p1)) + p3) n_p0 then bd (upd v_p0_2 (((2 : Int32) + ((14 : Int32) * p1)) + p3).toNatClampNeg p2) (fun v_p0_4 => some v_p0_4) else none) else none
set_option maxHeartbeats 4000000 in
set_option maxRecDepth 100000 in
theorem c_X9_pairs (l : Launch) (D : va_G) (cI cZ cP : ClassId) (a_p0 : Nat) (n_p0 : Nat) (v_p0 : Nat → Int32) (p1 : Int32) (p2 : Int32) (p3 : Int32) (nv_p0 : Nat → Int32) (h : f_X9_pairs n_p0 v_p0 p1 p2 p3 = some nv_p0) : rd_V l yX9_pairs wsX9_pairs { frames := 0, cells := 0, slots := 0, locals := 0 } [.ref a_p0, .int p1, .int p2, .int p3] D (tyA cI cZ cP) (wd_I cI cZ cP a_p0 n_p0 v_p0) (wd_I cI cZ cP a_p0 n_p0 nv_p0) := by
  unfold f_X9_pairs at h
  refine rd_enterV (cc := cX9_pairs) (maxL := 4) (by decide) rfl (Nat.le_of_ble_eq_true rfl) ?_
  intro p e s m args below meth c A Q ls hx hb hml hown hts hA hK hP hD hS hl hret
  have hl : lv_has ls 4 [(0, .ref a_p0), (1, .int p1), (2, .int p2), (3, .int p3)] := hl
  refine lv_aload_n hx hb dX9_pairs_0 rfl (lv_at hl 0 rfl) ?_
  refine lv_iconst (v := 2) hx hb dX9_pairs_1 (by decide) ?_
  refine lv_bipush (v := 14) hx hb dX9_pairs_2 (by decide) ?_
  refine lv_iload_n hx hb dX9_pairs_4 rfl (lv_at hl 1 rfl) ?_
  refine lv_imul hx hb dX9_pairs_5 ?_
  refine lv_iadd hx hb dX9_pairs_6 ?_
  refine lv_iload_n hx hb dX9_pairs_7 rfl (lv_at hl 2 rfl) ?_
  refine lv_iadd hx hb dX9_pairs_8 ?_
  refine lv_iload_n hx hb dX9_pairs_9 rfl (lv_at hl 3 rfl) ?_
  obtain ⟨hi_1, h⟩ := gd_some h
  obtain ⟨v_p0_2, ev_p0_2, h⟩ := bd_some h
  refine rd_iast (W1 := wd_I cI cZ cP a_p0 n_p0 v_p0_2) hx hb hK hP hD hS 0 0 rfl rfl hi_1 ev_p0_2 rfl dX9_pairs_10 (fun H locs hP hD hS => ?_)
  refine lv_aload_n hx hb dX9_pairs_11 rfl (lv_at hl 0 rfl) ?_
  refine lv_iconst (v := 2) hx hb dX9_pairs_12 (by decide) ?_
  refine lv_bipush (v := 14) hx hb dX9_pairs_13 (by decide) ?_
  refine lv_iload_n hx hb dX9_pairs_15 rfl (lv_at hl 1 rfl) ?_
  refine lv_imul hx hb dX9_pairs_16 ?_
  refine lv_iadd hx hb dX9_pairs_17 ?_
  refine lv_iload_n hx hb dX9_pairs_18 rfl (lv_at hl 3 rfl) ?_
  refine lv_iadd hx hb dX9_pairs_19 ?_
  refine lv_iload_n hx hb dX9_pairs_20 rfl (lv_at hl 2 rfl) ?_
  obtain ⟨hi_3, h⟩ := gd_some h
  obtain ⟨v_p0_4, ev_p0_4, h⟩ := bd_some h
  refine rd_iast (W1 := wd_I cI cZ cP a_p0 n_p0 v_p0_4) hx hb hK hP hD hS 0 0 rfl rfl hi_3 ev_p0_4 rfl dX9_pairs_21 (fun H locs hP hD hS => ?_)
  obtain rfl := inj1 h
  exact hret dX9_pairs_22 hP hD hS
def f_X9_metOn_L2 (n_p0 : Nat) (v_p0 : Nat → Int32) (p1 : Int32) (p2 : Int32) (self : Int32 → Option (Int32)) : Int32 → Option (Int32) := fun x3 => if inb (1 : Int32) n_p0 then if (v_p0 (1 : Int32).toNatClampNeg) ≤ x3 then some (-1 : Int32) else (f_X9_meets n_p0 v_p0 x3 p1).bind (fun r_3 => if r_3 = p2 then some x3 else bd (x3 + (1 : Int32)) (fun x3_6 => self x3_6)) else none
def f_X9_metOn (n_p0 : Nat) (v_p0 : Nat → Int32) (p1 : Int32) (p2 : Int32) : Option (Int32) := lp (f_X9_metOn_L2 n_p0 v_p0 p1 p2) 20000 (0 : Int32)
set_option maxHeartbeats 4000000 in
set_option maxRecDepth 100000 in
theorem c_X9_metOn (l : Launch) (D : va_G) (cI cZ cP : ClassId) (a_p0 : Nat) (n_p0 : Nat) (v_p0 : Nat → Int32) (p1 : Int32) (p2 : Int32) (r : Int32) (h : f_X9_metOn n_p0 v_p0 p1 p2 = some r) : rd_I l yX9_metOn wsX9_metOn { frames := 1, cells := 0, slots := 0, locals := 22 } [.ref a_p0, .int p1, .int p2] D (tyA cI cZ cP) (wd_I cI cZ cP a_p0 n_p0 v_p0) (wd_I cI cZ cP a_p0 n_p0 v_p0) r := by
  unfold f_X9_metOn at h
  refine rd_enterI (cc := cX9_metOn) (maxL := 4) (by decide) rfl (Nat.le_of_ble_eq_true rfl) ?_
  intro p e s m args below meth c A Q ls hx hb hml hown hts hA hK hP hD hS hl hret
  have hl : lv_has ls 4 [(0, .ref a_p0), (1, .int p1), (2, .int p2)] := hl
  have w2 : ∀ n : Nat, ∀ (x3 : Int32), lp (f_X9_metOn_L2 n_p0 v_p0 p1 p2) n x3 = some r → ∀ (H : Heap) (locs : List Loc) (ls : Array Slot), va_P D vwCl (wd_I cI cZ cP a_p0 n_p0 v_p0) H → va_D A (wd_I cI cZ cP a_p0 n_p0 v_p0) → va_S A s.heap H locs → lv_has ls 4 [(0, .ref a_p0), (1, .int p1), (2, .int p2), (3, .int x3)] → W p l e { frames := 1, cells := 0, slots := 0, locals := 22 } s m args below meth c H locs 0 0 Q (F0 m 2 ls []) := by
    refine fun n x3 h => lp_walk (b := f_X9_metOn_L2 n_p0 v_p0 p1 p2) (r := r) (P := fun x3 => ∀ (H : Heap) (locs : List Loc) (ls : Array Slot), va_P D vwCl (wd_I cI cZ cP a_p0 n_p0 v_p0) H → va_D A (wd_I cI cZ cP a_p0 n_p0 v_p0) → va_S A s.heap H locs → lv_has ls 4 [(0, .ref a_p0), (1, .int p1), (2, .int p2), (3, .int x3)] → W p l e { frames := 1, cells := 0, slots := 0, locals := 22 } s m args below meth c H locs 0 0 Q (F0 m 2 ls [])) (fun self hself0 st h => ?_) n x3 h
    revert h; revert st; intro x3 h
    have hself : ∀ (x3 : Int32), self x3 = some r → ∀ (H : Heap) (locs : List Loc) (ls : Array Slot), va_P D vwCl (wd_I cI cZ cP a_p0 n_p0 v_p0) H → va_D A (wd_I cI cZ cP a_p0 n_p0 v_p0) → va_S A s.heap H locs → lv_has ls 4 [(0, .ref a_p0), (1, .int p1), (2, .int p2), (3, .int x3)] → W p l e { frames := 1, cells := 0, slots := 0, locals := 22 } s m args below meth c H locs 0 0 Q (F0 m 2 ls []) := fun x3 h => hself0 x3 h
    clear hself0
    intro H locs ls hP hD hS hl
    replace h : (if inb (1 : Int32) n_p0 then if (v_p0 (1 : Int32).toNatClampNeg) ≤ x3 then some (-1 : Int32) else (f_X9_meets n_p0 v_p0 x3 p1).bind (fun r_3 => if r_3 = p2 then some x3 else bd (x3 + (1 : Int32)) (fun x3_6 => self x3_6)) else none) = some r := h
    refine lv_iload_n hx hb dX9_metOn_2 rfl (lv_at hl 3 rfl) ?_
    refine lv_aload_n hx hb dX9_metOn_3 rfl (lv_at hl 0 rfl) ?_
    refine lv_iconst (v := 1) hx hb dX9_metOn_4 (by decide) ?_
    obtain ⟨hi_1, h⟩ := gd_some h
    refine va_iald hx hb hK hP 0 0 rfl rfl (inb_in hi_1) dX9_metOn_5 ?_
    refine lv_icmp_ge (tgt := 27) hx hb dX9_metOn_6 (by decide) (fun c_2 => ?_) (fun c_2 => ?_)
    · replace h := it_pos h c_2
      refine lv_iconst (v := -1) hx hb dX9_metOn_27 (by decide) ?_
      obtain rfl := inj1 h
      exact hret dX9_metOn_28 hP hD hS
    · replace h := it_neg h c_2
      refine lv_aload_n hx hb dX9_metOn_9 rfl (lv_at hl 0 rfl) ?_
      refine lv_iload_n hx hb dX9_metOn_10 rfl (lv_at hl 3 rfl) ?_
      refine lv_iload_n hx hb dX9_metOn_11 rfl (lv_at hl 1 rfl) ?_
      obtain ⟨r_3, hc_4, h⟩ := bi_some h
      refine rd_callSi [.ref a_p0, .int x3, .int p1] [] (wr := []) (W1 := wd_I cI cZ cP a_p0 n_p0 v_p0) ⟨hx, hb, hml, hown, hts⟩ (c_X9_meets l D cI cZ cP a_p0 n_p0 v_p0 x3 p1 r_3 hc_4) (va_cwS 3 hts gX9_metOn_X9_meets rfl rfl rfl (by decide +kernel) ⟨Nat.le_of_ble_eq_true rfl, Nat.le_of_ble_eq_true rfl⟩) rfl rfl hl.1 (Nat.le_of_ble_eq_true rfl) dX9_metOn_12 ⟨Nat.zero_le _, Nat.zero_le _⟩ hK hP hD hS hA [0] [] [0] ⟨⟨rfl, rfl, rfl⟩, by decide⟩ (fun H locs hP hD hS => ?_)
      refine lv_iload_n hx hb dX9_metOn_15 rfl (lv_at hl 2 rfl) ?_
      refine lv_icmp_ne (tgt := 21) hx hb dX9_metOn_16 (by decide) (fun c_5 => ?_) (fun c_5 => ?_)
      · replace h := it_neg h c_5
        obtain ⟨x3_6, ex3_6, h⟩ := bd_some h
        refine lv_iinc (v := x3_6) (lv' := [(3, .int x3_6), (0, .ref a_p0), (1, .int p1), (2, .int p2)]) hx hb dX9_metOn_21 hl (k := 3) rfl (by rw [ex3_6]; rfl) (by decide) rfl (fun ls hl => ?_)
        refine lv_goto (tgt := 2) hx hb dX9_metOn_24 (by decide) ?_
        exact hself x3_6 h _ _ _ hP hD hS (lv_sub hl [1, 2, 3, 0] rfl)
      · replace h := it_pos h c_5
        refine lv_iload_n hx hb dX9_metOn_19 rfl (lv_at hl 3 rfl) ?_
        obtain rfl := inj1 h
        exact hret dX9_metOn_20 hP hD hS
  refine lv_iconst (v := 0) hx hb dX9_metOn_0 (by decide) ?_
  refine lv_istore_n (lv' := [(3, .int (0 : Int32)), (0, .ref a_p0), (1, .int p1), (2, .int p2)]) hx hb dX9_metOn_1 rfl hl (by decide) rfl (fun ls hl => ?_)
  exact w2 20000 (0 : Int32) h _ _ _ hP hD hS (lv_sub hl [1, 2, 3, 0] rfl)
theorem in_X9_readTeams_X9 : ∀ w ∈ wsX90, w ∈ wsX9_readTeams := by decide +kernel
def f_X9_readTeams (v_size : Int32) (v_to : Int32) (v_from : Int32) (v_kind : Int32) (v_number : Int32) (v_fault : Int32) (v_place : Int32) (v_word : Int64) (v_tape : Nat → Int32) (v_read : Nat → Int32) : Option (Int32 × Int32 × Int32 × Int32 × Int32 × Int32 × Int32 × Int64 × (Nat → Int32)) := (f_X9_next v_size v_to v_from v_kind v_number v_word v_tape).bind (fun t => match t with | (v_to_1, v_from_2, v_kind_3, v_number_4, v_word_5) => if v_kind_3 = (3 : Int32) then (f_X9_isIn v_number_4 (4 : Int32) (14 : Int32)).bind (fun r_8 => if r_8 = 0 then (f_X9_bad v_from_2 v_kind_3 v_fault v_place (2 : Int32)).bind (fun t => match t with | (r_11, v_fault_12, v_place_13) => if (r_11 = 0 ∨ r_11 = 1) then some (r_11, v_to_1, v_from_2, v_kind_3, v_number_4, v_fault_12, v_place_13, v_word_5, v_read) else none) else if (v_number_4 - v_number_4 / (2 : Int32) * (2 : Int32)) = (1 : Int32) then (f_X9_bad v_from_2 v_kind_3 v_fault v_place (2 : Int32)).bind (fun t => match t with | (r_25, v_fault_26, v_place_27) => if (r_25 = 0 ∨ r_25 = 1) then some (r_25, v_to_1, v_from_2, v_kind_3, v_number_4, v_fault_26, v_place_27, v_word_5, v_read) else none) else if inb (0 : Int32) 184 then bd (upd v_read (0 : Int32).toNatClampNeg v_number_4) (fun v_read_18 => (f_X9_next v_size v_to_1 v_from_2 v_kind_3 v_number_4 v_word_5 v_tape).bind (fun t => match t with | (v_to_19, v_from_20, v_kind_21, v_number_22, v_word_23) => some ((1 : Int32), v_to_19, v_from_20, v_kind_21, v_number_22, v_fault, v_place, v_word_23, v_read_18))) else none) else (f_X9_bad v_from_2 v_kind_3 v_fault v_place (1 : Int32)).bind (fun t => match t with | (r_30, v_fault_31, v_place_32) => if (r_30 = 0 ∨ r_30 = 1) then some (r_30, v_to_1, v_from_2, v_kind_3, v_number_4, v_fault_31, v_place_32, v_word_5, v_read) else none))
set_option maxHeartbeats 4000000 in
set_option maxRecDepth 100000 in
theorem c_X9_readTeams (l : Launch) (D : va_G) (cI cZ cP : ClassId) (a_this : Nat) (a_tape : Nat) (a_now : Nat) (a_read : Nat) (a_kept : Nat) (a_snaps : Nat) (a_before : Nat) (a_live : Nat) (a_other : Nat) (a_isKept : Nat) (a_waysOf : Nat) (a_sought : Nat) (a_starterRow : Nat) (a_wantedRow : Nat) (a_order : Nat) (v_thrown : Int32) (v_taped : Int32) (v_size : Int32) (v_to : Int32) (v_from : Int32) (v_kind : Int32) (v_number : Int32) (v_fault : Int32) (v_place : Int32) (v_word : Int64) (v_snapMany : Int32) (v_starterMany : Int32) (v_perfectMany : Int32) (v_wanted : Int32) (v_seed : Int32) (v_tape : Nat → Int32) (v_now : Nat → Int32) (v_read : Nat → Int32) (v_kept : Nat → Int32) (v_snaps : Nat → Int32) (v_before : Nat → Int32) (v_live : Nat → Int32) (v_other : Nat → Int32) (v_isKept : Nat → Int32) (v_waysOf : Nat → Int32) (v_sought : Nat → Int32) (v_starterRow : Nat → Int32) (v_wantedRow : Nat → Int32) (v_order : Nat → Int32) (r : Int32) (nv_to : Int32) (nv_from : Int32) (nv_kind : Int32) (nv_number : Int32) (nv_fault : Int32) (nv_place : Int32) (nv_word : Int64) (nv_read : Nat → Int32) (h : f_X9_readTeams v_size v_to v_from v_kind v_number v_fault v_place v_word v_tape v_read = some (r, nv_to, nv_from, nv_kind, nv_number, nv_fault, nv_place, nv_word, nv_read)) : rd_I l yX9_readTeams wsX9_readTeams { frames := 2, cells := 0, slots := 0, locals := 45 } [.ref a_this] D (tyA cI cZ cP) (wd_X9 cI cZ cP a_this a_tape a_now a_read a_kept a_snaps a_before a_live a_other a_isKept a_waysOf a_sought a_starterRow a_wantedRow a_order v_thrown v_taped v_size v_to v_from v_kind v_number v_fault v_place v_word v_snapMany v_starterMany v_perfectMany v_wanted v_seed v_tape v_now v_read v_kept v_snaps v_before v_live v_other v_isKept v_waysOf v_sought v_starterRow v_wantedRow v_order) (wd_X9 cI cZ cP a_this a_tape a_now a_read a_kept a_snaps a_before a_live a_other a_isKept a_waysOf a_sought a_starterRow a_wantedRow a_order v_thrown v_taped v_size nv_to nv_from nv_kind nv_number nv_fault nv_place nv_word v_snapMany v_starterMany v_perfectMany v_wanted v_seed v_tape v_now nv_read v_kept v_snaps v_before v_live v_other v_isKept v_waysOf v_sought v_starterRow v_wantedRow v_order) r := by
  unfold f_X9_readTeams at h
  refine rd_enterZ (cc := cX9_readTeams) (maxL := 1) (by decide) rfl (Nat.le_of_ble_eq_true rfl) ?_
  intro p e s m args below meth c A Q ls hx hb hml hown hts hA hK hP hD hS hl hret
  have hl : lv_has ls 1 [(0, .ref a_this)] := hl
  have kw1 := hts (.fieldLink RX9 31 "RoundDaysModel" "kind" "I") (List.mem_of_getElem? (i := 1) rfl)
  have kw2 := hts (.fieldLink RX9 45 "RoundDaysModel" "number" "I") (List.mem_of_getElem? (i := 2) rfl)
  have kw3 := hts (.fieldLink RX9 71 "RoundDaysModel" "read" "[I") (List.mem_of_getElem? (i := 3) rfl)
  refine lv_aload_n hx hb dX9_readTeams_0 rfl (lv_at hl 0 rfl) ?_
  obtain ⟨⟨v_to_1, v_from_2, v_kind_3, v_number_4, v_word_5⟩, hc_6, h⟩ := bi_some h
  refine rd_callVv [] [] (wr := []) (W1 := wd_X9 cI cZ cP a_this a_tape a_now a_read a_kept a_snaps a_before a_live a_other a_isKept a_waysOf a_sought a_starterRow a_wantedRow a_order v_thrown v_taped v_size v_to_1 v_from_2 v_kind_3 v_number_4 v_fault v_place v_word_5 v_snapMany v_starterMany v_perfectMany v_wanted v_seed v_tape v_now v_read v_kept v_snaps v_before v_live v_other v_isKept v_waysOf v_sought v_starterRow v_wantedRow v_order) (ci := 9) ⟨hx, hb, hml, hown, hts⟩ (c_X9_next l D cI cZ cP a_this a_tape a_now a_read a_kept a_snaps a_before a_live a_other a_isKept a_waysOf a_sought a_starterRow a_wantedRow a_order v_thrown v_taped v_size v_to v_from v_kind v_number v_fault v_place v_word v_snapMany v_starterMany v_perfectMany v_wanted v_seed v_tape v_now v_read v_kept v_snaps v_before v_live v_other v_isKept v_waysOf v_sought v_starterRow v_wantedRow v_order v_to_1 v_from_2 v_kind_3 v_number_4 v_word_5 hc_6) (cwV 0 hts gX9_readTeams_X9_next rfl rfl rfl (by decide +kernel) ⟨Nat.le_of_ble_eq_true rfl, Nat.le_of_ble_eq_true rfl⟩) rfl rfl hl.1 (Nat.le_of_ble_eq_true rfl) dX9_readTeams_1 ⟨Nat.zero_le _, Nat.zero_le _⟩ hK hP hD hS hA rfl rfl [0, 1, 2, 3, 4, 5, 6, 7, 8, 9, 10, 11, 12, 13, 14] [] [0, 1, 2, 3, 4, 5, 6, 7, 8, 9, 10, 11, 12, 13, 14] ⟨⟨rfl, rfl, rfl⟩, by decide⟩ (fun H locs hP hD hS => ?_)
  refine lv_aload_n hx hb dX9_readTeams_4 rfl (lv_at hl 0 rfl) ?_
  refine va_get (D := D) (ci := 9) (v := .int v_kind_3) (C := RX9) (T := TX9) (N := 29) hx hb hts in_X9_readTeams_X9 hown hK hP 0 rfl rfl 6 (by decide) kw1 (fun _ h9 => h9) rfl dX9_readTeams_5 ?_
  refine lv_iconst (v := 3) hx hb dX9_readTeams_8 (by decide) ?_
  refine lv_icmp_eq (tgt := 18) hx hb dX9_readTeams_9 (by decide) (fun c_7 => ?_) (fun c_7 => ?_)
  · replace h := it_pos h c_7
    refine lv_aload_n hx hb dX9_readTeams_18 rfl (lv_at hl 0 rfl) ?_
    refine va_get (D := D) (ci := 9) (v := .int v_number_4) (C := RX9) (T := TX9) (N := 29) hx hb hts in_X9_readTeams_X9 hown hK hP 0 rfl rfl 7 (by decide) kw2 (fun _ h9 => h9) rfl dX9_readTeams_19 ?_
    refine lv_iconst (v := 4) hx hb dX9_readTeams_22 (by decide) ?_
    refine lv_bipush (v := 14) hx hb dX9_readTeams_23 (by decide) ?_
    obtain ⟨r_8, hc_9, h⟩ := bi_some h
    refine rd_callSi [.int v_number_4, .int (4 : Int32), .int (14 : Int32)] [] (wr := [(a_this, .inr (9, [.int v_thrown, .ref a_tape, .int v_taped, .int v_size, .int v_to_1, .int v_from_2, .int v_kind_3, .int v_number_4, .int v_fault, .int v_place, .long v_word_5, .ref a_now, .ref a_read, .ref a_kept, .ref a_snaps, .ref a_before, .ref a_live, .ref a_other, .ref a_isKept, .int v_snapMany, .ref a_waysOf, .ref a_sought, .ref a_starterRow, .ref a_wantedRow, .int v_starterMany, .int v_perfectMany, .int v_wanted, .ref a_order, .int v_seed])), (a_tape, .inl (cI, 740, .inl v_tape)), (a_now, .inl (cI, 184, .inl v_now)), (a_read, .inl (cI, 184, .inl v_read)), (a_kept, .inl (cI, 368, .inl v_kept)), (a_snaps, .inl (cI, 1472, .inl v_snaps)), (a_before, .inl (cI, 184, .inl v_before)), (a_live, .inl (cI, 184, .inl v_live)), (a_other, .inl (cI, 184, .inl v_other)), (a_isKept, .inl (cZ, 2, .inl v_isKept)), (a_waysOf, .inl (cI, 16384, .inl v_waysOf)), (a_sought, .inl (cI, 14, .inl v_sought)), (a_starterRow, .inl (cI, 14, .inl v_starterRow)), (a_wantedRow, .inl (cI, 14, .inl v_wantedRow)), (a_order, .inl (cI, 13, .inl v_order))]) (W1 := wd_X9 cI cZ cP a_this a_tape a_now a_read a_kept a_snaps a_before a_live a_other a_isKept a_waysOf a_sought a_starterRow a_wantedRow a_order v_thrown v_taped v_size v_to_1 v_from_2 v_kind_3 v_number_4 v_fault v_place v_word_5 v_snapMany v_starterMany v_perfectMany v_wanted v_seed v_tape v_now v_read v_kept v_snaps v_before v_live v_other v_isKept v_waysOf v_sought v_starterRow v_wantedRow v_order) ⟨hx, hb, hml, hown, hts⟩ (c_X9_isIn l D cI cZ cP v_number_4 (4 : Int32) (14 : Int32) r_8 hc_9) (va_cwS 3 hts gX9_readTeams_X9_isIn rfl rfl rfl (by decide +kernel) ⟨Nat.le_of_ble_eq_true rfl, Nat.le_of_ble_eq_true rfl⟩) rfl rfl hl.1 (Nat.le_of_ble_eq_true rfl) dX9_readTeams_25 ⟨Nat.zero_le _, Nat.zero_le _⟩ hK hP hD hS hA [] [0, 1, 2, 3, 4, 5, 6, 7, 8, 9, 10, 11, 12, 13, 14] [0, 1, 2, 3, 4, 5, 6, 7, 8, 9, 10, 11, 12, 13, 14] ⟨⟨rfl, rfl, rfl⟩, by decide⟩ (fun H locs hP hD hS => ?_)
    refine lv_if_eq (tgt := 41) hx hb dX9_readTeams_28 (by decide) (fun c_10 => ?_) (fun c_10 => ?_)
    · replace h := it_pos h c_10
      refine lv_aload_n hx hb dX9_readTeams_41 rfl (lv_at hl 0 rfl) ?_
      refine lv_iconst (v := 2) hx hb dX9_readTeams_42 (by decide) ?_
      obtain ⟨⟨r_11, v_fault_12, v_place_13⟩, hc_14, h⟩ := bi_some h
      refine rd_callVi [.int (2 : Int32)] [] (wr := []) (W1 := wd_X9 cI cZ cP a_this a_tape a_now a_read a_kept a_snaps a_before a_live a_other a_isKept a_waysOf a_sought a_starterRow a_wantedRow a_order v_thrown v_taped v_size v_to_1 v_from_2 v_kind_3 v_number_4 v_fault_12 v_place_13 v_word_5 v_snapMany v_starterMany v_perfectMany v_wanted v_seed v_tape v_now v_read v_kept v_snaps v_before v_live v_other v_isKept v_waysOf v_sought v_starterRow v_wantedRow v_order) (ci := 9) ⟨hx, hb, hml, hown, hts⟩ (c_X9_bad l D cI cZ cP a_this a_tape a_now a_read a_kept a_snaps a_before a_live a_other a_isKept a_waysOf a_sought a_starterRow a_wantedRow a_order v_thrown v_taped v_size v_to_1 v_from_2 v_kind_3 v_number_4 v_fault v_place v_word_5 v_snapMany v_starterMany v_perfectMany v_wanted v_seed v_tape v_now v_read v_kept v_snaps v_before v_live v_other v_isKept v_waysOf v_sought v_starterRow v_wantedRow v_order (2 : Int32) r_11 v_fault_12 v_place_13 hc_14) (cwV 1 hts gX9_readTeams_X9_bad rfl rfl rfl (by decide +kernel) ⟨Nat.le_of_ble_eq_true rfl, Nat.le_of_ble_eq_true rfl⟩) rfl rfl hl.1 (Nat.le_of_ble_eq_true rfl) dX9_readTeams_43 ⟨Nat.zero_le _, Nat.zero_le _⟩ hK hP hD hS hA rfl rfl [0, 1, 2, 3, 4, 5, 6, 7, 8, 9, 10, 11, 12, 13, 14] [] [0, 1, 2, 3, 4, 5, 6, 7, 8, 9, 10, 11, 12, 13, 14] ⟨⟨rfl, rfl, rfl⟩, by decide⟩ (fun H locs hP hD hS => ?_)
      obtain ⟨hz_15, h⟩ := gd_some h
      obtain ⟨rfl, rfl, rfl, rfl, rfl, rfl, rfl, rfl, rfl⟩ := inj9 h
      exact hret hz_15 dX9_readTeams_46 hP hD hS
    · replace h := it_neg h c_10
      refine lv_aload_n hx hb dX9_readTeams_31 rfl (lv_at hl 0 rfl) ?_
      refine va_get (D := D) (ci := 9) (v := .int v_number_4) (C := RX9) (T := TX9) (N := 29) hx hb hts in_X9_readTeams_X9 hown hK hP 0 rfl rfl 7 (by decide) kw2 (fun _ h9 => h9) rfl dX9_readTeams_32 ?_
      refine lv_iconst (v := 2) hx hb dX9_readTeams_35 (by decide) ?_
      refine lv_irem hx hb dX9_readTeams_36 (by decide) ?_
      refine lv_iconst (v := 1) hx hb dX9_readTeams_37 (by decide) ?_
      refine lv_icmp_ne (tgt := 47) hx hb dX9_readTeams_38 (by decide) (fun c_16 => ?_) (fun c_16 => ?_)
      · replace h := it_neg h c_16
        refine lv_aload_n hx hb dX9_readTeams_47 rfl (lv_at hl 0 rfl) ?_
        refine va_get (D := D) (ci := 9) (v := .ref a_read) (C := RX9) (T := TX9) (N := 29) hx hb hts in_X9_readTeams_X9 hown hK hP 0 rfl rfl 12 (by decide) kw3 (fun _ h9 => h9) rfl dX9_readTeams_48 ?_
        refine lv_iconst (v := 0) hx hb dX9_readTeams_51 (by decide) ?_
        refine lv_aload_n hx hb dX9_readTeams_52 rfl (lv_at hl 0 rfl) ?_
        refine va_get (D := D) (ci := 9) (v := .int v_number_4) (C := RX9) (T := TX9) (N := 29) hx hb hts in_X9_readTeams_X9 hown hK hP 0 rfl rfl 7 (by decide) kw2 (fun _ h9 => h9) rfl dX9_readTeams_53 ?_
        obtain ⟨hi_17, h⟩ := gd_some h
        obtain ⟨v_read_18, ev_read_18, h⟩ := bd_some h
        refine rd_iast (W1 := wd_X9 cI cZ cP a_this a_tape a_now a_read a_kept a_snaps a_before a_live a_other a_isKept a_waysOf a_sought a_starterRow a_wantedRow a_order v_thrown v_taped v_size v_to_1 v_from_2 v_kind_3 v_number_4 v_fault v_place v_word_5 v_snapMany v_starterMany v_perfectMany v_wanted v_seed v_tape v_now v_read_18 v_kept v_snaps v_before v_live v_other v_isKept v_waysOf v_sought v_starterRow v_wantedRow v_order) hx hb hK hP hD hS 3 0 rfl rfl hi_17 ev_read_18 rfl dX9_readTeams_56 (fun H locs hP hD hS => ?_)
        refine lv_aload_n hx hb dX9_readTeams_57 rfl (lv_at hl 0 rfl) ?_
        obtain ⟨⟨v_to_19, v_from_20, v_kind_21, v_number_22, v_word_23⟩, hc_24, h⟩ := bi_some h
        refine rd_callVv [] [] (wr := []) (W1 := wd_X9 cI cZ cP a_this a_tape a_now a_read a_kept a_snaps a_before a_live a_other a_isKept a_waysOf a_sought a_starterRow a_wantedRow a_order v_thrown v_taped v_size v_to_19 v_from_20 v_kind_21 v_number_22 v_fault v_place v_word_23 v_snapMany v_starterMany v_perfectMany v_wanted v_seed v_tape v_now v_read_18 v_kept v_snaps v_before v_live v_other v_isKept v_waysOf v_sought v_starterRow v_wantedRow v_order) (ci := 9) ⟨hx, hb, hml, hown, hts⟩ (c_X9_next l D cI cZ cP a_this a_tape a_now a_read a_kept a_snaps a_before a_live a_other a_isKept a_waysOf a_sought a_starterRow a_wantedRow a_order v_thrown v_taped v_size v_to_1 v_from_2 v_kind_3 v_number_4 v_fault v_place v_word_5 v_snapMany v_starterMany v_perfectMany v_wanted v_seed v_tape v_now v_read_18 v_kept v_snaps v_before v_live v_other v_isKept v_waysOf v_sought v_starterRow v_wantedRow v_order v_to_19 v_from_20 v_kind_21 v_number_22 v_word_23 hc_24) (cwV 0 hts gX9_readTeams_X9_next rfl rfl rfl (by decide +kernel) ⟨Nat.le_of_ble_eq_true rfl, Nat.le_of_ble_eq_true rfl⟩) rfl rfl hl.1 (Nat.le_of_ble_eq_true rfl) dX9_readTeams_58 ⟨Nat.zero_le _, Nat.zero_le _⟩ hK hP hD hS hA rfl rfl [0, 1, 2, 3, 4, 5, 6, 7, 8, 9, 10, 11, 12, 13, 14] [] [0, 1, 2, 3, 4, 5, 6, 7, 8, 9, 10, 11, 12, 13, 14] ⟨⟨rfl, rfl, rfl⟩, by decide⟩ (fun H locs hP hD hS => ?_)
        refine lv_iconst (v := 1) hx hb dX9_readTeams_61 (by decide) ?_
        obtain ⟨rfl, rfl, rfl, rfl, rfl, rfl, rfl, rfl, rfl⟩ := inj9 h
        exact hret (by decide) dX9_readTeams_62 hP hD hS
      · replace h := it_pos h c_16
        refine lv_aload_n hx hb dX9_readTeams_41 rfl (lv_at hl 0 rfl) ?_
        refine lv_iconst (v := 2) hx hb dX9_readTeams_42 (by decide) ?_
        obtain ⟨⟨r_25, v_fault_26, v_place_27⟩, hc_28, h⟩ := bi_some h
        refine rd_callVi [.int (2 : Int32)] [] (wr := []) (W1 := wd_X9 cI cZ cP a_this a_tape a_now a_read a_kept a_snaps a_before a_live a_other a_isKept a_waysOf a_sought a_starterRow a_wantedRow a_order v_thrown v_taped v_size v_to_1 v_from_2 v_kind_3 v_number_4 v_fault_26 v_place_27 v_word_5 v_snapMany v_starterMany v_perfectMany v_wanted v_seed v_tape v_now v_read v_kept v_snaps v_before v_live v_other v_isKept v_waysOf v_sought v_starterRow v_wantedRow v_order) (ci := 9) ⟨hx, hb, hml, hown, hts⟩ (c_X9_bad l D cI cZ cP a_this a_tape a_now a_read a_kept a_snaps a_before a_live a_other a_isKept a_waysOf a_sought a_starterRow a_wantedRow a_order v_thrown v_taped v_size v_to_1 v_from_2 v_kind_3 v_number_4 v_fault v_place v_word_5 v_snapMany v_starterMany v_perfectMany v_wanted v_seed v_tape v_now v_read v_kept v_snaps v_before v_live v_other v_isKept v_waysOf v_sought v_starterRow v_wantedRow v_order (2 : Int32) r_25 v_fault_26 v_place_27 hc_28) (cwV 1 hts gX9_readTeams_X9_bad rfl rfl rfl (by decide +kernel) ⟨Nat.le_of_ble_eq_true rfl, Nat.le_of_ble_eq_true rfl⟩) rfl rfl hl.1 (Nat.le_of_ble_eq_true rfl) dX9_readTeams_43 ⟨Nat.zero_le _, Nat.zero_le _⟩ hK hP hD hS hA rfl rfl [0, 1, 2, 3, 4, 5, 6, 7, 8, 9, 10, 11, 12, 13, 14] [] [0, 1, 2, 3, 4, 5, 6, 7, 8, 9, 10, 11, 12, 13, 14] ⟨⟨rfl, rfl, rfl⟩, by decide⟩ (fun H locs hP hD hS => ?_)
        obtain ⟨hz_29, h⟩ := gd_some h
        obtain ⟨rfl, rfl, rfl, rfl, rfl, rfl, rfl, rfl, rfl⟩ := inj9 h
        exact hret hz_29 dX9_readTeams_46 hP hD hS
  · replace h := it_neg h c_7
    refine lv_aload_n hx hb dX9_readTeams_12 rfl (lv_at hl 0 rfl) ?_
    refine lv_iconst (v := 1) hx hb dX9_readTeams_13 (by decide) ?_
    obtain ⟨⟨r_30, v_fault_31, v_place_32⟩, hc_33, h⟩ := bi_some h
    refine rd_callVi [.int (1 : Int32)] [] (wr := []) (W1 := wd_X9 cI cZ cP a_this a_tape a_now a_read a_kept a_snaps a_before a_live a_other a_isKept a_waysOf a_sought a_starterRow a_wantedRow a_order v_thrown v_taped v_size v_to_1 v_from_2 v_kind_3 v_number_4 v_fault_31 v_place_32 v_word_5 v_snapMany v_starterMany v_perfectMany v_wanted v_seed v_tape v_now v_read v_kept v_snaps v_before v_live v_other v_isKept v_waysOf v_sought v_starterRow v_wantedRow v_order) (ci := 9) ⟨hx, hb, hml, hown, hts⟩ (c_X9_bad l D cI cZ cP a_this a_tape a_now a_read a_kept a_snaps a_before a_live a_other a_isKept a_waysOf a_sought a_starterRow a_wantedRow a_order v_thrown v_taped v_size v_to_1 v_from_2 v_kind_3 v_number_4 v_fault v_place v_word_5 v_snapMany v_starterMany v_perfectMany v_wanted v_seed v_tape v_now v_read v_kept v_snaps v_before v_live v_other v_isKept v_waysOf v_sought v_starterRow v_wantedRow v_order (1 : Int32) r_30 v_fault_31 v_place_32 hc_33) (cwV 1 hts gX9_readTeams_X9_bad rfl rfl rfl (by decide +kernel) ⟨Nat.le_of_ble_eq_true rfl, Nat.le_of_ble_eq_true rfl⟩) rfl rfl hl.1 (Nat.le_of_ble_eq_true rfl) dX9_readTeams_14 ⟨Nat.zero_le _, Nat.zero_le _⟩ hK hP hD hS hA rfl rfl [0, 1, 2, 3, 4, 5, 6, 7, 8, 9, 10, 11, 12, 13, 14] [] [0, 1, 2, 3, 4, 5, 6, 7, 8, 9, 10, 11, 12, 13, 14] ⟨⟨rfl, rfl, rfl⟩, by decide⟩ (fun H locs hP hD hS => ?_)
    obtain ⟨hz_34, h⟩ := gd_some h
    obtain ⟨rfl, rfl, rfl, rfl, rfl, rfl, rfl, rfl, rfl⟩ := inj9 h
    exact hret hz_34 dX9_readTeams_17 hP hD hS
