theorem in_X1_draw_X1 : ∀ w ∈ wsX10, w ∈ wsX1_draw := by decide +kernel
def f_X1_draw (v_seed : Int32) (p1 : Int32) : Option (Int32 × Int32) := bd ((v_seed * (1103515245 : Int32)) + (12345 : Int32)) (fun v_seed_1 => if 0 < p1 then if ¬ p1 = 0 then some (((v_seed_1.toUInt32 >>> ((8 : Int32).toUInt32 &&& Int32.toUInt32 31)).toInt32) - ((v_seed_1.toUInt32 >>> ((8 : Int32).toUInt32 &&& Int32.toUInt32 31)).toInt32) / p1 * p1, v_seed_1) else none else some ((0 : Int32), v_seed_1))
set_option maxHeartbeats 4000000 in
set_option maxRecDepth 100000 in
theorem c_X1_draw (l : Launch) (D : va_G) (cI cZ cP : ClassId) (a_this : Nat) (v_seed : Int32) (p1 : Int32) (r : Int32) (nv_seed : Int32) (h : f_X1_draw v_seed p1 = some (r, nv_seed)) : rd_I l yX1_draw wsX1_draw { frames := 0, cells := 0, slots := 0, locals := 0 } [.ref a_this, .int p1] D (tyA cI cZ cP) (wd_X1 cI cZ cP a_this v_seed) (wd_X1 cI cZ cP a_this nv_seed) r := by
  unfold f_X1_draw at h
  refine rd_enterI (cc := cX1_draw) (maxL := 2) (by decide) rfl (Nat.le_of_ble_eq_true rfl) ?_
  intro p e s m args below meth c A Q ls hx hb hml hown hts hA hK hP hD hS hl hret
  have hl : lv_has ls 2 [(0, .ref a_this), (1, .int p1)] := hl
  have kw1 := hts (.fieldLink RX1 7 "RoundDays$Dice" "seed" "I") (List.mem_of_getElem? (i := 1) rfl)
  have kw2 := hts (.constant RX1 13 (1103515245)) (List.mem_of_getElem? (i := 2) rfl)
  refine lv_aload_n hx hb dX1_draw_0 rfl (lv_at hl 0 rfl) ?_
  refine lv_aload_n hx hb dX1_draw_1 rfl (lv_at hl 0 rfl) ?_
  refine va_get (D := D) (ci := 1) (v := .int v_seed) (C := RX1) (T := TX1) (N := 1) hx hb hts in_X1_draw_X1 hown hK hP 0 rfl rfl 0 (by decide) kw1 (fun _ h9 => h9) rfl dX1_draw_2 ?_
  refine lv_ldc (v := 1103515245) hx hb hown kw2 dX1_draw_5 ?_
  refine lv_imul hx hb dX1_draw_7 ?_
  refine lv_sipush (v := 12345) hx hb dX1_draw_8 (by decide) ?_
  refine lv_iadd hx hb dX1_draw_11 ?_
  obtain ⟨v_seed_1, ev_seed_1, h⟩ := bd_some h
  refine rd_top ev_seed_1 ?_
  refine rd_put (W1 := wd_X1 cI cZ cP a_this v_seed_1) (C := RX1) (T := TX1) (N := 1) (ci := 1) hx hb hts in_X1_draw_X1 tyX1 tyX1_ok nmX1 hown hK hP hD hS 0 rfl rfl 0 (by decide) kw1 (fun _ h9 => h9) rfl rfl rfl (Nat.le_of_ble_eq_true rfl) rfl dX1_draw_12 (fun H locs hP hD hS => ?_)
  refine lv_iload_n hx hb dX1_draw_15 rfl (lv_at hl 1 rfl) ?_
  refine lv_if_gt (tgt := 23) hx hb dX1_draw_16 (by decide) (fun c_2 => ?_) (fun c_2 => ?_)
  · replace h := it_pos h c_2
    refine lv_aload_n hx hb dX1_draw_23 rfl (lv_at hl 0 rfl) ?_
    refine va_get (D := D) (ci := 1) (v := .int v_seed_1) (C := RX1) (T := TX1) (N := 1) hx hb hts in_X1_draw_X1 hown hK hP 0 rfl rfl 0 (by decide) kw1 (fun _ h9 => h9) rfl dX1_draw_24 ?_
    refine lv_bipush (v := 8) hx hb dX1_draw_27 (by decide) ?_
    refine lv_iushr (v := (v_seed_1.toUInt32 >>> ((8 : Int32).toUInt32 &&& Int32.toUInt32 31)).toInt32) hx hb dX1_draw_29 rfl ?_
    refine lv_iload_n hx hb dX1_draw_30 rfl (lv_at hl 1 rfl) ?_
    obtain ⟨hz_3, h⟩ := gd_some h
    refine lv_irem hx hb dX1_draw_31 hz_3 ?_
    obtain ⟨rfl, rfl⟩ := inj2 h
    exact hret dX1_draw_32 hP hD hS
  · replace h := it_neg h c_2
    refine lv_iconst (v := 0) hx hb dX1_draw_19 (by decide) ?_
    refine lv_goto (tgt := 32) hx hb dX1_draw_20 (by decide) ?_
    obtain ⟨rfl, rfl⟩ := inj2 h
    exact hret dX1_draw_32 hP hD hS
theorem in_X7_push_X7 : ∀ w ∈ wsX70, w ∈ wsX7_push := by decide +kernel
def f_X7_push_L3 (p1 : Int32) (self : Int32 × Int32 × (Nat → Int32) → Option (Int32 × (Nat → Int32))) : Int32 × Int32 × (Nat → Int32) → Option (Int32 × (Nat → Int32)) := fun st => match st with | (x2, v_length, v_bytes) => if x2 < 0 then some (v_length, v_bytes) else if (740 : Int32) ≤ v_length then bd (x2 + (-8 : Int32)) (fun x2_3 => self (x2_3, v_length, v_bytes)) else if inb v_length 740 then bd (upd v_bytes v_length.toNatClampNeg ((p1 >>> (x2 &&& (31 : Int32))) &&& (255 : Int32))) (fun v_bytes_5 => bd (v_length + (1 : Int32)) (fun v_length_6 => bd (x2 + (-8 : Int32)) (fun x2_7 => self (x2_7, v_length_6, v_bytes_5)))) else none
def f_X7_push (v_length : Int32) (v_bytes : Nat → Int32) (p1 : Int32) : Option (Int32 × (Nat → Int32)) := lp (f_X7_push_L3 p1) 20000 ((24 : Int32), v_length, v_bytes)
set_option maxHeartbeats 4000000 in
set_option maxRecDepth 100000 in
theorem c_X7_push (l : Launch) (D : va_G) (cI cZ cP : ClassId) (a_this : Nat) (a_bytes : Nat) (v_length : Int32) (v_bytes : Nat → Int32) (p1 : Int32) (nv_length : Int32) (nv_bytes : Nat → Int32) (h : f_X7_push v_length v_bytes p1 = some (nv_length, nv_bytes)) : rd_V l yX7_push wsX7_push { frames := 0, cells := 0, slots := 0, locals := 0 } [.ref a_this, .int p1] D (tyA cI cZ cP) (wd_X7 cI cZ cP a_this a_bytes v_length v_bytes) (wd_X7 cI cZ cP a_this a_bytes nv_length nv_bytes) := by
  unfold f_X7_push at h
  refine rd_enterV (cc := cX7_push) (maxL := 3) (by decide) rfl (Nat.le_of_ble_eq_true rfl) ?_
  intro p e s m args below meth c A Q ls hx hb hml hown hts hA hK hP hD hS hl hret
  have hl : lv_has ls 3 [(0, .ref a_this), (1, .int p1)] := hl
  have kw1 := hts (.fieldLink RX7 15 "RoundDays$Tape" "length" "I") (List.mem_of_getElem? (i := 1) rfl)
  have kw2 := hts (.fieldLink RX7 9 "RoundDays$Tape" "bytes" "[I") (List.mem_of_getElem? (i := 2) rfl)
  have w3 : ∀ n : Nat, ∀ (x2 : Int32) (v_length : Int32) (v_bytes : Nat → Int32), lp (f_X7_push_L3 p1) n (x2, v_length, v_bytes) = some (nv_length, nv_bytes) → ∀ (H : Heap) (locs : List Loc) (ls : Array Slot), va_P D vwCl (wd_X7 cI cZ cP a_this a_bytes v_length v_bytes) H → va_D A (wd_X7 cI cZ cP a_this a_bytes v_length v_bytes) → va_S A s.heap H locs → lv_has ls 3 [(0, .ref a_this), (1, .int p1), (2, .int x2)] → W p l e { frames := 0, cells := 0, slots := 0, locals := 0 } s m args below meth c H locs 0 0 Q (F0 m 3 ls []) := by
    refine fun n x2 v_length v_bytes h => lp_walk (b := f_X7_push_L3 p1) (r := (nv_length, nv_bytes)) (P := fun st => match st with | (x2, v_length, v_bytes) => ∀ (H : Heap) (locs : List Loc) (ls : Array Slot), va_P D vwCl (wd_X7 cI cZ cP a_this a_bytes v_length v_bytes) H → va_D A (wd_X7 cI cZ cP a_this a_bytes v_length v_bytes) → va_S A s.heap H locs → lv_has ls 3 [(0, .ref a_this), (1, .int p1), (2, .int x2)] → W p l e { frames := 0, cells := 0, slots := 0, locals := 0 } s m args below meth c H locs 0 0 Q (F0 m 3 ls [])) (fun self hself0 st h => ?_) n (x2, v_length, v_bytes) h
    obtain ⟨x2, v_length, v_bytes⟩ := st
    have hself : ∀ (x2 : Int32) (v_length : Int32) (v_bytes : Nat → Int32), self (x2, v_length, v_bytes) = some (nv_length, nv_bytes) → ∀ (H : Heap) (locs : List Loc) (ls : Array Slot), va_P D vwCl (wd_X7 cI cZ cP a_this a_bytes v_length v_bytes) H → va_D A (wd_X7 cI cZ cP a_this a_bytes v_length v_bytes) → va_S A s.heap H locs → lv_has ls 3 [(0, .ref a_this), (1, .int p1), (2, .int x2)] → W p l e { frames := 0, cells := 0, slots := 0, locals := 0 } s m args below meth c H locs 0 0 Q (F0 m 3 ls []) := fun x2 v_length v_bytes h => hself0 (x2, v_length, v_bytes) h
    clear hself0
    intro H locs ls hP hD hS hl
    replace h : (if x2 < 0 then some (v_length, v_bytes) else if (740 : Int32) ≤ v_length then bd (x2 + (-8 : Int32)) (fun x2_3 => self (x2_3, v_length, v_bytes)) else if inb v_length 740 then bd (upd v_bytes v_length.toNatClampNeg ((p1 >>> (x2 &&& (31 : Int32))) &&& (255 : Int32))) (fun v_bytes_5 => bd (v_length + (1 : Int32)) (fun v_length_6 => bd (x2 + (-8 : Int32)) (fun x2_7 => self (x2_7, v_length_6, v_bytes_5)))) else none) = some (nv_length, nv_bytes) := h
    refine lv_iload_n hx hb dX7_push_3 rfl (lv_at hl 2 rfl) ?_
    refine lv_if_lt (tgt := 49) hx hb dX7_push_4 (by decide) (fun c_1 => ?_) (fun c_1 => ?_)
    · replace h := it_pos h c_1
      obtain ⟨rfl, rfl⟩ := inj2 h
      exact hret dX7_push_49 hP hD hS
    · replace h := it_neg h c_1
      refine lv_aload_n hx hb dX7_push_7 rfl (lv_at hl 0 rfl) ?_
      refine va_get (D := D) (ci := 7) (v := .int v_length) (C := RX7) (T := TX7) (N := 2) hx hb hts in_X7_push_X7 hown hK hP 0 rfl rfl 1 (by decide) kw1 (fun _ h9 => h9) rfl dX7_push_8 ?_
      refine lv_sipush (v := 740) hx hb dX7_push_11 (by decide) ?_
      refine lv_icmp_ge (tgt := 43) hx hb dX7_push_14 (by decide) (fun c_2 => ?_) (fun c_2 => ?_)
      · replace h := it_pos h c_2
        obtain ⟨x2_3, ex2_3, h⟩ := bd_some h
        refine lv_iinc (v := x2_3) (lv' := [(2, .int x2_3), (0, .ref a_this), (1, .int p1)]) hx hb dX7_push_43 hl (k := 2) rfl (by rw [ex2_3]; rfl) (by decide) rfl (fun ls hl => ?_)
        refine lv_goto (tgt := 3) hx hb dX7_push_46 (by decide) ?_
        exact hself x2_3 v_length v_bytes h _ _ _ hP hD hS (lv_sub hl [1, 2, 0] rfl)
      · replace h := it_neg h c_2
        refine lv_aload_n hx hb dX7_push_17 rfl (lv_at hl 0 rfl) ?_
        refine va_get (D := D) (ci := 7) (v := .ref a_bytes) (C := RX7) (T := TX7) (N := 2) hx hb hts in_X7_push_X7 hown hK hP 0 rfl rfl 0 (by decide) kw2 (fun _ h9 => h9) rfl dX7_push_18 ?_
        refine lv_aload_n hx hb dX7_push_21 rfl (lv_at hl 0 rfl) ?_
        refine va_get (D := D) (ci := 7) (v := .int v_length) (C := RX7) (T := TX7) (N := 2) hx hb hts in_X7_push_X7 hown hK hP 0 rfl rfl 1 (by decide) kw1 (fun _ h9 => h9) rfl dX7_push_22 ?_
        refine lv_iload_n hx hb dX7_push_25 rfl (lv_at hl 1 rfl) ?_
        refine lv_iload_n hx hb dX7_push_26 rfl (lv_at hl 2 rfl) ?_
        refine lv_ishr hx hb dX7_push_27 ?_
        refine lv_sipush (v := 255) hx hb dX7_push_28 (by decide) ?_
        refine lv_iand hx hb dX7_push_31 ?_
        obtain ⟨hi_4, h⟩ := gd_some h
        obtain ⟨v_bytes_5, ev_bytes_5, h⟩ := bd_some h
        refine rd_iast (W1 := wd_X7 cI cZ cP a_this a_bytes v_length v_bytes_5) hx hb hK hP hD hS 1 0 rfl rfl hi_4 ev_bytes_5 rfl dX7_push_32 (fun H locs hP hD hS => ?_)
        refine lv_aload_n hx hb dX7_push_33 rfl (lv_at hl 0 rfl) ?_
        refine lv_dup hx hb dX7_push_34 rfl ?_
        refine va_get (D := D) (ci := 7) (v := .int v_length) (C := RX7) (T := TX7) (N := 2) hx hb hts in_X7_push_X7 hown hK hP 0 rfl rfl 1 (by decide) kw1 (fun _ h9 => h9) rfl dX7_push_35 ?_
        refine lv_iconst (v := 1) hx hb dX7_push_38 (by decide) ?_
        refine lv_iadd hx hb dX7_push_39 ?_
        obtain ⟨v_length_6, ev_length_6, h⟩ := bd_some h
        refine rd_top ev_length_6 ?_
        refine rd_put (W1 := wd_X7 cI cZ cP a_this a_bytes v_length_6 v_bytes_5) (C := RX7) (T := TX7) (N := 2) (ci := 7) hx hb hts in_X7_push_X7 tyX7 tyX7_ok nmX7 hown hK hP hD hS 0 rfl rfl 1 (by decide) kw1 (fun _ h9 => h9) rfl rfl rfl (Nat.le_of_ble_eq_true rfl) rfl dX7_push_40 (fun H locs hP hD hS => ?_)
        obtain ⟨x2_7, ex2_7, h⟩ := bd_some h
        refine lv_iinc (v := x2_7) (lv' := [(2, .int x2_7), (0, .ref a_this), (1, .int p1)]) hx hb dX7_push_43 hl (k := 2) rfl (by rw [ex2_7]; rfl) (by decide) rfl (fun ls hl => ?_)
        refine lv_goto (tgt := 3) hx hb dX7_push_46 (by decide) ?_
        exact hself x2_7 v_length_6 v_bytes_5 h _ _ _ hP hD hS (lv_sub hl [1, 2, 0] rfl)
  refine lv_bipush (v := 24) hx hb dX7_push_0 (by decide) ?_
  refine lv_istore_n (lv' := [(2, .int (24 : Int32)), (0, .ref a_this), (1, .int p1)]) hx hb dX7_push_2 rfl hl (by decide) rfl (fun ls hl => ?_)
  exact w3 20000 (24 : Int32) v_length v_bytes h _ _ _ hP hD hS (lv_sub hl [1, 2, 0] rfl)
theorem in_X7_at_X7 : ∀ w ∈ wsX70, w ∈ wsX7_at := by decide +kernel
def f_X7_at (v_length : Int32) (v_bytes : Nat → Int32) (p1 : Int32) : Option (Int32) := if p1 < 0 then some (-1 : Int32) else if p1 < v_length then if inb p1 740 then some (v_bytes p1.toNatClampNeg) else none else some (-1 : Int32)
set_option maxHeartbeats 4000000 in
set_option maxRecDepth 100000 in
theorem c_X7_at (l : Launch) (D : va_G) (cI cZ cP : ClassId) (a_this : Nat) (a_bytes : Nat) (v_length : Int32) (v_bytes : Nat → Int32) (p1 : Int32) (r : Int32) (h : f_X7_at v_length v_bytes p1 = some r) : rd_I l yX7_at wsX7_at { frames := 0, cells := 0, slots := 0, locals := 0 } [.ref a_this, .int p1] D (tyA cI cZ cP) (wd_X7 cI cZ cP a_this a_bytes v_length v_bytes) (wd_X7 cI cZ cP a_this a_bytes v_length v_bytes) r := by
  unfold f_X7_at at h
  refine rd_enterI (cc := cX7_at) (maxL := 2) (by decide) rfl (Nat.le_of_ble_eq_true rfl) ?_
  intro p e s m args below meth c A Q ls hx hb hml hown hts hA hK hP hD hS hl hret
  have hl : lv_has ls 2 [(0, .ref a_this), (1, .int p1)] := hl
  have kw1 := hts (.fieldLink RX7 15 "RoundDays$Tape" "length" "I") (List.mem_of_getElem? (i := 1) rfl)
  have kw2 := hts (.fieldLink RX7 9 "RoundDays$Tape" "bytes" "[I") (List.mem_of_getElem? (i := 2) rfl)
  refine lv_iload_n hx hb dX7_at_0 rfl (lv_at hl 1 rfl) ?_
  refine lv_if_lt (tgt := 12) hx hb dX7_at_1 (by decide) (fun c_1 => ?_) (fun c_1 => ?_)
  · replace h := it_pos h c_1
    refine lv_iconst (v := -1) hx hb dX7_at_12 (by decide) ?_
    refine lv_goto (tgt := 22) hx hb dX7_at_13 (by decide) ?_
    obtain rfl := inj1 h
    exact hret dX7_at_22 hP hD hS
  · replace h := it_neg h c_1
    refine lv_iload_n hx hb dX7_at_4 rfl (lv_at hl 1 rfl) ?_
    refine lv_aload_n hx hb dX7_at_5 rfl (lv_at hl 0 rfl) ?_
    refine va_get (D := D) (ci := 7) (v := .int v_length) (C := RX7) (T := TX7) (N := 2) hx hb hts in_X7_at_X7 hown hK hP 0 rfl rfl 1 (by decide) kw1 (fun _ h9 => h9) rfl dX7_at_6 ?_
    refine lv_icmp_lt (tgt := 16) hx hb dX7_at_9 (by decide) (fun c_2 => ?_) (fun c_2 => ?_)
    · replace h := it_pos h c_2
      refine lv_aload_n hx hb dX7_at_16 rfl (lv_at hl 0 rfl) ?_
      refine va_get (D := D) (ci := 7) (v := .ref a_bytes) (C := RX7) (T := TX7) (N := 2) hx hb hts in_X7_at_X7 hown hK hP 0 rfl rfl 0 (by decide) kw2 (fun _ h9 => h9) rfl dX7_at_17 ?_
      refine lv_iload_n hx hb dX7_at_20 rfl (lv_at hl 1 rfl) ?_
      obtain ⟨hi_3, h⟩ := gd_some h
      refine va_iald hx hb hK hP 1 0 rfl rfl (inb_in hi_3) dX7_at_21 ?_
      obtain rfl := inj1 h
      exact hret dX7_at_22 hP hD hS
    · replace h := it_neg h c_2
      refine lv_iconst (v := -1) hx hb dX7_at_12 (by decide) ?_
      refine lv_goto (tgt := 22) hx hb dX7_at_13 (by decide) ?_
      obtain rfl := inj1 h
      exact hret dX7_at_22 hP hD hS
theorem in_X0_forget_X0 : ∀ w ∈ wsX00, w ∈ wsX0_forget := by decide +kernel
def f_X0_forget (v_held : Int32) : Option (Int32) := some (0 : Int32)
set_option maxHeartbeats 4000000 in
set_option maxRecDepth 100000 in
theorem c_X0_forget (l : Launch) (D : va_G) (cI cZ cP : ClassId) (a_this : Nat) (a_before : Nat) (a_before_e : Nat → Nat) (a_before_e_rows : Nat → Nat) (v_held : Int32) (v_next : Int32) (v_before_e_teams : Nat → Int32) (v_before_e_days : Nat → Int32) (v_before_e_rows : Nat → Nat → Int32) (nv_held : Int32) (h : f_X0_forget v_held = some nv_held) : rd_V l yX0_forget wsX0_forget { frames := 0, cells := 0, slots := 0, locals := 0 } [.ref a_this] D (tyA cI cZ cP) (wd_X0 cI cZ cP a_this a_before a_before_e a_before_e_rows v_held v_next v_before_e_teams v_before_e_days v_before_e_rows) (wd_X0 cI cZ cP a_this a_before a_before_e a_before_e_rows nv_held v_next v_before_e_teams v_before_e_days v_before_e_rows) := by
  unfold f_X0_forget at h
  refine rd_enterV (cc := cX0_forget) (maxL := 1) (by decide) rfl (Nat.le_of_ble_eq_true rfl) ?_
  intro p e s m args below meth c A Q ls hx hb hml hown hts hA hK hP hD hS hl hret
  have hl : lv_has ls 1 [(0, .ref a_this)] := hl
  have kw1 := hts (.fieldLink RX0 18 "RoundDays$Acts" "held" "I") (List.mem_of_getElem? (i := 1) rfl)
  refine lv_aload_n hx hb dX0_forget_0 rfl (lv_at hl 0 rfl) ?_
  refine lv_iconst (v := 0) hx hb dX0_forget_1 (by decide) ?_
  refine rd_put (W1 := wd_X0 cI cZ cP a_this a_before a_before_e a_before_e_rows (0 : Int32) v_next v_before_e_teams v_before_e_days v_before_e_rows) (C := RX0) (T := TX0) (N := 3) (ci := 0) hx hb hts in_X0_forget_X0 tyX0 tyX0_ok nmX0 hown hK hP hD hS 0 rfl rfl 0 (by decide) kw1 (fun _ h9 => h9) rfl rfl rfl (Nat.le_of_ble_eq_true rfl) rfl dX0_forget_2 (fun H locs hP hD hS => ?_)
  obtain rfl := inj1 h
  exact hret dX0_forget_5 hP hD hS
theorem in_X0_keep_X0 : ∀ w ∈ wsX00, w ∈ wsX0_keep := by decide +kernel
def f_X0_keep (v_held : Int32) (v_next : Int32) (v_before_e_teams : Nat → Int32) (v_before_e_days : Nat → Int32) (v_before_e_rows : Nat → Nat → Int32) (v_p1_teams : Int32) (v_p1_days : Int32) (v_p1_rows : Nat → Int32) : Option (Int32 × Int32 × (Nat → Int32) × (Nat → Int32) × (Nat → Nat → Int32)) := if inb v_next 8 then bd v_next.toNatClampNeg (fun j_2 => (f_X3_copy (v_before_e_teams j_2) (v_before_e_days j_2) (v_before_e_rows j_2) v_p1_teams v_p1_days v_p1_rows).bind (fun t => match t with | (v_teams_3, v_days_4, v_rows_5) => bd ((v_next + (1 : Int32)) - (v_next + (1 : Int32)) / (8 : Int32) * (8 : Int32)) (fun v_next_7 => bd (if (8 : Int32) < (v_held + (1 : Int32)) then (8 : Int32) else (v_held + (1 : Int32))) (fun v_held_8 => some (v_held_8, v_next_7, (va_up v_before_e_teams j_2 v_teams_3), (va_up v_before_e_days j_2 v_days_4), (va_up v_before_e_rows j_2 v_rows_5)))))) else none
set_option maxHeartbeats 4000000 in
set_option maxRecDepth 100000 in
theorem c_X0_keep (l : Launch) (D : va_G) (cI cZ cP : ClassId) (a_this : Nat) (a_before : Nat) (a_before_e : Nat → Nat) (a_before_e_rows : Nat → Nat) (a_p1 : Nat) (a_p1_rows : Nat) (v_held : Int32) (v_next : Int32) (v_before_e_teams : Nat → Int32) (v_before_e_days : Nat → Int32) (v_before_e_rows : Nat → Nat → Int32) (v_p1_teams : Int32) (v_p1_days : Int32) (v_p1_rows : Nat → Int32) (nv_held : Int32) (nv_next : Int32) (nv_before_e_teams : Nat → Int32) (nv_before_e_days : Nat → Int32) (nv_before_e_rows : Nat → Nat → Int32) (h : f_X0_keep v_held v_next v_before_e_teams v_before_e_days v_before_e_rows v_p1_teams v_p1_days v_p1_rows = some (nv_held, nv_next, nv_before_e_teams, nv_before_e_days, nv_before_e_rows)) : rd_V l yX0_keep wsX0_keep { frames := 2, cells := 0, slots := 0, locals := 69 } [.ref a_this, .ref a_p1] D (tyA cI cZ cP) ((wd_X0 cI cZ cP a_this a_before a_before_e a_before_e_rows v_held v_next v_before_e_teams v_before_e_days v_before_e_rows) ++ (wd_X3 cI cZ cP a_p1 a_p1_rows v_p1_teams v_p1_days v_p1_rows)) ((wd_X0 cI cZ cP a_this a_before a_before_e a_before_e_rows nv_held nv_next nv_before_e_teams nv_before_e_days nv_before_e_rows) ++ (wd_X3 cI cZ cP a_p1 a_p1_rows v_p1_teams v_p1_days v_p1_rows)) := by
  unfold f_X0_keep at h
  refine rd_enterV (cc := cX0_keep) (maxL := 2) (by decide) rfl (Nat.le_of_ble_eq_true rfl) ?_
  intro p e s m args below meth c A Q ls hx hb hml hown hts hA hK hP hD hS hl hret
  have hl : lv_has ls 2 [(0, .ref a_this), (1, .ref a_p1)] := hl
  have kw1 := hts (.fieldLink RX0 11 "RoundDays$Acts" "before" "[LRoundDays$Plan;") (List.mem_of_getElem? (i := 1) rfl)
  have kw2 := hts (.fieldLink RX0 22 "RoundDays$Acts" "next" "I") (List.mem_of_getElem? (i := 2) rfl)
  have kw3 := hts (.fieldLink RX0 18 "RoundDays$Acts" "held" "I") (List.mem_of_getElem? (i := 3) rfl)
  have kw4 := hts (.methodLink RX0 29 Lib.Math.min.name) (List.mem_of_getElem? (i := 4) rfl)
  have kw5 := hts (.static Lib.Math.min.name) (List.mem_of_getElem? (i := 5) rfl)
  have kw6 := hts (.initialized "java/lang/Math") (List.mem_of_getElem? (i := 6) rfl)
  have kw7 := hts (.code Lib.Math.min.name Lib.Math.min.code 2 (some .int)) (List.mem_of_getElem? (i := 7) rfl)
  refine lv_aload_n hx hb dX0_keep_0 rfl (lv_at hl 0 rfl) ?_
  refine va_get (D := D) (ci := 0) (v := .ref a_before) (C := RX0) (T := TX0) (N := 3) hx hb hts in_X0_keep_X0 hown hK hP 0 rfl rfl 2 (by decide) kw1 (fun _ h9 => h9) rfl dX0_keep_1 ?_
  refine lv_aload_n hx hb dX0_keep_4 rfl (lv_at hl 0 rfl) ?_
  refine va_get (D := D) (ci := 0) (v := .int v_next) (C := RX0) (T := TX0) (N := 3) hx hb hts in_X0_keep_X0 hown hK hP 0 rfl rfl 1 (by decide) kw2 (fun _ h9 => h9) rfl dX0_keep_5 ?_
  obtain ⟨hi_1, h⟩ := gd_some h
  refine va_aldq hx hb hK hP 1 2 rfl rfl (inb_in hi_1) dX0_keep_8 ?_
  have j_2l : v_next.toNatClampNeg < 8 := Nat.not_le.mp fun q => hi_1 (Or.inr q)
  obtain ⟨j_2, ej_2, h⟩ := bd_some h
  rw [← ej_2] at j_2l ⊢
  rcases rd_lt8 j_2l with rfl | rfl | rfl | rfl | rfl | rfl | rfl | rfl
  · refine W.eq (g2 := F0 m 9 ls [.ref (a_before_e 0)]) rfl ?_
    refine lv_aload_n hx hb dX0_keep_9 rfl (lv_at hl 1 rfl) ?_
    obtain ⟨⟨v_teams_3, v_days_4, v_rows_5⟩, hc_6, h⟩ := bi_some h
    refine rd_callVv [.ref a_p1] [] (wr := [(a_this, .inr (0, [.int v_held, .int v_next, .ref a_before])), (a_before, .inl (cP, 8, .inr (.inr (.inr (.inr (fun i => some (a_before_e i))))))), ((a_before_e 1), .inr (3, [.int ((va_up v_before_e_teams 0 v_teams_3) 1), .int ((va_up v_before_e_days 0 v_days_4) 1), .ref (a_before_e_rows 1)])), ((a_before_e_rows 1), .inl (cI, 182, .inl ((va_up v_before_e_rows 0 v_rows_5) 1))), ((a_before_e 2), .inr (3, [.int ((va_up v_before_e_teams 0 v_teams_3) 2), .int ((va_up v_before_e_days 0 v_days_4) 2), .ref (a_before_e_rows 2)])), ((a_before_e_rows 2), .inl (cI, 182, .inl ((va_up v_before_e_rows 0 v_rows_5) 2))), ((a_before_e 3), .inr (3, [.int ((va_up v_before_e_teams 0 v_teams_3) 3), .int ((va_up v_before_e_days 0 v_days_4) 3), .ref (a_before_e_rows 3)])), ((a_before_e_rows 3), .inl (cI, 182, .inl ((va_up v_before_e_rows 0 v_rows_5) 3))), ((a_before_e 4), .inr (3, [.int ((va_up v_before_e_teams 0 v_teams_3) 4), .int ((va_up v_before_e_days 0 v_days_4) 4), .ref (a_before_e_rows 4)])), ((a_before_e_rows 4), .inl (cI, 182, .inl ((va_up v_before_e_rows 0 v_rows_5) 4))), ((a_before_e 5), .inr (3, [.int ((va_up v_before_e_teams 0 v_teams_3) 5), .int ((va_up v_before_e_days 0 v_days_4) 5), .ref (a_before_e_rows 5)])), ((a_before_e_rows 5), .inl (cI, 182, .inl ((va_up v_before_e_rows 0 v_rows_5) 5))), ((a_before_e 6), .inr (3, [.int ((va_up v_before_e_teams 0 v_teams_3) 6), .int ((va_up v_before_e_days 0 v_days_4) 6), .ref (a_before_e_rows 6)])), ((a_before_e_rows 6), .inl (cI, 182, .inl ((va_up v_before_e_rows 0 v_rows_5) 6))), ((a_before_e 7), .inr (3, [.int ((va_up v_before_e_teams 0 v_teams_3) 7), .int ((va_up v_before_e_days 0 v_days_4) 7), .ref (a_before_e_rows 7)])), ((a_before_e_rows 7), .inl (cI, 182, .inl ((va_up v_before_e_rows 0 v_rows_5) 7)))]) (W1 := (wd_X0 cI cZ cP a_this a_before a_before_e a_before_e_rows v_held v_next (va_up v_before_e_teams 0 v_teams_3) (va_up v_before_e_days 0 v_days_4) (va_up v_before_e_rows 0 v_rows_5)) ++ (wd_X3 cI cZ cP a_p1 a_p1_rows v_p1_teams v_p1_days v_p1_rows)) (ci := 3) ⟨hx, hb, hml, hown, hts⟩ (c_X3_copy l D cI cZ cP (a_before_e 0) (a_before_e_rows 0) a_p1 a_p1_rows (v_before_e_teams 0) (v_before_e_days 0) (v_before_e_rows 0) v_p1_teams v_p1_days v_p1_rows v_teams_3 v_days_4 v_rows_5 hc_6) (cwV 1 hts gX0_keep_X3_copy rfl rfl rfl (by decide +kernel) ⟨Nat.le_of_ble_eq_true rfl, Nat.le_of_ble_eq_true rfl⟩) rfl rfl hl.1 (Nat.le_of_ble_eq_true rfl) dX0_keep_10 ⟨Nat.zero_le _, Nat.zero_le _⟩ hK hP hD hS hA rfl rfl [2, 3, 18, 19] [0, 1, 4, 5, 6, 7, 8, 9, 10, 11, 12, 13, 14, 15, 16, 17] [0, 1, 16, 17, 2, 3, 4, 5, 6, 7, 8, 9, 10, 11, 12, 13, 14, 15, 18, 19] ⟨⟨rfl, rfl, rfl⟩, by decide⟩ (fun H locs hP hD hS => ?_)
    refine lv_aload_n hx hb dX0_keep_13 rfl (lv_at hl 0 rfl) ?_
    refine lv_aload_n hx hb dX0_keep_14 rfl (lv_at hl 0 rfl) ?_
    refine va_get (D := D) (ci := 0) (v := .int v_next) (C := RX0) (T := TX0) (N := 3) hx hb hts in_X0_keep_X0 hown hK hP 0 rfl rfl 1 (by decide) kw2 (fun _ h9 => h9) rfl dX0_keep_15 ?_
    refine lv_iconst (v := 1) hx hb dX0_keep_18 (by decide) ?_
    refine lv_iadd hx hb dX0_keep_19 ?_
    refine lv_bipush (v := 8) hx hb dX0_keep_20 (by decide) ?_
    refine lv_irem hx hb dX0_keep_22 (by decide) ?_
    obtain ⟨v_next_7, ev_next_7, h⟩ := bd_some h
    refine rd_top ev_next_7 ?_
    refine rd_put (W1 := (wd_X0 cI cZ cP a_this a_before a_before_e a_before_e_rows v_held v_next_7 (va_up v_before_e_teams 0 v_teams_3) (va_up v_before_e_days 0 v_days_4) (va_up v_before_e_rows 0 v_rows_5)) ++ (wd_X3 cI cZ cP a_p1 a_p1_rows v_p1_teams v_p1_days v_p1_rows)) (C := RX0) (T := TX0) (N := 3) (ci := 0) hx hb hts in_X0_keep_X0 tyX0 tyX0_ok nmX0 hown hK hP hD hS 0 rfl rfl 1 (by decide) kw2 (fun _ h9 => h9) rfl rfl rfl (Nat.le_of_ble_eq_true rfl) rfl dX0_keep_23 (fun H locs hP hD hS => ?_)
    refine lv_aload_n hx hb dX0_keep_26 rfl (lv_at hl 0 rfl) ?_
    refine lv_aload_n hx hb dX0_keep_27 rfl (lv_at hl 0 rfl) ?_
    refine va_get (D := D) (ci := 0) (v := .int v_held) (C := RX0) (T := TX0) (N := 3) hx hb hts in_X0_keep_X0 hown hK hP 0 rfl rfl 0 (by decide) kw3 (fun _ h9 => h9) rfl dX0_keep_28 ?_
    refine lv_iconst (v := 1) hx hb dX0_keep_31 (by decide) ?_
    refine lv_iadd hx hb dX0_keep_32 ?_
    refine lv_bipush (v := 8) hx hb dX0_keep_33 (by decide) ?_
    refine va_mmin hx hb (by rw [hml]; exact hl.1.symm) hown kw4 kw5 kw6 kw7 (Nat.le_of_ble_eq_true rfl) (Nat.le_of_ble_eq_true rfl) (Nat.zero_le _) (Nat.zero_le _) dX0_keep_35 ?_
    obtain ⟨v_held_8, ev_held_8, h⟩ := bd_some h
    refine rd_top ev_held_8 ?_
    refine rd_put (W1 := (wd_X0 cI cZ cP a_this a_before a_before_e a_before_e_rows v_held_8 v_next_7 (va_up v_before_e_teams 0 v_teams_3) (va_up v_before_e_days 0 v_days_4) (va_up v_before_e_rows 0 v_rows_5)) ++ (wd_X3 cI cZ cP a_p1 a_p1_rows v_p1_teams v_p1_days v_p1_rows)) (C := RX0) (T := TX0) (N := 3) (ci := 0) hx hb hts in_X0_keep_X0 tyX0 tyX0_ok nmX0 hown hK hP hD hS 0 rfl rfl 0 (by decide) kw3 (fun _ h9 => h9) rfl rfl rfl (Nat.le_of_ble_eq_true rfl) rfl dX0_keep_38 (fun H locs hP hD hS => ?_)
    obtain ⟨rfl, rfl, rfl, rfl, rfl⟩ := inj5 h
    exact hret dX0_keep_41 hP hD hS
  · refine W.eq (g2 := F0 m 9 ls [.ref (a_before_e 1)]) rfl ?_
    refine lv_aload_n hx hb dX0_keep_9 rfl (lv_at hl 1 rfl) ?_
    obtain ⟨⟨v_teams_3, v_days_4, v_rows_5⟩, hc_6, h⟩ := bi_some h
    refine rd_callVv [.ref a_p1] [] (wr := [(a_this, .inr (0, [.int v_held, .int v_next, .ref a_before])), (a_before, .inl (cP, 8, .inr (.inr (.inr (.inr (fun i => some (a_before_e i))))))), ((a_before_e 0), .inr (3, [.int ((va_up v_before_e_teams 1 v_teams_3) 0), .int ((va_up v_before_e_days 1 v_days_4) 0), .ref (a_before_e_rows 0)])), ((a_before_e_rows 0), .inl (cI, 182, .inl ((va_up v_before_e_rows 1 v_rows_5) 0))), ((a_before_e 2), .inr (3, [.int ((va_up v_before_e_teams 1 v_teams_3) 2), .int ((va_up v_before_e_days 1 v_days_4) 2), .ref (a_before_e_rows 2)])), ((a_before_e_rows 2), .inl (cI, 182, .inl ((va_up v_before_e_rows 1 v_rows_5) 2))), ((a_before_e 3), .inr (3, [.int ((va_up v_before_e_teams 1 v_teams_3) 3), .int ((va_up v_before_e_days 1 v_days_4) 3), .ref (a_before_e_rows 3)])), ((a_before_e_rows 3), .inl (cI, 182, .inl ((va_up v_before_e_rows 1 v_rows_5) 3))), ((a_before_e 4), .inr (3, [.int ((va_up v_before_e_teams 1 v_teams_3) 4), .int ((va_up v_before_e_days 1 v_days_4) 4), .ref (a_before_e_rows 4)])), ((a_before_e_rows 4), .inl (cI, 182, .inl ((va_up v_before_e_rows 1 v_rows_5) 4))), ((a_before_e 5), .inr (3, [.int ((va_up v_before_e_teams 1 v_teams_3) 5), .int ((va_up v_before_e_days 1 v_days_4) 5), .ref (a_before_e_rows 5)])), ((a_before_e_rows 5), .inl (cI, 182, .inl ((va_up v_before_e_rows 1 v_rows_5) 5))), ((a_before_e 6), .inr (3, [.int ((va_up v_before_e_teams 1 v_teams_3) 6), .int ((va_up v_before_e_days 1 v_days_4) 6), .ref (a_before_e_rows 6)])), ((a_before_e_rows 6), .inl (cI, 182, .inl ((va_up v_before_e_rows 1 v_rows_5) 6))), ((a_before_e 7), .inr (3, [.int ((va_up v_before_e_teams 1 v_teams_3) 7), .int ((va_up v_before_e_days 1 v_days_4) 7), .ref (a_before_e_rows 7)])), ((a_before_e_rows 7), .inl (cI, 182, .inl ((va_up v_before_e_rows 1 v_rows_5) 7)))]) (W1 := (wd_X0 cI cZ cP a_this a_before a_before_e a_before_e_rows v_held v_next (va_up v_before_e_teams 1 v_teams_3) (va_up v_before_e_days 1 v_days_4) (va_up v_before_e_rows 1 v_rows_5)) ++ (wd_X3 cI cZ cP a_p1 a_p1_rows v_p1_teams v_p1_days v_p1_rows)) (ci := 3) ⟨hx, hb, hml, hown, hts⟩ (c_X3_copy l D cI cZ cP (a_before_e 1) (a_before_e_rows 1) a_p1 a_p1_rows (v_before_e_teams 1) (v_before_e_days 1) (v_before_e_rows 1) v_p1_teams v_p1_days v_p1_rows v_teams_3 v_days_4 v_rows_5 hc_6) (cwV 1 hts gX0_keep_X3_copy rfl rfl rfl (by decide +kernel) ⟨Nat.le_of_ble_eq_true rfl, Nat.le_of_ble_eq_true rfl⟩) rfl rfl hl.1 (Nat.le_of_ble_eq_true rfl) dX0_keep_10 ⟨Nat.zero_le _, Nat.zero_le _⟩ hK hP hD hS hA rfl rfl [4, 5, 18, 19] [0, 1, 2, 3, 6, 7, 8, 9, 10, 11, 12, 13, 14, 15, 16, 17] [0, 1, 2, 3, 16, 17, 4, 5, 6, 7, 8, 9, 10, 11, 12, 13, 14, 15, 18, 19] ⟨⟨rfl, rfl, rfl⟩, by decide⟩ (fun H locs hP hD hS => ?_)
    refine lv_aload_n hx hb dX0_keep_13 rfl (lv_at hl 0 rfl) ?_
    refine lv_aload_n hx hb dX0_keep_14 rfl (lv_at hl 0 rfl) ?_
    refine va_get (D := D) (ci := 0) (v := .int v_next) (C := RX0) (T := TX0) (N := 3) hx hb hts in_X0_keep_X0 hown hK hP 0 rfl rfl 1 (by decide) kw2 (fun _ h9 => h9) rfl dX0_keep_15 ?_
    refine lv_iconst (v := 1) hx hb dX0_keep_18 (by decide) ?_
    refine lv_iadd hx hb dX0_keep_19 ?_
    refine lv_bipush (v := 8) hx hb dX0_keep_20 (by decide) ?_
    refine lv_irem hx hb dX0_keep_22 (by decide) ?_
    obtain ⟨v_next_7, ev_next_7, h⟩ := bd_some h
    refine rd_top ev_next_7 ?_
    refine rd_put (W1 := (wd_X0 cI cZ cP a_this a_before a_before_e a_before_e_rows v_held v_next_7 (va_up v_before_e_teams 1 v_teams_3) (va_up v_before_e_days 1 v_days_4) (va_up v_before_e_rows 1 v_rows_5)) ++ (wd_X3 cI cZ cP a_p1 a_p1_rows v_p1_teams v_p1_days v_p1_rows)) (C := RX0) (T := TX0) (N := 3) (ci := 0) hx hb hts in_X0_keep_X0 tyX0 tyX0_ok nmX0 hown hK hP hD hS 0 rfl rfl 1 (by decide) kw2 (fun _ h9 => h9) rfl rfl rfl (Nat.le_of_ble_eq_true rfl) rfl dX0_keep_23 (fun H locs hP hD hS => ?_)
    refine lv_aload_n hx hb dX0_keep_26 rfl (lv_at hl 0 rfl) ?_
    refine lv_aload_n hx hb dX0_keep_27 rfl (lv_at hl 0 rfl) ?_
    refine va_get (D := D) (ci := 0) (v := .int v_held) (C := RX0) (T := TX0) (N := 3) hx hb hts in_X0_keep_X0 hown hK hP 0 rfl rfl 0 (by decide) kw3 (fun _ h9 => h9) rfl dX0_keep_28 ?_
    refine lv_iconst (v := 1) hx hb dX0_keep_31 (by decide) ?_
    refine lv_iadd hx hb dX0_keep_32 ?_
    refine lv_bipush (v := 8) hx hb dX0_keep_33 (by decide) ?_
    refine va_mmin hx hb (by rw [hml]; exact hl.1.symm) hown kw4 kw5 kw6 kw7 (Nat.le_of_ble_eq_true rfl) (Nat.le_of_ble_eq_true rfl) (Nat.zero_le _) (Nat.zero_le _) dX0_keep_35 ?_
    obtain ⟨v_held_8, ev_held_8, h⟩ := bd_some h
    refine rd_top ev_held_8 ?_
    refine rd_put (W1 := (wd_X0 cI cZ cP a_this a_before a_before_e a_before_e_rows v_held_8 v_next_7 (va_up v_before_e_teams 1 v_teams_3) (va_up v_before_e_days 1 v_days_4) (va_up v_before_e_rows 1 v_rows_5)) ++ (wd_X3 cI cZ cP a_p1 a_p1_rows v_p1_teams v_p1_days v_p1_rows)) (C := RX0) (T := TX0) (N := 3) (ci := 0) hx hb hts in_X0_keep_X0 tyX0 tyX0_ok nmX0 hown hK hP hD hS 0 rfl rfl 0 (by decide) kw3 (fun _ h9 => h9) rfl rfl rfl (Nat.le_of_ble_eq_true rfl) rfl dX0_keep_38 (fun H locs hP hD hS => ?_)
    obtain ⟨rfl, rfl, rfl, rfl, rfl⟩ := inj5 h
    exact hret dX0_keep_41 hP hD hS
  · refine W.eq (g2 := F0 m 9 ls [.ref (a_before_e 2)]) rfl ?_
    refine lv_aload_n hx hb dX0_keep_9 rfl (lv_at hl 1 rfl) ?_
    obtain ⟨⟨v_teams_3, v_days_4, v_rows_5⟩, hc_6, h⟩ := bi_some h
    refine rd_callVv [.ref a_p1] [] (wr := [(a_this, .inr (0, [.int v_held, .int v_next, .ref a_before])), (a_before, .inl (cP, 8, .inr (.inr (.inr (.inr (fun i => some (a_before_e i))))))), ((a_before_e 0), .inr (3, [.int ((va_up v_before_e_teams 2 v_teams_3) 0), .int ((va_up v_before_e_days 2 v_days_4) 0), .ref (a_before_e_rows 0)])), ((a_before_e_rows 0), .inl (cI, 182, .inl ((va_up v_before_e_rows 2 v_rows_5) 0))), ((a_before_e 1), .inr (3, [.int ((va_up v_before_e_teams 2 v_teams_3) 1), .int ((va_up v_before_e_days 2 v_days_4) 1), .ref (a_before_e_rows 1)])), ((a_before_e_rows 1), .inl (cI, 182, .inl ((va_up v_before_e_rows 2 v_rows_5) 1))), ((a_before_e 3), .inr (3, [.int ((va_up v_before_e_teams 2 v_teams_3) 3), .int ((va_up v_before_e_days 2 v_days_4) 3), .ref (a_before_e_rows 3)])), ((a_before_e_rows 3), .inl (cI, 182, .inl ((va_up v_before_e_rows 2 v_rows_5) 3))), ((a_before_e 4), .inr (3, [.int ((va_up v_before_e_teams 2 v_teams_3) 4), .int ((va_up v_before_e_days 2 v_days_4) 4), .ref (a_before_e_rows 4)])), ((a_before_e_rows 4), .inl (cI, 182, .inl ((va_up v_before_e_rows 2 v_rows_5) 4))), ((a_before_e 5), .inr (3, [.int ((va_up v_before_e_teams 2 v_teams_3) 5), .int ((va_up v_before_e_days 2 v_days_4) 5), .ref (a_before_e_rows 5)])), ((a_before_e_rows 5), .inl (cI, 182, .inl ((va_up v_before_e_rows 2 v_rows_5) 5))), ((a_before_e 6), .inr (3, [.int ((va_up v_before_e_teams 2 v_teams_3) 6), .int ((va_up v_before_e_days 2 v_days_4) 6), .ref (a_before_e_rows 6)])), ((a_before_e_rows 6), .inl (cI, 182, .inl ((va_up v_before_e_rows 2 v_rows_5) 6))), ((a_before_e 7), .inr (3, [.int ((va_up v_before_e_teams 2 v_teams_3) 7), .int ((va_up v_before_e_days 2 v_days_4) 7), .ref (a_before_e_rows 7)])), ((a_before_e_rows 7), .inl (cI, 182, .inl ((va_up v_before_e_rows 2 v_rows_5) 7)))]) (W1 := (wd_X0 cI cZ cP a_this a_before a_before_e a_before_e_rows v_held v_next (va_up v_before_e_teams 2 v_teams_3) (va_up v_before_e_days 2 v_days_4) (va_up v_before_e_rows 2 v_rows_5)) ++ (wd_X3 cI cZ cP a_p1 a_p1_rows v_p1_teams v_p1_days v_p1_rows)) (ci := 3) ⟨hx, hb, hml, hown, hts⟩ (c_X3_copy l D cI cZ cP (a_before_e 2) (a_before_e_rows 2) a_p1 a_p1_rows (v_before_e_teams 2) (v_before_e_days 2) (v_before_e_rows 2) v_p1_teams v_p1_days v_p1_rows v_teams_3 v_days_4 v_rows_5 hc_6) (cwV 1 hts gX0_keep_X3_copy rfl rfl rfl (by decide +kernel) ⟨Nat.le_of_ble_eq_true rfl, Nat.le_of_ble_eq_true rfl⟩) rfl rfl hl.1 (Nat.le_of_ble_eq_true rfl) dX0_keep_10 ⟨Nat.zero_le _, Nat.zero_le _⟩ hK hP hD hS hA rfl rfl [6, 7, 18, 19] [0, 1, 2, 3, 4, 5, 8, 9, 10, 11, 12, 13, 14, 15, 16, 17] [0, 1, 2, 3, 4, 5, 16, 17, 6, 7, 8, 9, 10, 11, 12, 13, 14, 15, 18, 19] ⟨⟨rfl, rfl, rfl⟩, by decide⟩ (fun H locs hP hD hS => ?_)
    refine lv_aload_n hx hb dX0_keep_13 rfl (lv_at hl 0 rfl) ?_
    refine lv_aload_n hx hb dX0_keep_14 rfl (lv_at hl 0 rfl) ?_
    refine va_get (D := D) (ci := 0) (v := .int v_next) (C := RX0) (T := TX0) (N := 3) hx hb hts in_X0_keep_X0 hown hK hP 0 rfl rfl 1 (by decide) kw2 (fun _ h9 => h9) rfl dX0_keep_15 ?_
    refine lv_iconst (v := 1) hx hb dX0_keep_18 (by decide) ?_
    refine lv_iadd hx hb dX0_keep_19 ?_
    refine lv_bipush (v := 8) hx hb dX0_keep_20 (by decide) ?_
    refine lv_irem hx hb dX0_keep_22 (by decide) ?_
    obtain ⟨v_next_7, ev_next_7, h⟩ := bd_some h
    refine rd_top ev_next_7 ?_
    refine rd_put (W1 := (wd_X0 cI cZ cP a_this a_before a_before_e a_before_e_rows v_held v_next_7 (va_up v_before_e_teams 2 v_teams_3) (va_up v_before_e_days 2 v_days_4) (va_up v_before_e_rows 2 v_rows_5)) ++ (wd_X3 cI cZ cP a_p1 a_p1_rows v_p1_teams v_p1_days v_p1_rows)) (C := RX0) (T := TX0) (N := 3) (ci := 0) hx hb hts in_X0_keep_X0 tyX0 tyX0_ok nmX0 hown hK hP hD hS 0 rfl rfl 1 (by decide) kw2 (fun _ h9 => h9) rfl rfl rfl (Nat.le_of_ble_eq_true rfl) rfl dX0_keep_23 (fun H locs hP hD hS => ?_)
    refine lv_aload_n hx hb dX0_keep_26 rfl (lv_at hl 0 rfl) ?_
    refine lv_aload_n hx hb dX0_keep_27 rfl (lv_at hl 0 rfl) ?_
    refine va_get (D := D) (ci := 0) (v := .int v_held) (C := RX0) (T := TX0) (N := 3) hx hb hts in_X0_keep_X0 hown hK hP 0 rfl rfl 0 (by decide) kw3 (fun _ h9 => h9) rfl dX0_keep_28 ?_
    refine lv_iconst (v := 1) hx hb dX0_keep_31 (by decide) ?_
    refine lv_iadd hx hb dX0_keep_32 ?_
    refine lv_bipush (v := 8) hx hb dX0_keep_33 (by decide) ?_
    refine va_mmin hx hb (by rw [hml]; exact hl.1.symm) hown kw4 kw5 kw6 kw7 (Nat.le_of_ble_eq_true rfl) (Nat.le_of_ble_eq_true rfl) (Nat.zero_le _) (Nat.zero_le _) dX0_keep_35 ?_
    obtain ⟨v_held_8, ev_held_8, h⟩ := bd_some h
    refine rd_top ev_held_8 ?_
    refine rd_put (W1 := (wd_X0 cI cZ cP a_this a_before a_before_e a_before_e_rows v_held_8 v_next_7 (va_up v_before_e_teams 2 v_teams_3) (va_up v_before_e_days 2 v_days_4) (va_up v_before_e_rows 2 v_rows_5)) ++ (wd_X3 cI cZ cP a_p1 a_p1_rows v_p1_teams v_p1_days v_p1_rows)) (C := RX0) (T := TX0) (N := 3) (ci := 0) hx hb hts in_X0_keep_X0 tyX0 tyX0_ok nmX0 hown hK hP hD hS 0 rfl rfl 0 (by decide) kw3 (fun _ h9 => h9) rfl rfl rfl (Nat.le_of_ble_eq_true rfl) rfl dX0_keep_38 (fun H locs hP hD hS => ?_)
    obtain ⟨rfl, rfl, rfl, rfl, rfl⟩ := inj5 h
    exact hret dX0_keep_41 hP hD hS
  · refine W.eq (g2 := F0 m 9 ls [.ref (a_before_e 3)]) rfl ?_
    refine lv_aload_n hx hb dX0_keep_9 rfl (lv_at hl 1 rfl) ?_
    obtain ⟨⟨v_teams_3, v_days_4, v_rows_5⟩, hc_6, h⟩ := bi_some h
    refine rd_callVv [.ref a_p1] [] (wr := [(a_this, .inr (0, [.int v_held, .int v_next, .ref a_before])), (a_before, .inl (cP, 8, .inr (.inr (.inr (.inr (fun i => some (a_before_e i))))))), ((a_before_e 0), .inr (3, [.int ((va_up v_before_e_teams 3 v_teams_3) 0), .int ((va_up v_before_e_days 3 v_days_4) 0), .ref (a_before_e_rows 0)])), ((a_before_e_rows 0), .inl (cI, 182, .inl ((va_up v_before_e_rows 3 v_rows_5) 0))), ((a_before_e 1), .inr (3, [.int ((va_up v_before_e_teams 3 v_teams_3) 1), .int ((va_up v_before_e_days 3 v_days_4) 1), .ref (a_before_e_rows 1)])), ((a_before_e_rows 1), .inl (cI, 182, .inl ((va_up v_before_e_rows 3 v_rows_5) 1))), ((a_before_e 2), .inr (3, [.int ((va_up v_before_e_teams 3 v_teams_3) 2), .int ((va_up v_before_e_days 3 v_days_4) 2), .ref (a_before_e_rows 2)])), ((a_before_e_rows 2), .inl (cI, 182, .inl ((va_up v_before_e_rows 3 v_rows_5) 2))), ((a_before_e 4), .inr (3, [.int ((va_up v_before_e_teams 3 v_teams_3) 4), .int ((va_up v_before_e_days 3 v_days_4) 4), .ref (a_before_e_rows 4)])), ((a_before_e_rows 4), .inl (cI, 182, .inl ((va_up v_before_e_rows 3 v_rows_5) 4))), ((a_before_e 5), .inr (3, [.int ((va_up v_before_e_teams 3 v_teams_3) 5), .int ((va_up v_before_e_days 3 v_days_4) 5), .ref (a_before_e_rows 5)])), ((a_before_e_rows 5), .inl (cI, 182, .inl ((va_up v_before_e_rows 3 v_rows_5) 5))), ((a_before_e 6), .inr (3, [.int ((va_up v_before_e_teams 3 v_teams_3) 6), .int ((va_up v_before_e_days 3 v_days_4) 6), .ref (a_before_e_rows 6)])), ((a_before_e_rows 6), .inl (cI, 182, .inl ((va_up v_before_e_rows 3 v_rows_5) 6))), ((a_before_e 7), .inr (3, [.int ((va_up v_before_e_teams 3 v_teams_3) 7), .int ((va_up v_before_e_days 3 v_days_4) 7), .ref (a_before_e_rows 7)])), ((a_before_e_rows 7), .inl (cI, 182, .inl ((va_up v_before_e_rows 3 v_rows_5) 7)))]) (W1 := (wd_X0 cI cZ cP a_this a_before a_before_e a_before_e_rows v_held v_next (va_up v_before_e_teams 3 v_teams_3) (va_up v_before_e_days 3 v_days_4) (va_up v_before_e_rows 3 v_rows_5)) ++ (wd_X3 cI cZ cP a_p1 a_p1_rows v_p1_teams v_p1_days v_p1_rows)) (ci := 3) ⟨hx, hb, hml, hown, hts⟩ (c_X3_copy l D cI cZ cP (a_before_e 3) (a_before_e_rows 3) a_p1 a_p1_rows (v_before_e_teams 3) (v_before_e_days 3) (v_before_e_rows 3) v_p1_teams v_p1_days v_p1_rows v_teams_3 v_days_4 v_rows_5 hc_6) (cwV 1 hts gX0_keep_X3_copy rfl rfl rfl (by decide +kernel) ⟨Nat.le_of_ble_eq_true rfl, Nat.le_of_ble_eq_true rfl⟩) rfl rfl hl.1 (Nat.le_of_ble_eq_true rfl) dX0_keep_10 ⟨Nat.zero_le _, Nat.zero_le _⟩ hK hP hD hS hA rfl rfl [8, 9, 18, 19] [0, 1, 2, 3, 4, 5, 6, 7, 10, 11, 12, 13, 14, 15, 16, 17] [0, 1, 2, 3, 4, 5, 6, 7, 16, 17, 8, 9, 10, 11, 12, 13, 14, 15, 18, 19] ⟨⟨rfl, rfl, rfl⟩, by decide⟩ (fun H locs hP hD hS => ?_)
    refine lv_aload_n hx hb dX0_keep_13 rfl (lv_at hl 0 rfl) ?_
    refine lv_aload_n hx hb dX0_keep_14 rfl (lv_at hl 0 rfl) ?_
    refine va_get (D := D) (ci := 0) (v := .int v_next) (C := RX0) (T := TX0) (N := 3) hx hb hts in_X0_keep_X0 hown hK hP 0 rfl rfl 1 (by decide) kw2 (fun _ h9 => h9) rfl dX0_keep_15 ?_
    refine lv_iconst (v := 1) hx hb dX0_keep_18 (by decide) ?_
    refine lv_iadd hx hb dX0_keep_19 ?_
    refine lv_bipush (v := 8) hx hb dX0_keep_20 (by decide) ?_
    refine lv_irem hx hb dX0_keep_22 (by decide) ?_
    obtain ⟨v_next_7, ev_next_7, h⟩ := bd_some h
    refine rd_top ev_next_7 ?_
    refine rd_put (W1 := (wd_X0 cI cZ cP a_this a_before a_before_e a_before_e_rows v_held v_next_7 (va_up v_before_e_teams 3 v_teams_3) (va_up v_before_e_days 3 v_days_4) (va_up v_before_e_rows 3 v_rows_5)) ++ (wd_X3 cI cZ cP a_p1 a_p1_rows v_p1_teams v_p1_days v_p1_rows)) (C := RX0) (T := TX0) (N := 3) (ci := 0) hx hb hts in_X0_keep_X0 tyX0 tyX0_ok nmX0 hown hK hP hD hS 0 rfl rfl 1 (by decide) kw2 (fun _ h9 => h9) rfl rfl rfl (Nat.le_of_ble_eq_true rfl) rfl dX0_keep_23 (fun H locs hP hD hS => ?_)
    refine lv_aload_n hx hb dX0_keep_26 rfl (lv_at hl 0 rfl) ?_
    refine lv_aload_n hx hb dX0_keep_27 rfl (lv_at hl 0 rfl) ?_
    refine va_get (D := D) (ci := 0) (v := .int v_held) (C := RX0) (T := TX0) (N := 3) hx hb hts in_X0_keep_X0 hown hK hP 0 rfl rfl 0 (by decide) kw3 (fun _ h9 => h9) rfl dX0_keep_28 ?_
    refine lv_iconst (v := 1) hx hb dX0_keep_31 (by decide) ?_
    refine lv_iadd hx hb dX0_keep_32 ?_
    refine lv_bipush (v := 8) hx hb dX0_keep_33 (by decide) ?_
    refine va_mmin hx hb (by rw [hml]; exact hl.1.symm) hown kw4 kw5 kw6 kw7 (Nat.le_of_ble_eq_true rfl) (Nat.le_of_ble_eq_true rfl) (Nat.zero_le _) (Nat.zero_le _) dX0_keep_35 ?_
    obtain ⟨v_held_8, ev_held_8, h⟩ := bd_some h
    refine rd_top ev_held_8 ?_
    refine rd_put (W1 := (wd_X0 cI cZ cP a_this a_before a_before_e a_before_e_rows v_held_8 v_next_7 (va_up v_before_e_teams 3 v_teams_3) (va_up v_before_e_days 3 v_days_4) (va_up v_before_e_rows 3 v_rows_5)) ++ (wd_X3 cI cZ cP a_p1 a_p1_rows v_p1_teams v_p1_days v_p1_rows)) (C := RX0) (T := TX0) (N := 3) (ci := 0) hx hb hts in_X0_keep_X0 tyX0 tyX0_ok nmX0 hown hK hP hD hS 0 rfl rfl 0 (by decide) kw3 (fun _ h9 => h9) rfl rfl rfl (Nat.le_of_ble_eq_true rfl) rfl dX0_keep_38 (fun H locs hP hD hS => ?_)
    obtain ⟨rfl, rfl, rfl, rfl, rfl⟩ := inj5 h
    exact hret dX0_keep_41 hP hD hS
  · refine W.eq (g2 := F0 m 9 ls [.ref (a_before_e 4)]) rfl ?_
    refine lv_aload_n hx hb dX0_keep_9 rfl (lv_at hl 1 rfl) ?_
    obtain ⟨⟨v_teams_3, v_days_4, v_rows_5⟩, hc_6, h⟩ := bi_some h
    refine rd_callVv [.ref a_p1] [] (wr := [(a_this, .inr (0, [.int v_held, .int v_next, .ref a_before])), (a_before, .inl (cP, 8, .inr (.inr (.inr (.inr (fun i => some (a_before_e i))))))), ((a_before_e 0), .inr (3, [.int ((va_up v_before_e_teams 4 v_teams_3) 0), .int ((va_up v_before_e_days 4 v_days_4) 0), .ref (a_before_e_rows 0)])), ((a_before_e_rows 0), .inl (cI, 182, .inl ((va_up v_before_e_rows 4 v_rows_5) 0))), ((a_before_e 1), .inr (3, [.int ((va_up v_before_e_teams 4 v_teams_3) 1), .int ((va_up v_before_e_days 4 v_days_4) 1), .ref (a_before_e_rows 1)])), ((a_before_e_rows 1), .inl (cI, 182, .inl ((va_up v_before_e_rows 4 v_rows_5) 1))), ((a_before_e 2), .inr (3, [.int ((va_up v_before_e_teams 4 v_teams_3) 2), .int ((va_up v_before_e_days 4 v_days_4) 2), .ref (a_before_e_rows 2)])), ((a_before_e_rows 2), .inl (cI, 182, .inl ((va_up v_before_e_rows 4 v_rows_5) 2))), ((a_before_e 3), .inr (3, [.int ((va_up v_before_e_teams 4 v_teams_3) 3), .int ((va_up v_before_e_days 4 v_days_4) 3), .ref (a_before_e_rows 3)])), ((a_before_e_rows 3), .inl (cI, 182, .inl ((va_up v_before_e_rows 4 v_rows_5) 3))), ((a_before_e 5), .inr (3, [.int ((va_up v_before_e_teams 4 v_teams_3) 5), .int ((va_up v_before_e_days 4 v_days_4) 5), .ref (a_before_e_rows 5)])), ((a_before_e_rows 5), .inl (cI, 182, .inl ((va_up v_before_e_rows 4 v_rows_5) 5))), ((a_before_e 6), .inr (3, [.int ((va_up v_before_e_teams 4 v_teams_3) 6), .int ((va_up v_before_e_days 4 v_days_4) 6), .ref (a_before_e_rows 6)])), ((a_before_e_rows 6), .inl (cI, 182, .inl ((va_up v_before_e_rows 4 v_rows_5) 6))), ((a_before_e 7), .inr (3, [.int ((va_up v_before_e_teams 4 v_teams_3) 7), .int ((va_up v_before_e_days 4 v_days_4) 7), .ref (a_before_e_rows 7)])), ((a_before_e_rows 7), .inl (cI, 182, .inl ((va_up v_before_e_rows 4 v_rows_5) 7)))]) (W1 := (wd_X0 cI cZ cP a_this a_before a_before_e a_before_e_rows v_held v_next (va_up v_before_e_teams 4 v_teams_3) (va_up v_before_e_days 4 v_days_4) (va_up v_before_e_rows 4 v_rows_5)) ++ (wd_X3 cI cZ cP a_p1 a_p1_rows v_p1_teams v_p1_days v_p1_rows)) (ci := 3) ⟨hx, hb, hml, hown, hts⟩ (c_X3_copy l D cI cZ cP (a_before_e 4) (a_before_e_rows 4) a_p1 a_p1_rows (v_before_e_teams 4) (v_before_e_days 4) (v_before_e_rows 4) v_p1_teams v_p1_days v_p1_rows v_teams_3 v_days_4 v_rows_5 hc_6) (cwV 1 hts gX0_keep_X3_copy rfl rfl rfl (by decide +kernel) ⟨Nat.le_of_ble_eq_true rfl, Nat.le_of_ble_eq_true rfl⟩) rfl rfl hl.1 (Nat.le_of_ble_eq_true rfl) dX0_keep_10 ⟨Nat.zero_le _, Nat.zero_le _⟩ hK hP hD hS hA rfl rfl [10, 11, 18, 19] [0, 1, 2, 3, 4, 5, 6, 7, 8, 9, 12, 13, 14, 15, 16, 17] [0, 1, 2, 3, 4, 5, 6, 7, 8, 9, 16, 17, 10, 11, 12, 13, 14, 15, 18, 19] ⟨⟨rfl, rfl, rfl⟩, by decide⟩ (fun H locs hP hD hS => ?_)
    refine lv_aload_n hx hb dX0_keep_13 rfl (lv_at hl 0 rfl) ?_
    refine lv_aload_n hx hb dX0_keep_14 rfl (lv_at hl 0 rfl) ?_
    refine va_get (D := D) (ci := 0) (v := .int v_next) (C := RX0) (T := TX0) (N := 3) hx hb hts in_X0_keep_X0 hown hK hP 0 rfl rfl 1 (by decide) kw2 (fun _ h9 => h9) rfl dX0_keep_15 ?_
    refine lv_iconst (v := 1) hx hb dX0_keep_18 (by decide) ?_
    refine lv_iadd hx hb dX0_keep_19 ?_
    refine lv_bipush (v := 8) hx hb dX0_keep_20 (by decide) ?_
    refine lv_irem hx hb dX0_keep_22 (by decide) ?_
    obtain ⟨v_next_7, ev_next_7, h⟩ := bd_some h
    refine rd_top ev_next_7 ?_
    refine rd_put (W1 := (wd_X0 cI cZ cP a_this a_before a_before_e a_before_e_rows v_held v_next_7 (va_up v_before_e_teams 4 v_teams_3) (va_up v_before_e_days 4 v_days_4) (va_up v_before_e_rows 4 v_rows_5)) ++ (wd_X3 cI cZ cP a_p1 a_p1_rows v_p1_teams v_p1_days v_p1_rows)) (C := RX0) (T := TX0) (N := 3) (ci := 0) hx hb hts in_X0_keep_X0 tyX0 tyX0_ok nmX0 hown hK hP hD hS 0 rfl rfl 1 (by decide) kw2 (fun _ h9 => h9) rfl rfl rfl (Nat.le_of_ble_eq_true rfl) rfl dX0_keep_23 (fun H locs hP hD hS => ?_)
    refine lv_aload_n hx hb dX0_keep_26 rfl (lv_at hl 0 rfl) ?_
    refine lv_aload_n hx hb dX0_keep_27 rfl (lv_at hl 0 rfl) ?_
    refine va_get (D := D) (ci := 0) (v := .int v_held) (C := RX0) (T := TX0) (N := 3) hx hb hts in_X0_keep_X0 hown hK hP 0 rfl rfl 0 (by decide) kw3 (fun _ h9 => h9) rfl dX0_keep_28 ?_
    refine lv_iconst (v := 1) hx hb dX0_keep_31 (by decide) ?_
    refine lv_iadd hx hb dX0_keep_32 ?_
    refine lv_bipush (v := 8) hx hb dX0_keep_33 (by decide) ?_
    refine va_mmin hx hb (by rw [hml]; exact hl.1.symm) hown kw4 kw5 kw6 kw7 (Nat.le_of_ble_eq_true rfl) (Nat.le_of_ble_eq_true rfl) (Nat.zero_le _) (Nat.zero_le _) dX0_keep_35 ?_
    obtain ⟨v_held_8, ev_held_8, h⟩ := bd_some h
    refine rd_top ev_held_8 ?_
    refine rd_put (W1 := (wd_X0 cI cZ cP a_this a_before a_before_e a_before_e_rows v_held_8 v_next_7 (va_up v_before_e_teams 4 v_teams_3) (va_up v_before_e_days 4 v_days_4) (va_up v_before_e_rows 4 v_rows_5)) ++ (wd_X3 cI cZ cP a_p1 a_p1_rows v_p1_teams v_p1_days v_p1_rows)) (C := RX0) (T := TX0) (N := 3) (ci := 0) hx hb hts in_X0_keep_X0 tyX0 tyX0_ok nmX0 hown hK hP hD hS 0 rfl rfl 0 (by decide) kw3 (fun _ h9 => h9) rfl rfl rfl (Nat.le_of_ble_eq_true rfl) rfl dX0_keep_38 (fun H locs hP hD hS => ?_)
    obtain ⟨rfl, rfl, rfl, rfl, rfl⟩ := inj5 h
    exact hret dX0_keep_41 hP hD hS
  · refine W.eq (g2 := F0 m 9 ls [.ref (a_before_e 5)]) rfl ?_
    refine lv_aload_n hx hb dX0_keep_9 rfl (lv_at hl 1 rfl) ?_
    obtain ⟨⟨v_teams_3, v_days_4, v_rows_5⟩, hc_6, h⟩ := bi_some h
    refine rd_callVv [.ref a_p1] [] (wr := [(a_this, .inr (0, [.int v_held, .int v_next, .ref a_before])), (a_before, .inl (cP, 8, .inr (.inr (.inr (.inr (fun i => some (a_before_e i))))))), ((a_before_e 0), .inr (3, [.int ((va_up v_before_e_teams 5 v_teams_3) 0), .int ((va_up v_before_e_days 5 v_days_4) 0), .ref (a_before_e_rows 0)])), ((a_before_e_rows 0), .inl (cI, 182, .inl ((va_up v_before_e_rows 5 v_rows_5) 0))), ((a_before_e 1), .inr (3, [.int ((va_up v_before_e_teams 5 v_teams_3) 1), .int ((va_up v_before_e_days 5 v_days_4) 1), .ref (a_before_e_rows 1)])), ((a_before_e_rows 1), .inl (cI, 182, .inl ((va_up v_before_e_rows 5 v_rows_5) 1))), ((a_before_e 2), .inr (3, [.int ((va_up v_before_e_teams 5 v_teams_3) 2), .int ((va_up v_before_e_days 5 v_days_4) 2), .ref (a_before_e_rows 2)])), ((a_before_e_rows 2), .inl (cI, 182, .inl ((va_up v_before_e_rows 5 v_rows_5) 2))), ((a_before_e 3), .inr (3, [.int ((va_up v_before_e_teams 5 v_teams_3) 3), .int ((va_up v_before_e_days 5 v_days_4) 3), .ref (a_before_e_rows 3)])), ((a_before_e_rows 3), .inl (cI, 182, .inl ((va_up v_before_e_rows 5 v_rows_5) 3))), ((a_before_e 4), .inr (3, [.int ((va_up v_before_e_teams 5 v_teams_3) 4), .int ((va_up v_before_e_days 5 v_days_4) 4), .ref (a_before_e_rows 4)])), ((a_before_e_rows 4), .inl (cI, 182, .inl ((va_up v_before_e_rows 5 v_rows_5) 4))), ((a_before_e 6), .inr (3, [.int ((va_up v_before_e_teams 5 v_teams_3) 6), .int ((va_up v_before_e_days 5 v_days_4) 6), .ref (a_before_e_rows 6)])), ((a_before_e_rows 6), .inl (cI, 182, .inl ((va_up v_before_e_rows 5 v_rows_5) 6))), ((a_before_e 7), .inr (3, [.int ((va_up v_before_e_teams 5 v_teams_3) 7), .int ((va_up v_before_e_days 5 v_days_4) 7), .ref (a_before_e_rows 7)])), ((a_before_e_rows 7), .inl (cI, 182, .inl ((va_up v_before_e_rows 5 v_rows_5) 7)))]) (W1 := (wd_X0 cI cZ cP a_this a_before a_before_e a_before_e_rows v_held v_next (va_up v_before_e_teams 5 v_teams_3) (va_up v_before_e_days 5 v_days_4) (va_up v_before_e_rows 5 v_rows_5)) ++ (wd_X3 cI cZ cP a_p1 a_p1_rows v_p1_teams v_p1_days v_p1_rows)) (ci := 3) ⟨hx, hb, hml, hown, hts⟩ (c_X3_copy l D cI cZ cP (a_before_e 5) (a_before_e_rows 5) a_p1 a_p1_rows (v_before_e_teams 5) (v_before_e_days 5) (v_before_e_rows 5) v_p1_teams v_p1_days v_p1_rows v_teams_3 v_days_4 v_rows_5 hc_6) (cwV 1 hts gX0_keep_X3_copy rfl rfl rfl (by decide +kernel) ⟨Nat.le_of_ble_eq_true rfl, Nat.le_of_ble_eq_true rfl⟩) rfl rfl hl.1 (Nat.le_of_ble_eq_true rfl) dX0_keep_10 ⟨Nat.zero_le _, Nat.zero_le _⟩ hK hP hD hS hA rfl rfl [12, 13, 18, 19] [0, 1, 2, 3, 4, 5, 6, 7, 8, 9, 10, 11, 14, 15, 16, 17] [0, 1, 2, 3, 4, 5, 6, 7, 8, 9, 10, 11, 16, 17, 12, 13, 14, 15, 18, 19] ⟨⟨rfl, rfl, rfl⟩, by decide⟩ (fun H locs hP hD hS => ?_)
    refine lv_aload_n hx hb dX0_keep_13 rfl (lv_at hl 0 rfl) ?_
    refine lv_aload_n hx hb dX0_keep_14 rfl (lv_at hl 0 rfl) ?_
    refine va_get (D := D) (ci := 0) (v := .int v_next) (C := RX0) (T := TX0) (N := 3) hx hb hts in_X0_keep_X0 hown hK hP 0 rfl rfl 1 (by decide) kw2 (fun _ h9 => h9) rfl dX0_keep_15 ?_
    refine lv_iconst (v := 1) hx hb dX0_keep_18 (by decide) ?_
    refine lv_iadd hx hb dX0_keep_19 ?_
    refine lv_bipush (v := 8) hx hb dX0_keep_20 (by decide) ?_
    refine lv_irem hx hb dX0_keep_22 (by decide) ?_
    obtain ⟨v_next_7, ev_next_7, h⟩ := bd_some h
    refine rd_top ev_next_7 ?_
    refine rd_put (W1 := (wd_X0 cI cZ cP a_this a_before a_before_e a_before_e_rows v_held v_next_7 (va_up v_before_e_teams 5 v_teams_3) (va_up v_before_e_days 5 v_days_4) (va_up v_before_e_rows 5 v_rows_5)) ++ (wd_X3 cI cZ cP a_p1 a_p1_rows v_p1_teams v_p1_days v_p1_rows)) (C := RX0) (T := TX0) (N := 3) (ci := 0) hx hb hts in_X0_keep_X0 tyX0 tyX0_ok nmX0 hown hK hP hD hS 0 rfl rfl 1 (by decide) kw2 (fun _ h9 => h9) rfl rfl rfl (Nat.le_of_ble_eq_true rfl) rfl dX0_keep_23 (fun H locs hP hD hS => ?_)
    refine lv_aload_n hx hb dX0_keep_26 rfl (lv_at hl 0 rfl) ?_
    refine lv_aload_n hx hb dX0_keep_27 rfl (lv_at hl 0 rfl) ?_
    refine va_get (D := D) (ci := 0) (v := .int v_held) (C := RX0) (T := TX0) (N := 3) hx hb hts in_X0_keep_X0 hown hK hP 0 rfl rfl 0 (by decide) kw3 (fun _ h9 => h9) rfl dX0_keep_28 ?_
    refine lv_iconst (v := 1) hx hb dX0_keep_31 (by decide) ?_
    refine lv_iadd hx hb dX0_keep_32 ?_
    refine lv_bipush (v := 8) hx hb dX0_keep_33 (by decide) ?_
    refine va_mmin hx hb (by rw [hml]; exact hl.1.symm) hown kw4 kw5 kw6 kw7 (Nat.le_of_ble_eq_true rfl) (Nat.le_of_ble_eq_true rfl) (Nat.zero_le _) (Nat.zero_le _) dX0_keep_35 ?_
    obtain ⟨v_held_8, ev_held_8, h⟩ := bd_some h
    refine rd_top ev_held_8 ?_
    refine rd_put (W1 := (wd_X0 cI cZ cP a_this a_before a_before_e a_before_e_rows v_held_8 v_next_7 (va_up v_before_e_teams 5 v_teams_3) (va_up v_before_e_days 5 v_days_4) (va_up v_before_e_rows 5 v_rows_5)) ++ (wd_X3 cI cZ cP a_p1 a_p1_rows v_p1_teams v_p1_days v_p1_rows)) (C := RX0) (T := TX0) (N := 3) (ci := 0) hx hb hts in_X0_keep_X0 tyX0 tyX0_ok nmX0 hown hK hP hD hS 0 rfl rfl 0 (by decide) kw3 (fun _ h9 => h9) rfl rfl rfl (Nat.le_of_ble_eq_true rfl) rfl dX0_keep_38 (fun H locs hP hD hS => ?_)
    obtain ⟨rfl, rfl, rfl, rfl, rfl⟩ := inj5 h
    exact hret dX0_keep_41 hP hD hS
  · refine W.eq (g2 := F0 m 9 ls [.ref (a_before_e 6)]) rfl ?_
    refine lv_aload_n hx hb dX0_keep_9 rfl (lv_at hl 1 rfl) ?_
    obtain ⟨⟨v_teams_3, v_days_4, v_rows_5⟩, hc_6, h⟩ := bi_some h
    refine rd_callVv [.ref a_p1] [] (wr := [(a_this, .inr (0, [.int v_held, .int v_next, .ref a_before])), (a_before, .inl (cP, 8, .inr (.inr (.inr (.inr (fun i => some (a_before_e i))))))), ((a_before_e 0), .inr (3, [.int ((va_up v_before_e_teams 6 v_teams_3) 0), .int ((va_up v_before_e_days 6 v_days_4) 0), .ref (a_before_e_rows 0)])), ((a_before_e_rows 0), .inl (cI, 182, .inl ((va_up v_before_e_rows 6 v_rows_5) 0))), ((a_before_e 1), .inr (3, [.int ((va_up v_before_e_teams 6 v_teams_3) 1), .int ((va_up v_before_e_days 6 v_days_4) 1), .ref (a_before_e_rows 1)])), ((a_before_e_rows 1), .inl (cI, 182, .inl ((va_up v_before_e_rows 6 v_rows_5) 1))), ((a_before_e 2), .inr (3, [.int ((va_up v_before_e_teams 6 v_teams_3) 2), .int ((va_up v_before_e_days 6 v_days_4) 2), .ref (a_before_e_rows 2)])), ((a_before_e_rows 2), .inl (cI, 182, .inl ((va_up v_before_e_rows 6 v_rows_5) 2))), ((a_before_e 3), .inr (3, [.int ((va_up v_before_e_teams 6 v_teams_3) 3), .int ((va_up v_before_e_days 6 v_days_4) 3), .ref (a_before_e_rows 3)])), ((a_before_e_rows 3), .inl (cI, 182, .inl ((va_up v_before_e_rows 6 v_rows_5) 3))), ((a_before_e 4), .inr (3, [.int ((va_up v_before_e_teams 6 v_teams_3) 4), .int ((va_up v_before_e_days 6 v_days_4) 4), .ref (a_before_e_rows 4)])), ((a_before_e_rows 4), .inl (cI, 182, .inl ((va_up v_before_e_rows 6 v_rows_5) 4))), ((a_before_e 5), .inr (3, [.int ((va_up v_before_e_teams 6 v_teams_3) 5), .int ((va_up v_before_e_days 6 v_days_4) 5), .ref (a_before_e_rows 5)])), ((a_before_e_rows 5), .inl (cI, 182, .inl ((va_up v_before_e_rows 6 v_rows_5) 5))), ((a_before_e 7), .inr (3, [.int ((va_up v_before_e_teams 6 v_teams_3) 7), .int ((va_up v_before_e_days 6 v_days_4) 7), .ref (a_before_e_rows 7)])), ((a_before_e_rows 7), .inl (cI, 182, .inl ((va_up v_before_e_rows 6 v_rows_5) 7)))]) (W1 := (wd_X0 cI cZ cP a_this a_before a_before_e a_before_e_rows v_held v_next (va_up v_before_e_teams 6 v_teams_3) (va_up v_before_e_days 6 v_days_4) (va_up v_before_e_rows 6 v_rows_5)) ++ (wd_X3 cI cZ cP a_p1 a_p1_rows v_p1_teams v_p1_days v_p1_rows)) (ci := 3) ⟨hx, hb, hml, hown, hts⟩ (c_X3_copy l D cI cZ cP (a_before_e 6) (a_before_e_rows 6) a_p1 a_p1_rows (v_before_e_teams 6) (v_before_e_days 6) (v_before_e_rows 6) v_p1_teams v_p1_days v_p1_rows v_teams_3 v_days_4 v_rows_5 hc_6) (cwV 1 hts gX0_keep_X3_copy rfl rfl rfl (by decide +kernel) ⟨Nat.le_of_ble_eq_true rfl, Nat.le_of_ble_eq_true rfl⟩) rfl rfl hl.1 (Nat.le_of_ble_eq_true rfl) dX0_keep_10 ⟨Nat.zero_le _, Nat.zero_le _⟩ hK hP hD hS hA rfl rfl [14, 15, 18, 19] [0, 1, 2, 3, 4, 5, 6, 7, 8, 9, 10, 11, 12, 13, 16, 17] [0, 1, 2, 3, 4, 5, 6, 7, 8, 9, 10, 11, 12, 13, 16, 17, 14, 15, 18, 19] ⟨⟨rfl, rfl, rfl⟩, by decide⟩ (fun H locs hP hD hS => ?_)
    refine lv_aload_n hx hb dX0_keep_13 rfl (lv_at hl 0 rfl) ?_
    refine lv_aload_n hx hb dX0_keep_14 rfl (lv_at hl 0 rfl) ?_
    refine va_get (D := D) (ci := 0) (v := .int v_next) (C := RX0) (T := TX0) (N := 3) hx hb hts in_X0_keep_X0 hown hK hP 0 rfl rfl 1 (by decide) kw2 (fun _ h9 => h9) rfl dX0_keep_15 ?_
    refine lv_iconst (v := 1) hx hb dX0_keep_18 (by decide) ?_
    refine lv_iadd hx hb dX0_keep_19 ?_
    refine lv_bipush (v := 8) hx hb dX0_keep_20 (by decide) ?_
    refine lv_irem hx hb dX0_keep_22 (by decide) ?_
    obtain ⟨v_next_7, ev_next_7, h⟩ := bd_some h
    refine rd_top ev_next_7 ?_
    refine rd_put (W1 := (wd_X0 cI cZ cP a_this a_before a_before_e a_before_e_rows v_held v_next_7 (va_up v_before_e_teams 6 v_teams_3) (va_up v_before_e_days 6 v_days_4) (va_up v_before_e_rows 6 v_rows_5)) ++ (wd_X3 cI cZ cP a_p1 a_p1_rows v_p1_teams v_p1_days v_p1_rows)) (C := RX0) (T := TX0) (N := 3) (ci := 0) hx hb hts in_X0_keep_X0 tyX0 tyX0_ok nmX0 hown hK hP hD hS 0 rfl rfl 1 (by decide) kw2 (fun _ h9 => h9) rfl rfl rfl (Nat.le_of_ble_eq_true rfl) rfl dX0_keep_23 (fun H locs hP hD hS => ?_)
    refine lv_aload_n hx hb dX0_keep_26 rfl (lv_at hl 0 rfl) ?_
    refine lv_aload_n hx hb dX0_keep_27 rfl (lv_at hl 0 rfl) ?_
    refine va_get (D := D) (ci := 0) (v := .int v_held) (C := RX0) (T := TX0) (N := 3) hx hb hts in_X0_keep_X0 hown hK hP 0 rfl rfl 0 (by decide) kw3 (fun _ h9 => h9) rfl dX0_keep_28 ?_
    refine lv_iconst (v := 1) hx hb dX0_keep_31 (by decide) ?_
    refine lv_iadd hx hb dX0_keep_32 ?_
    refine lv_bipush (v := 8) hx hb dX0_keep_33 (by decide) ?_
    refine va_mmin hx hb (by rw [hml]; exact hl.1.symm) hown kw4 kw5 kw6 kw7 (Nat.le_of_ble_eq_true rfl) (Nat.le_of_ble_eq_true rfl) (Nat.zero_le _) (Nat.zero_le _) dX0_keep_35 ?_
    obtain ⟨v_held_8, ev_held_8, h⟩ := bd_some h
    refine rd_top ev_held_8 ?_
    refine rd_put (W1 := (wd_X0 cI cZ cP a_this a_before a_before_e a_before_e_rows v_held_8 v_next_7 (va_up v_before_e_teams 6 v_teams_3) (va_up v_before_e_days 6 v_days_4) (va_up v_before_e_rows 6 v_rows_5)) ++ (wd_X3 cI cZ cP a_p1 a_p1_rows v_p1_teams v_p1_days v_p1_rows)) (C := RX0) (T := TX0) (N := 3) (ci := 0) hx hb hts in_X0_keep_X0 tyX0 tyX0_ok nmX0 hown hK hP hD hS 0 rfl rfl 0 (by decide) kw3 (fun _ h9 => h9) rfl rfl rfl (Nat.le_of_ble_eq_true rfl) rfl dX0_keep_38 (fun H locs hP hD hS => ?_)
    obtain ⟨rfl, rfl, rfl, rfl, rfl⟩ := inj5 h
    exact hret dX0_keep_41 hP hD hS
  · refine W.eq (g2 := F0 m 9 ls [.ref (a_before_e 7)]) rfl ?_
    refine lv_aload_n hx hb dX0_keep_9 rfl (lv_at hl 1 rfl) ?_
    obtain ⟨⟨v_teams_3, v_days_4, v_rows_5⟩, hc_6, h⟩ := bi_some h
    refine rd_callVv [.ref a_p1] [] (wr := [(a_this, .inr (0, [.int v_held, .int v_next, .ref a_before])), (a_before, .inl (cP, 8, .inr (.inr (.inr (.inr (fun i => some (a_before_e i))))))), ((a_before_e 0), .inr (3, [.int ((va_up v_before_e_teams 7 v_teams_3) 0), .int ((va_up v_before_e_days 7 v_days_4) 0), .ref (a_before_e_rows 0)])), ((a_before_e_rows 0), .inl (cI, 182, .inl ((va_up v_before_e_rows 7 v_rows_5) 0))), ((a_before_e 1), .inr (3, [.int ((va_up v_before_e_teams 7 v_teams_3) 1), .int ((va_up v_before_e_days 7 v_days_4) 1), .ref (a_before_e_rows 1)])), ((a_before_e_rows 1), .inl (cI, 182, .inl ((va_up v_before_e_rows 7 v_rows_5) 1))), ((a_before_e 2), .inr (3, [.int ((va_up v_before_e_teams 7 v_teams_3) 2), .int ((va_up v_before_e_days 7 v_days_4) 2), .ref (a_before_e_rows 2)])), ((a_before_e_rows 2), .inl (cI, 182, .inl ((va_up v_before_e_rows 7 v_rows_5) 2))), ((a_before_e 3), .inr (3, [.int ((va_up v_before_e_teams 7 v_teams_3) 3), .int ((va_up v_before_e_days 7 v_days_4) 3), .ref (a_before_e_rows 3)])), ((a_before_e_rows 3), .inl (cI, 182, .inl ((va_up v_before_e_rows 7 v_rows_5) 3))), ((a_before_e 4), .inr (3, [.int ((va_up v_before_e_teams 7 v_teams_3) 4), .int ((va_up v_before_e_days 7 v_days_4) 4), .ref (a_before_e_rows 4)])), ((a_before_e_rows 4), .inl (cI, 182, .inl ((va_up v_before_e_rows 7 v_rows_5) 4))), ((a_before_e 5), .inr (3, [.int ((va_up v_before_e_teams 7 v_teams_3) 5), .int ((va_up v_before_e_days 7 v_days_4) 5), .ref (a_before_e_rows 5)])), ((a_before_e_rows 5), .inl (cI, 182, .inl ((va_up v_before_e_rows 7 v_rows_5) 5))), ((a_before_e 6), .inr (3, [.int ((va_up v_before_e_teams 7 v_teams_3) 6), .int ((va_up v_before_e_days 7 v_days_4) 6), .ref (a_before_e_rows 6)])), ((a_before_e_rows 6), .inl (cI, 182, .inl ((va_up v_before_e_rows 7 v_rows_5) 6)))]) (W1 := (wd_X0 cI cZ cP a_this a_before a_before_e a_before_e_rows v_held v_next (va_up v_before_e_teams 7 v_teams_3) (va_up v_before_e_days 7 v_days_4) (va_up v_before_e_rows 7 v_rows_5)) ++ (wd_X3 cI cZ cP a_p1 a_p1_rows v_p1_teams v_p1_days v_p1_rows)) (ci := 3) ⟨hx, hb, hml, hown, hts⟩ (c_X3_copy l D cI cZ cP (a_before_e 7) (a_before_e_rows 7) a_p1 a_p1_rows (v_before_e_teams 7) (v_before_e_days 7) (v_before_e_rows 7) v_p1_teams v_p1_days v_p1_rows v_teams_3 v_days_4 v_rows_5 hc_6) (cwV 1 hts gX0_keep_X3_copy rfl rfl rfl (by decide +kernel) ⟨Nat.le_of_ble_eq_true rfl, Nat.le_of_ble_eq_true rfl⟩) rfl rfl hl.1 (Nat.le_of_ble_eq_true rfl) dX0_keep_10 ⟨Nat.zero_le _, Nat.zero_le _⟩ hK hP hD hS hA rfl rfl [16, 17, 18, 19] [0, 1, 2, 3, 4, 5, 6, 7, 8, 9, 10, 11, 12, 13, 14, 15] [0, 1, 2, 3, 4, 5, 6, 7, 8, 9, 10, 11, 12, 13, 14, 15, 16, 17, 18, 19] ⟨⟨rfl, rfl, rfl⟩, by decide⟩ (fun H locs hP hD hS => ?_)
    refine lv_aload_n hx hb dX0_keep_13 rfl (lv_at hl 0 rfl) ?_
    refine lv_aload_n hx hb dX0_keep_14 rfl (lv_at hl 0 rfl) ?_
    refine va_get (D := D) (ci := 0) (v := .int v_next) (C := RX0) (T := TX0) (N := 3) hx hb hts in_X0_keep_X0 hown hK hP 0 rfl rfl 1 (by decide) kw2 (fun _ h9 => h9) rfl dX0_keep_15 ?_
    refine lv_iconst (v := 1) hx hb dX0_keep_18 (by decide) ?_
    refine lv_iadd hx hb dX0_keep_19 ?_
    refine lv_bipush (v := 8) hx hb dX0_keep_20 (by decide) ?_
    refine lv_irem hx hb dX0_keep_22 (by decide) ?_
    obtain ⟨v_next_7, ev_next_7, h⟩ := bd_some h
    refine rd_top ev_next_7 ?_
    refine rd_put (W1 := (wd_X0 cI cZ cP a_this a_before a_before_e a_before_e_rows v_held v_next_7 (va_up v_before_e_teams 7 v_teams_3) (va_up v_before_e_days 7 v_days_4) (va_up v_before_e_rows 7 v_rows_5)) ++ (wd_X3 cI cZ cP a_p1 a_p1_rows v_p1_teams v_p1_days v_p1_rows)) (C := RX0) (T := TX0) (N := 3) (ci := 0) hx hb hts in_X0_keep_X0 tyX0 tyX0_ok nmX0 hown hK hP hD hS 0 rfl rfl 1 (by decide) kw2 (fun _ h9 => h9) rfl rfl rfl (Nat.le_of_ble_eq_true rfl) rfl dX0_keep_23 (fun H locs hP hD hS => ?_)
    refine lv_aload_n hx hb dX0_keep_26 rfl (lv_at hl 0 rfl) ?_
    refine lv_aload_n hx hb dX0_keep_27 rfl (lv_at hl 0 rfl) ?_
    refine va_get (D := D) (ci := 0) (v := .int v_held) (C := RX0) (T := TX0) (N := 3) hx hb hts in_X0_keep_X0 hown hK hP 0 rfl rfl 0 (by decide) kw3 (fun _ h9 => h9) rfl dX0_keep_28 ?_
    refine lv_iconst (v := 1) hx hb dX0_keep_31 (by decide) ?_
    refine lv_iadd hx hb dX0_keep_32 ?_
    refine lv_bipush (v := 8) hx hb dX0_keep_33 (by decide) ?_
    refine va_mmin hx hb (by rw [hml]; exact hl.1.symm) hown kw4 kw5 kw6 kw7 (Nat.le_of_ble_eq_true rfl) (Nat.le_of_ble_eq_true rfl) (Nat.zero_le _) (Nat.zero_le _) dX0_keep_35 ?_
    obtain ⟨v_held_8, ev_held_8, h⟩ := bd_some h
    refine rd_top ev_held_8 ?_
    refine rd_put (W1 := (wd_X0 cI cZ cP a_this a_before a_before_e a_before_e_rows v_held_8 v_next_7 (va_up v_before_e_teams 7 v_teams_3) (va_up v_before_e_days 7 v_days_4) (va_up v_before_e_rows 7 v_rows_5)) ++ (wd_X3 cI cZ cP a_p1 a_p1_rows v_p1_teams v_p1_days v_p1_rows)) (C := RX0) (T := TX0) (N := 3) (ci := 0) hx hb hts in_X0_keep_X0 tyX0 tyX0_ok nmX0 hown hK hP hD hS 0 rfl rfl 0 (by decide) kw3 (fun _ h9 => h9) rfl rfl rfl (Nat.le_of_ble_eq_true rfl) rfl dX0_keep_38 (fun H locs hP hD hS => ?_)
    obtain ⟨rfl, rfl, rfl, rfl, rfl⟩ := inj5 h
    exact hret dX0_keep_41 hP hD hS
theorem in_X0_takeBack_X0 : ∀ w ∈ wsX00, w ∈ wsX0_takeBack := by decide +kernel
def f_X0_takeBack (v_held : Int32) (v_next : Int32) (v_before_e_teams : Nat → Int32) (v_before_e_days : Nat → Int32) (v_before_e_rows : Nat → Nat → Int32) (v_p1_teams : Int32) (v_p1_days : Int32) (v_p1_rows : Nat → Int32) : Option (Int32 × Int32 × Int32 × Int32 × Int32 × (Nat → Int32)) := if v_held = 0 then some ((0 : Int32), v_held, v_next, v_p1_teams, v_p1_days, v_p1_rows) else bd (((v_next + (8 : Int32)) - (1 : Int32)) - ((v_next + (8 : Int32)) - (1 : Int32)) / (8 : Int32) * (8 : Int32)) (fun v_next_2 => bd (v_held - (1 : Int32)) (fun v_held_3 => if inb v_next_2 8 then bd v_next_2.toNatClampNeg (fun j_5 => (f_X3_copy v_p1_teams v_p1_days v_p1_rows (v_before_e_teams j_5) (v_before_e_days j_5) (v_before_e_rows j_5)).bind (fun t => match t with | (v_teams_6, v_days_7, v_rows_8) => some ((1 : Int32), v_held_3, v_next_2, v_teams_6, v_days_7, v_rows_8))) else none))
set_option maxHeartbeats 4000000 in
set_option maxRecDepth 100000 in
theorem c_X0_takeBack (l : Launch) (D : va_G) (cI cZ cP : ClassId) (a_this : Nat) (a_before : Nat) (a_before_e : Nat → Nat) (a_before_e_rows : Nat → Nat) (a_p1 : Nat) (a_p1_rows : Nat) (v_held : Int32) (v_next : Int32) (v_before_e_teams : Nat → Int32) (v_before_e_days : Nat → Int32) (v_before_e_rows : Nat → Nat → Int32) (v_p1_teams : Int32) (v_p1_days : Int32) (v_p1_rows : Nat → Int32) (r : Int32) (nv_held : Int32) (nv_next : Int32) (nv_p1_teams : Int32) (nv_p1_days : Int32) (nv_p1_rows : Nat → Int32) (h : f_X0_takeBack v_held v_next v_before_e_teams v_before_e_days v_before_e_rows v_p1_teams v_p1_days v_p1_rows = some (r, nv_held, nv_next, nv_p1_teams, nv_p1_days, nv_p1_rows)) : rd_I l yX0_takeBack wsX0_takeBack { frames := 2, cells := 0, slots := 0, locals := 69 } [.ref a_this, .ref a_p1] D (tyA cI cZ cP) ((wd_X0 cI cZ cP a_this a_before a_before_e a_before_e_rows v_held v_next v_before_e_teams v_before_e_days v_before_e_rows) ++ (wd_X3 cI cZ cP a_p1 a_p1_rows v_p1_teams v_p1_days v_p1_rows)) ((wd_X0 cI cZ cP a_this a_before a_before_e a_before_e_rows nv_held nv_next v_before_e_teams v_before_e_days v_before_e_rows) ++ (wd_X3 cI cZ cP a_p1 a_p1_rows nv_p1_teams nv_p1_days nv_p1_rows)) r := by
  unfold f_X0_takeBack at h
  refine rd_enterZ (cc := cX0_takeBack) (maxL := 2) (by decide) rfl (Nat.le_of_ble_eq_true rfl) ?_
  intro p e s m args below meth c A Q ls hx hb hml hown hts hA hK hP hD hS hl hret
  have hl : lv_has ls 2 [(0, .ref a_this), (1, .ref a_p1)] := hl
  have kw1 := hts (.fieldLink RX0 18 "RoundDays$Acts" "held" "I") (List.mem_of_getElem? (i := 1) rfl)
  have kw2 := hts (.fieldLink RX0 22 "RoundDays$Acts" "next" "I") (List.mem_of_getElem? (i := 2) rfl)
  have kw3 := hts (.fieldLink RX0 11 "RoundDays$Acts" "before" "[LRoundDays$Plan;") (List.mem_of_getElem? (i := 3) rfl)
  refine lv_aload_n hx hb dX0_takeBack_0 rfl (lv_at hl 0 rfl) ?_
  refine va_get (D := D) (ci := 0) (v := .int v_held) (C := RX0) (T := TX0) (N := 3) hx hb hts in_X0_takeBack_X0 hown hK hP 0 rfl rfl 0 (by decide) kw1 (fun _ h9 => h9) rfl dX0_takeBack_1 ?_
  refine lv_if_ne (tgt := 9) hx hb dX0_takeBack_4 (by decide) (fun c_1 => ?_) (fun c_1 => ?_)
  · replace h := it_neg h c_1
    refine lv_aload_n hx hb dX0_takeBack_9 rfl (lv_at hl 0 rfl) ?_
    refine lv_aload_n hx hb dX0_takeBack_10 rfl (lv_at hl 0 rfl) ?_
    refine va_get (D := D) (ci := 0) (v := .int v_next) (C := RX0) (T := TX0) (N := 3) hx hb hts in_X0_takeBack_X0 hown hK hP 0 rfl rfl 1 (by decide) kw2 (fun _ h9 => h9) rfl dX0_takeBack_11 ?_
    refine lv_bipush (v := 8) hx hb dX0_takeBack_14 (by decide) ?_
    refine lv_iadd hx hb dX0_takeBack_16 ?_
    refine lv_iconst (v := 1) hx hb dX0_takeBack_17 (by decide) ?_
    refine lv_isub hx hb dX0_takeBack_18 ?_
    refine lv_bipush (v := 8) hx hb dX0_takeBack_19 (by decide) ?_
    refine lv_irem hx hb dX0_takeBack_21 (by decide) ?_
    obtain ⟨v_next_2, ev_next_2, h⟩ := bd_some h
    refine rd_top ev_next_2 ?_
    refine rd_put (W1 := (wd_X0 cI cZ cP a_this a_before a_before_e a_before_e_rows v_held v_next_2 v_before_e_teams v_before_e_days v_before_e_rows) ++ (wd_X3 cI cZ cP a_p1 a_p1_rows v_p1_teams v_p1_days v_p1_rows)) (C := RX0) (T := TX0) (N := 3) (ci := 0) hx hb hts in_X0_takeBack_X0 tyX0 tyX0_ok nmX0 hown hK hP hD hS 0 rfl rfl 1 (by decide) kw2 (fun _ h9 => h9) rfl rfl rfl (Nat.le_of_ble_eq_true rfl) rfl dX0_takeBack_22 (fun H locs hP hD hS => ?_)
    refine lv_aload_n hx hb dX0_takeBack_25 rfl (lv_at hl 0 rfl) ?_
    refine lv_dup hx hb dX0_takeBack_26 rfl ?_
    refine va_get (D := D) (ci := 0) (v := .int v_held) (C := RX0) (T := TX0) (N := 3) hx hb hts in_X0_takeBack_X0 hown hK hP 0 rfl rfl 0 (by decide) kw1 (fun _ h9 => h9) rfl dX0_takeBack_27 ?_
    refine lv_iconst (v := 1) hx hb dX0_takeBack_30 (by decide) ?_
    refine lv_isub hx hb dX0_takeBack_31 ?_
    obtain ⟨v_held_3, ev_held_3, h⟩ := bd_some h
    refine rd_top ev_held_3 ?_
    refine rd_put (W1 := (wd_X0 cI cZ cP a_this a_before a_before_e a_before_e_rows v_held_3 v_next_2 v_before_e_teams v_before_e_days v_before_e_rows) ++ (wd_X3 cI cZ cP a_p1 a_p1_rows v_p1_teams v_p1_days v_p1_rows)) (C := RX0) (T := TX0) (N := 3) (ci := 0) hx hb hts in_X0_takeBack_X0 tyX0 tyX0_ok nmX0 hown hK hP hD hS 0 rfl rfl 0 (by decide) kw1 (fun _ h9 => h9) rfl rfl rfl (Nat.le_of_ble_eq_true rfl) rfl dX0_takeBack_32 (fun H locs hP hD hS => ?_)
    refine lv_aload_n hx hb dX0_takeBack_35 rfl (lv_at hl 1 rfl) ?_
    refine lv_aload_n hx hb dX0_takeBack_36 rfl (lv_at hl 0 rfl) ?_
    refine va_get (D := D) (ci := 0) (v := .ref a_before) (C := RX0) (T := TX0) (N := 3) hx hb hts in_X0_takeBack_X0 hown hK hP 0 rfl rfl 2 (by decide) kw3 (fun _ h9 => h9) rfl dX0_takeBack_37 ?_
    refine lv_aload_n hx hb dX0_takeBack_40 rfl (lv_at hl 0 rfl) ?_
    refine va_get (D := D) (ci := 0) (v := .int v_next_2) (C := RX0) (T := TX0) (N := 3) hx hb hts in_X0_takeBack_X0 hown hK hP 0 rfl rfl 1 (by decide) kw2 (fun _ h9 => h9) rfl dX0_takeBack_41 ?_
    obtain ⟨hi_4, h⟩ := gd_some h
    refine va_aldq hx hb hK hP 1 2 rfl rfl (inb_in hi_4) dX0_takeBack_44 ?_
    have j_5l : v_next_2.toNatClampNeg < 8 := Nat.not_le.mp fun q => hi_4 (Or.inr q)
    obtain ⟨j_5, ej_5, h⟩ := bd_some h
    rw [← ej_5] at j_5l ⊢
    rcases rd_lt8 j_5l with rfl | rfl | rfl | rfl | rfl | rfl | rfl | rfl
    · refine W.eq (g2 := F0 m 45 ls [.ref (a_before_e 0), .ref a_p1]) rfl ?_
      obtain ⟨⟨v_teams_6, v_days_7, v_rows_8⟩, hc_9, h⟩ := bi_some h
      refine rd_callVv [.ref (a_before_e 0)] [] (wr := [(a_this, .inr (0, [.int v_held_3, .int v_next_2, .ref a_before])), (a_before, .inl (cP, 8, .inr (.inr (.inr (.inr (fun i => some (a_before_e i))))))), ((a_before_e 1), .inr (3, [.int (v_before_e_teams 1), .int (v_before_e_days 1), .ref (a_before_e_rows 1)])), ((a_before_e_rows 1), .inl (cI, 182, .inl (v_before_e_rows 1))), ((a_before_e 2), .inr (3, [.int (v_before_e_teams 2), .int (v_before_e_days 2), .ref (a_before_e_rows 2)])), ((a_before_e_rows 2), .inl (cI, 182, .inl (v_before_e_rows 2))), ((a_before_e 3), .inr (3, [.int (v_before_e_teams 3), .int (v_before_e_days 3), .ref (a_before_e_rows 3)])), ((a_before_e_rows 3), .inl (cI, 182, .inl (v_before_e_rows 3))), ((a_before_e 4), .inr (3, [.int (v_before_e_teams 4), .int (v_before_e_days 4), .ref (a_before_e_rows 4)])), ((a_before_e_rows 4), .inl (cI, 182, .inl (v_before_e_rows 4))), ((a_before_e 5), .inr (3, [.int (v_before_e_teams 5), .int (v_before_e_days 5), .ref (a_before_e_rows 5)])), ((a_before_e_rows 5), .inl (cI, 182, .inl (v_before_e_rows 5))), ((a_before_e 6), .inr (3, [.int (v_before_e_teams 6), .int (v_before_e_days 6), .ref (a_before_e_rows 6)])), ((a_before_e_rows 6), .inl (cI, 182, .inl (v_before_e_rows 6))), ((a_before_e 7), .inr (3, [.int (v_before_e_teams 7), .int (v_before_e_days 7), .ref (a_before_e_rows 7)])), ((a_before_e_rows 7), .inl (cI, 182, .inl (v_before_e_rows 7)))]) (W1 := (wd_X0 cI cZ cP a_this a_before a_before_e a_before_e_rows v_held_3 v_next_2 v_before_e_teams v_before_e_days v_before_e_rows) ++ (wd_X3 cI cZ cP a_p1 a_p1_rows v_teams_6 v_days_7 v_rows_8)) (ci := 3) ⟨hx, hb, hml, hown, hts⟩ (c_X3_copy l D cI cZ cP a_p1 a_p1_rows (a_before_e 0) (a_before_e_rows 0) v_p1_teams v_p1_days v_p1_rows (v_before_e_teams 0) (v_before_e_days 0) (v_before_e_rows 0) v_teams_6 v_days_7 v_rows_8 hc_9) (cwV 1 hts gX0_takeBack_X3_copy rfl rfl rfl (by decide +kernel) ⟨Nat.le_of_ble_eq_true rfl, Nat.le_of_ble_eq_true rfl⟩) rfl rfl hl.1 (Nat.le_of_ble_eq_true rfl) dX0_takeBack_45 ⟨Nat.zero_le _, Nat.zero_le _⟩ hK hP hD hS hA rfl rfl [18, 19, 2, 3] [0, 1, 4, 5, 6, 7, 8, 9, 10, 11, 12, 13, 14, 15, 16, 17] [0, 1, 18, 19, 2, 3, 4, 5, 6, 7, 8, 9, 10, 11, 12, 13, 14, 15, 16, 17] ⟨⟨rfl, rfl, rfl⟩, by decide⟩ (fun H locs hP hD hS => ?_)
      refine lv_iconst (v := 1) hx hb dX0_takeBack_48 (by decide) ?_
      obtain ⟨rfl, rfl, rfl, rfl, rfl, rfl⟩ := inj6 h
      exact hret (by decide) dX0_takeBack_49 hP hD hS
    · refine W.eq (g2 := F0 m 45 ls [.ref (a_before_e 1), .ref a_p1]) rfl ?_
      obtain ⟨⟨v_teams_6, v_days_7, v_rows_8⟩, hc_9, h⟩ := bi_some h
      refine rd_callVv [.ref (a_before_e 1)] [] (wr := [(a_this, .inr (0, [.int v_held_3, .int v_next_2, .ref a_before])), (a_before, .inl (cP, 8, .inr (.inr (.inr (.inr (fun i => some (a_before_e i))))))), ((a_before_e 0), .inr (3, [.int (v_before_e_teams 0), .int (v_before_e_days 0), .ref (a_before_e_rows 0)])), ((a_before_e_rows 0), .inl (cI, 182, .inl (v_before_e_rows 0))), ((a_before_e 2), .inr (3, [.int (v_before_e_teams 2), .int (v_before_e_days 2), .ref (a_before_e_rows 2)])), ((a_before_e_rows 2), .inl (cI, 182, .inl (v_before_e_rows 2))), ((a_before_e 3), .inr (3, [.int (v_before_e_teams 3), .int (v_before_e_days 3), .ref (a_before_e_rows 3)])), ((a_before_e_rows 3), .inl (cI, 182, .inl (v_before_e_rows 3))), ((a_before_e 4), .inr (3, [.int (v_before_e_teams 4), .int (v_before_e_days 4), .ref (a_before_e_rows 4)])), ((a_before_e_rows 4), .inl (cI, 182, .inl (v_before_e_rows 4))), ((a_before_e 5), .inr (3, [.int (v_before_e_teams 5), .int (v_before_e_days 5), .ref (a_before_e_rows 5)])), ((a_before_e_rows 5), .inl (cI, 182, .inl (v_before_e_rows 5))), ((a_before_e 6), .inr (3, [.int (v_before_e_teams 6), .int (v_before_e_days 6), .ref (a_before_e_rows 6)])), ((a_before_e_rows 6), .inl (cI, 182, .inl (v_before_e_rows 6))), ((a_before_e 7), .inr (3, [.int (v_before_e_teams 7), .int (v_before_e_days 7), .ref (a_before_e_rows 7)])), ((a_before_e_rows 7), .inl (cI, 182, .inl (v_before_e_rows 7)))]) (W1 := (wd_X0 cI cZ cP a_this a_before a_before_e a_before_e_rows v_held_3 v_next_2 v_before_e_teams v_before_e_days v_before_e_rows) ++ (wd_X3 cI cZ cP a_p1 a_p1_rows v_teams_6 v_days_7 v_rows_8)) (ci := 3) ⟨hx, hb, hml, hown, hts⟩ (c_X3_copy l D cI cZ cP a_p1 a_p1_rows (a_before_e 1) (a_before_e_rows 1) v_p1_teams v_p1_days v_p1_rows (v_before_e_teams 1) (v_before_e_days 1) (v_before_e_rows 1) v_teams_6 v_days_7 v_rows_8 hc_9) (cwV 1 hts gX0_takeBack_X3_copy rfl rfl rfl (by decide +kernel) ⟨Nat.le_of_ble_eq_true rfl, Nat.le_of_ble_eq_true rfl⟩) rfl rfl hl.1 (Nat.le_of_ble_eq_true rfl) dX0_takeBack_45 ⟨Nat.zero_le _, Nat.zero_le _⟩ hK hP hD hS hA rfl rfl [18, 19, 4, 5] [0, 1, 2, 3, 6, 7, 8, 9, 10, 11, 12, 13, 14, 15, 16, 17] [0, 1, 2, 3, 18, 19, 4, 5, 6, 7, 8, 9, 10, 11, 12, 13, 14, 15, 16, 17] ⟨⟨rfl, rfl, rfl⟩, by decide⟩ (fun H locs hP hD hS => ?_)
      refine lv_iconst (v := 1) hx hb dX0_takeBack_48 (by decide) ?_
      obtain ⟨rfl, rfl, rfl, rfl, rfl, rfl⟩ := inj6 h
      exact hret (by decide) dX0_takeBack_49 hP hD hS
    · refine W.eq (g2 := F0 m 45 ls [.ref (a_before_e 2), .ref a_p1]) rfl ?_
      obtain ⟨⟨v_teams_6, v_days_7, v_rows_8⟩, hc_9, h⟩ := bi_some h
      refine rd_callVv [.ref (a_before_e 2)] [] (wr := [(a_this, .inr (0, [.int v_held_3, .int v_next_2, .ref a_before])), (a_before, .inl (cP, 8, .inr (.inr (.inr (.inr (fun i => some (a_before_e i))))))), ((a_before_e 0), .inr (3, [.int (v_before_e_teams 0), .int (v_before_e_days 0), .ref (a_before_e_rows 0)])), ((a_before_e_rows 0), .inl (cI, 182, .inl (v_before_e_rows 0))), ((a_before_e 1), .inr (3, [.int (v_before_e_teams 1), .int (v_before_e_days 1), .ref (a_before_e_rows 1)])), ((a_before_e_rows 1), .inl (cI, 182, .inl (v_before_e_rows 1))), ((a_before_e 3), .inr (3, [.int (v_before_e_teams 3), .int (v_before_e_days 3), .ref (a_before_e_rows 3)])), ((a_before_e_rows 3), .inl (cI, 182, .inl (v_before_e_rows 3))), ((a_before_e 4), .inr (3, [.int (v_before_e_teams 4), .int (v_before_e_days 4), .ref (a_before_e_rows 4)])), ((a_before_e_rows 4), .inl (cI, 182, .inl (v_before_e_rows 4))), ((a_before_e 5), .inr (3, [.int (v_before_e_teams 5), .int (v_before_e_days 5), .ref (a_before_e_rows 5)])), ((a_before_e_rows 5), .inl (cI, 182, .inl (v_before_e_rows 5))), ((a_before_e 6), .inr (3, [.int (v_before_e_teams 6), .int (v_before_e_days 6), .ref (a_before_e_rows 6)])), ((a_before_e_rows 6), .inl (cI, 182, .inl (v_before_e_rows 6))), ((a_before_e 7), .inr (3, [.int (v_before_e_teams 7), .int (v_before_e_days 7), .ref (a_before_e_rows 7)])), ((a_before_e_rows 7), .inl (cI, 182, .inl (v_before_e_rows 7)))]) (W1 := (wd_X0 cI cZ cP a_this a_before a_before_e a_before_e_rows v_held_3 v_next_2 v_before_e_teams v_before_e_days v_before_e_rows) ++ (wd_X3 cI cZ cP a_p1 a_p1_rows v_teams_6 v_days_7 v_rows_8)) (ci := 3) ⟨hx, hb, hml, hown, hts⟩ (c_X3_copy l D cI cZ cP a_p1 a_p1_rows (a_before_e 2) (a_before_e_rows 2) v_p1_teams v_p1_days v_p1_rows (v_before_e_teams 2) (v_before_e_days 2) (v_before_e_rows 2) v_teams_6 v_days_7 v_rows_8 hc_9) (cwV 1 hts gX0_takeBack_X3_copy rfl rfl rfl (by decide +kernel) ⟨Nat.le_of_ble_eq_true rfl, Nat.le_of_ble_eq_true rfl⟩) rfl rfl hl.1 (Nat.le_of_ble_eq_true rfl) dX0_takeBack_45 ⟨Nat.zero_le _, Nat.zero_le _⟩ hK hP hD hS hA rfl rfl [18, 19, 6, 7] [0, 1, 2, 3, 4, 5, 8, 9, 10, 11, 12, 13, 14, 15, 16, 17] [0, 1, 2, 3, 4, 5, 18, 19, 6, 7, 8, 9, 10, 11, 12, 13, 14, 15, 16, 17] ⟨⟨rfl, rfl, rfl⟩, by decide⟩ (fun H locs hP hD hS => ?_)
      refine lv_iconst (v := 1) hx hb dX0_takeBack_48 (by decide) ?_
      obtain ⟨rfl, rfl, rfl, rfl, rfl, rfl⟩ := inj6 h
      exact hret (by decide) dX0_takeBack_49 hP hD hS
    · refine W.eq (g2 := F0 m 45 ls [.ref (a_before_e 3), .ref a_p1]) rfl ?_
      obtain ⟨⟨v_teams_6, v_days_7, v_rows_8⟩, hc_9, h⟩ := bi_some h
      refine rd_callVv [.ref (a_before_e 3)] [] (wr := [(a_this, .inr (0, [.int v_held_3, .int v_next_2, .ref a_before])), (a_before, .inl (cP, 8, .inr (.inr (.inr (.inr (fun i => some (a_before_e i))))))), ((a_before_e 0), .inr (3, [.int (v_before_e_teams 0), .int (v_before_e_days 0), .ref (a_before_e_rows 0)])), ((a_before_e_rows 0), .inl (cI, 182, .inl (v_before_e_rows 0))), ((a_before_e 1), .inr (3, [.int (v_before_e_teams 1), .int (v_before_e_days 1), .ref (a_before_e_rows 1)])), ((a_before_e_rows 1), .inl (cI, 182, .inl (v_before_e_rows 1))), ((a_before_e 2), .inr (3, [.int (v_before_e_teams 2), .int (v_before_e_days 2), .ref (a_before_e_rows 2)])), ((a_before_e_rows 2), .inl (cI, 182, .inl (v_before_e_rows 2))), ((a_before_e 4), .inr (3, [.int (v_before_e_teams 4), .int (v_before_e_days 4), .ref (a_before_e_rows 4)])), ((a_before_e_rows 4), .inl (cI, 182, .inl (v_before_e_rows 4))), ((a_before_e 5), .inr (3, [.int (v_before_e_teams 5), .int (v_before_e_days 5), .ref (a_before_e_rows 5)])), ((a_before_e_rows 5), .inl (cI, 182, .inl (v_before_e_rows 5))), ((a_before_e 6), .inr (3, [.int (v_before_e_teams 6), .int (v_before_e_days 6), .ref (a_before_e_rows 6)])), ((a_before_e_rows 6), .inl (cI, 182, .inl (v_before_e_rows 6))), ((a_before_e 7), .inr (3, [.int (v_before_e_teams 7), .int (v_before_e_days 7), .ref (a_before_e_rows 7)])), ((a_before_e_rows 7), .inl (cI, 182, .inl (v_before_e_rows 7)))]) (W1 := (wd_X0 cI cZ cP a_this a_before a_before_e a_before_e_rows v_held_3 v_next_2 v_before_e_teams v_before_e_days v_before_e_rows) ++ (wd_X3 cI cZ cP a_p1 a_p1_rows v_teams_6 v_days_7 v_rows_8)) (ci := 3) ⟨hx, hb, hml, hown, hts⟩ (c_X3_copy l D cI cZ cP a_p1 a_p1_rows (a_before_e 3) (a_before_e_rows 3) v_p1_teams v_p1_days v_p1_rows (v_before_e_teams 3) (v_before_e_days 3) (v_before_e_rows 3) v_teams_6 v_days_7 v_rows_8 hc_9) (cwV 1 hts gX0_takeBack_X3_copy rfl rfl rfl (by decide +kernel) ⟨Nat.le_of_ble_eq_true rfl, Nat.le_of_ble_eq_true rfl⟩) rfl rfl hl.1 (Nat.le_of_ble_eq_true rfl) dX0_takeBack_45 ⟨Nat.zero_le _, Nat.zero_le _⟩ hK hP hD hS hA rfl rfl [18, 19, 8, 9] [0, 1, 2, 3, 4, 5, 6, 7, 10, 11, 12, 13, 14, 15, 16, 17] [0, 1, 2, 3, 4, 5, 6, 7, 18, 19, 8, 9, 10, 11, 12, 13, 14, 15, 16, 17] ⟨⟨rfl, rfl, rfl⟩, by decide⟩ (fun H locs hP hD hS => ?_)
      refine lv_iconst (v := 1) hx hb dX0_takeBack_48 (by decide) ?_
      obtain ⟨rfl, rfl, rfl, rfl, rfl, rfl⟩ := inj6 h
      exact hret (by decide) dX0_takeBack_49 hP hD hS
    · refine W.eq (g2 := F0 m 45 ls [.ref (a_before_e 4), .ref a_p1]) rfl ?_
      obtain ⟨⟨v_teams_6, v_days_7, v_rows_8⟩, hc_9, h⟩ := bi_some h
      refine rd_callVv [.ref (a_before_e 4)] [] (wr := [(a_this, .inr (0, [.int v_held_3, .int v_next_2, .ref a_before])), (a_before, .inl (cP, 8, .inr (.inr (.inr (.inr (fun i => some (a_before_e i))))))), ((a_before_e 0), .inr (3, [.int (v_before_e_teams 0), .int (v_before_e_days 0), .ref (a_before_e_rows 0)])), ((a_before_e_rows 0), .inl (cI, 182, .inl (v_before_e_rows 0))), ((a_before_e 1), .inr (3, [.int (v_before_e_teams 1), .int (v_before_e_days 1), .ref (a_before_e_rows 1)])), ((a_before_e_rows 1), .inl (cI, 182, .inl (v_before_e_rows 1))), ((a_before_e 2), .inr (3, [.int (v_before_e_teams 2), .int (v_before_e_days 2), .ref (a_before_e_rows 2)])), ((a_before_e_rows 2), .inl (cI, 182, .inl (v_before_e_rows 2))), ((a_before_e 3), .inr (3, [.int (v_before_e_teams 3), .int (v_before_e_days 3), .ref (a_before_e_rows 3)])), ((a_before_e_rows 3), .inl (cI, 182, .inl (v_before_e_rows 3))), ((a_before_e 5), .inr (3, [.int (v_before_e_teams 5), .int (v_before_e_days 5), .ref (a_before_e_rows 5)])), ((a_before_e_rows 5), .inl (cI, 182, .inl (v_before_e_rows 5))), ((a_before_e 6), .inr (3, [.int (v_before_e_teams 6), .int (v_before_e_days 6), .ref (a_before_e_rows 6)])), ((a_before_e_rows 6), .inl (cI, 182, .inl (v_before_e_rows 6))), ((a_before_e 7), .inr (3, [.int (v_before_e_teams 7), .int (v_before_e_days 7), .ref (a_before_e_rows 7)])), ((a_before_e_rows 7), .inl (cI, 182, .inl (v_before_e_rows 7)))]) (W1 := (wd_X0 cI cZ cP a_this a_before a_before_e a_before_e_rows v_held_3 v_next_2 v_before_e_teams v_before_e_days v_before_e_rows) ++ (wd_X3 cI cZ cP a_p1 a_p1_rows v_teams_6 v_days_7 v_rows_8)) (ci := 3) ⟨hx, hb, hml, hown, hts⟩ (c_X3_copy l D cI cZ cP a_p1 a_p1_rows (a_before_e 4) (a_before_e_rows 4) v_p1_teams v_p1_days v_p1_rows (v_before_e_teams 4) (v_before_e_days 4) (v_before_e_rows 4) v_teams_6 v_days_7 v_rows_8 hc_9) (cwV 1 hts gX0_takeBack_X3_copy rfl rfl rfl (by decide +kernel) ⟨Nat.le_of_ble_eq_true rfl, Nat.le_of_ble_eq_true rfl⟩) rfl rfl hl.1 (Nat.le_of_ble_eq_true rfl) dX0_takeBack_45 ⟨Nat.zero_le _, Nat.zero_le _⟩ hK hP hD hS hA rfl rfl [18, 19, 10, 11] [0, 1, 2, 3, 4, 5, 6, 7, 8, 9, 12, 13, 14, 15, 16, 17] [0, 1, 2, 3, 4, 5, 6, 7, 8, 9, 18, 19, 10, 11, 12, 13, 14, 15, 16, 17] ⟨⟨rfl, rfl, rfl⟩, by decide⟩ (fun H locs hP hD hS => ?_)
      refine lv_iconst (v := 1) hx hb dX0_takeBack_48 (by decide) ?_
      obtain ⟨rfl, rfl, rfl, rfl, rfl, rfl⟩ := inj6 h
      exact hret (by decide) dX0_takeBack_49 hP hD hS
    · refine W.eq (g2 := F0 m 45 ls [.ref (a_before_e 5), .ref a_p1]) rfl ?_
      obtain ⟨⟨v_teams_6, v_days_7, v_rows_8⟩, hc_9, h⟩ := bi_some h
      refine rd_callVv [.ref (a_before_e 5)] [] (wr := [(a_this, .inr (0, [.int v_held_3, .int v_next_2, .ref a_before])), (a_before, .inl (cP, 8, .inr (.inr (.inr (.inr (fun i => some (a_before_e i))))))), ((a_before_e 0), .inr (3, [.int (v_before_e_teams 0), .int (v_before_e_days 0), .ref (a_before_e_rows 0)])), ((a_before_e_rows 0), .inl (cI, 182, .inl (v_before_e_rows 0))), ((a_before_e 1), .inr (3, [.int (v_before_e_teams 1), .int (v_before_e_days 1), .ref (a_before_e_rows 1)])), ((a_before_e_rows 1), .inl (cI, 182, .inl (v_before_e_rows 1))), ((a_before_e 2), .inr (3, [.int (v_before_e_teams 2), .int (v_before_e_days 2), .ref (a_before_e_rows 2)])), ((a_before_e_rows 2), .inl (cI, 182, .inl (v_before_e_rows 2))), ((a_before_e 3), .inr (3, [.int (v_before_e_teams 3), .int (v_before_e_days 3), .ref (a_before_e_rows 3)])), ((a_before_e_rows 3), .inl (cI, 182, .inl (v_before_e_rows 3))), ((a_before_e 4), .inr (3, [.int (v_before_e_teams 4), .int (v_before_e_days 4), .ref (a_before_e_rows 4)])), ((a_before_e_rows 4), .inl (cI, 182, .inl (v_before_e_rows 4))), ((a_before_e 6), .inr (3, [.int (v_before_e_teams 6), .int (v_before_e_days 6), .ref (a_before_e_rows 6)])), ((a_before_e_rows 6), .inl (cI, 182, .inl (v_before_e_rows 6))), ((a_before_e 7), .inr (3, [.int (v_before_e_teams 7), .int (v_before_e_days 7), .ref (a_before_e_rows 7)])), ((a_before_e_rows 7), .inl (cI, 182, .inl (v_before_e_rows 7)))]) (W1 := (wd_X0 cI cZ cP a_this a_before a_before_e a_before_e_rows v_held_3 v_next_2 v_before_e_teams v_before_e_days v_before_e_rows) ++ (wd_X3 cI cZ cP a_p1 a_p1_rows v_teams_6 v_days_7 v_rows_8)) (ci := 3) ⟨hx, hb, hml, hown, hts⟩ (c_X3_copy l D cI cZ cP a_p1 a_p1_rows (a_before_e 5) (a_before_e_rows 5) v_p1_teams v_p1_days v_p1_rows (v_before_e_teams 5) (v_before_e_days 5) (v_before_e_rows 5) v_teams_6 v_days_7 v_rows_8 hc_9) (cwV 1 hts gX0_takeBack_X3_copy rfl rfl rfl (by decide +kernel) ⟨Nat.le_of_ble_eq_true rfl, Nat.le_of_ble_eq_true rfl⟩) rfl rfl hl.1 (Nat.le_of_ble_eq_true rfl) dX0_takeBack_45 ⟨Nat.zero_le _, Nat.zero_le _⟩ hK hP hD hS hA rfl rfl [18, 19, 12, 13] [0, 1, 2, 3, 4, 5, 6, 7, 8, 9, 10, 11, 14, 15, 16, 17] [0, 1, 2, 3, 4, 5, 6, 7, 8, 9, 10, 11, 18, 19, 12, 13, 14, 15, 16, 17] ⟨⟨rfl, rfl, rfl⟩, by decide⟩ (fun H locs hP hD hS => ?_)
      refine lv_iconst (v := 1) hx hb dX0_takeBack_48 (by decide) ?_
      obtain ⟨rfl, rfl, rfl, rfl, rfl, rfl⟩ := inj6 h
      exact hret (by decide) dX0_takeBack_49 hP hD hS
    · refine W.eq (g2 := F0 m 45 ls [.ref (a_before_e 6), .ref a_p1]) rfl ?_
      obtain ⟨⟨v_teams_6, v_days_7, v_rows_8⟩, hc_9, h⟩ := bi_some h
      refine rd_callVv [.ref (a_before_e 6)] [] (wr := [(a_this, .inr (0, [.int v_held_3, .int v_next_2, .ref a_before])), (a_before, .inl (cP, 8, .inr (.inr (.inr (.inr (fun i => some (a_before_e i))))))), ((a_before_e 0), .inr (3, [.int (v_before_e_teams 0), .int (v_before_e_days 0), .ref (a_before_e_rows 0)])), ((a_before_e_rows 0), .inl (cI, 182, .inl (v_before_e_rows 0))), ((a_before_e 1), .inr (3, [.int (v_before_e_teams 1), .int (v_before_e_days 1), .ref (a_before_e_rows 1)])), ((a_before_e_rows 1), .inl (cI, 182, .inl (v_before_e_rows 1))), ((a_before_e 2), .inr (3, [.int (v_before_e_teams 2), .int (v_before_e_days 2), .ref (a_before_e_rows 2)])), ((a_before_e_rows 2), .inl (cI, 182, .inl (v_before_e_rows 2))), ((a_before_e 3), .inr (3, [.int (v_before_e_teams 3), .int (v_before_e_days 3), .ref (a_before_e_rows 3)])), ((a_before_e_rows 3), .inl (cI, 182, .inl (v_before_e_rows 3))), ((a_before_e 4), .inr (3, [.int (v_before_e_teams 4), .int (v_before_e_days 4), .ref (a_before_e_rows 4)])), ((a_before_e_rows 4), .inl (cI, 182, .inl (v_before_e_rows 4))), ((a_before_e 5), .inr (3, [.int (v_before_e_teams 5), .int (v_before_e_days 5), .ref (a_before_e_rows 5)])), ((a_before_e_rows 5), .inl (cI, 182, .inl (v_before_e_rows 5))), ((a_before_e 7), .inr (3, [.int (v_before_e_teams 7), .int (v_before_e_days 7), .ref (a_before_e_rows 7)])), ((a_before_e_rows 7), .inl (cI, 182, .inl (v_before_e_rows 7)))]) (W1 := (wd_X0 cI cZ cP a_this a_before a_before_e a_before_e_rows v_held_3 v_next_2 v_before_e_teams v_before_e_days v_before_e_rows) ++ (wd_X3 cI cZ cP a_p1 a_p1_rows v_teams_6 v_days_7 v_rows_8)) (ci := 3) ⟨hx, hb, hml, hown, hts⟩ (c_X3_copy l D cI cZ cP a_p1 a_p1_rows (a_before_e 6) (a_before_e_rows 6) v_p1_teams v_p1_days v_p1_rows (v_before_e_teams 6) (v_before_e_days 6) (v_before_e_rows 6) v_teams_6 v_days_7 v_rows_8 hc_9) (cwV 1 hts gX0_takeBack_X3_copy rfl rfl rfl (by decide +kernel) ⟨Nat.le_of_ble_eq_true rfl, Nat.le_of_ble_eq_true rfl⟩) rfl rfl hl.1 (Nat.le_of_ble_eq_true rfl) dX0_takeBack_45 ⟨Nat.zero_le _, Nat.zero_le _⟩ hK hP hD hS hA rfl rfl [18, 19, 14, 15] [0, 1, 2, 3, 4, 5, 6, 7, 8, 9, 10, 11, 12, 13, 16, 17] [0, 1, 2, 3, 4, 5, 6, 7, 8, 9, 10, 11, 12, 13, 18, 19, 14, 15, 16, 17] ⟨⟨rfl, rfl, rfl⟩, by decide⟩ (fun H locs hP hD hS => ?_)
      refine lv_iconst (v := 1) hx hb dX0_takeBack_48 (by decide) ?_
      obtain ⟨rfl, rfl, rfl, rfl, rfl, rfl⟩ := inj6 h
      exact hret (by decide) dX0_takeBack_49 hP hD hS
    · refine W.eq (g2 := F0 m 45 ls [.ref (a_before_e 7), .ref a_p1]) rfl ?_
      obtain ⟨⟨v_teams_6, v_days_7, v_rows_8⟩, hc_9, h⟩ := bi_some h
      refine rd_callVv [.ref (a_before_e 7)] [] (wr := [(a_this, .inr (0, [.int v_held_3, .int v_next_2, .ref a_before])), (a_before, .inl (cP, 8, .inr (.inr (.inr (.inr (fun i => some (a_before_e i))))))), ((a_before_e 0), .inr (3, [.int (v_before_e_teams 0), .int (v_before_e_days 0), .ref (a_before_e_rows 0)])), ((a_before_e_rows 0), .inl (cI, 182, .inl (v_before_e_rows 0))), ((a_before_e 1), .inr (3, [.int (v_before_e_teams 1), .int (v_before_e_days 1), .ref (a_before_e_rows 1)])), ((a_before_e_rows 1), .inl (cI, 182, .inl (v_before_e_rows 1))), ((a_before_e 2), .inr (3, [.int (v_before_e_teams 2), .int (v_before_e_days 2), .ref (a_before_e_rows 2)])), ((a_before_e_rows 2), .inl (cI, 182, .inl (v_before_e_rows 2))), ((a_before_e 3), .inr (3, [.int (v_before_e_teams 3), .int (v_before_e_days 3), .ref (a_before_e_rows 3)])), ((a_before_e_rows 3), .inl (cI, 182, .inl (v_before_e_rows 3))), ((a_before_e 4), .inr (3, [.int (v_before_e_teams 4), .int (v_before_e_days 4), .ref (a_before_e_rows 4)])), ((a_before_e_rows 4), .inl (cI, 182, .inl (v_before_e_rows 4))), ((a_before_e 5), .inr (3, [.int (v_before_e_teams 5), .int (v_before_e_days 5), .ref (a_before_e_rows 5)])), ((a_before_e_rows 5), .inl (cI, 182, .inl (v_before_e_rows 5))), ((a_before_e 6), .inr (3, [.int (v_before_e_teams 6), .int (v_before_e_days 6), .ref (a_before_e_rows 6)])), ((a_before_e_rows 6), .inl (cI, 182, .inl (v_before_e_rows 6)))]) (W1 := (wd_X0 cI cZ cP a_this a_before a_before_e a_before_e_rows v_held_3 v_next_2 v_before_e_teams v_before_e_days v_before_e_rows) ++ (wd_X3 cI cZ cP a_p1 a_p1_rows v_teams_6 v_days_7 v_rows_8)) (ci := 3) ⟨hx, hb, hml, hown, hts⟩ (c_X3_copy l D cI cZ cP a_p1 a_p1_rows (a_before_e 7) (a_before_e_rows 7) v_p1_teams v_p1_days v_p1_rows (v_before_e_teams 7) (v_before_e_days 7) (v_before_e_rows 7) v_teams_6 v_days_7 v_rows_8 hc_9) (cwV 1 hts gX0_takeBack_X3_copy rfl rfl rfl (by decide +kernel) ⟨Nat.le_of_ble_eq_true rfl, Nat.le_of_ble_eq_true rfl⟩) rfl rfl hl.1 (Nat.le_of_ble_eq_true rfl) dX0_takeBack_45 ⟨Nat.zero_le _, Nat.zero_le _⟩ hK hP hD hS hA rfl rfl [18, 19, 16, 17] [0, 1, 2, 3, 4, 5, 6, 7, 8, 9, 10, 11, 12, 13, 14, 15] [0, 1, 2, 3, 4, 5, 6, 7, 8, 9, 10, 11, 12, 13, 14, 15, 18, 19, 16, 17] ⟨⟨rfl, rfl, rfl⟩, by decide⟩ (fun H locs hP hD hS => ?_)
      refine lv_iconst (v := 1) hx hb dX0_takeBack_48 (by decide) ?_
      obtain ⟨rfl, rfl, rfl, rfl, rfl, rfl⟩ := inj6 h
      exact hret (by decide) dX0_takeBack_49 hP hD hS
  · replace h := it_pos h c_1
    refine lv_iconst (v := 0) hx hb dX0_takeBack_7 (by decide) ?_
    obtain ⟨rfl, rfl, rfl, rfl, rfl, rfl⟩ := inj6 h
    exact hret (by decide) dX0_takeBack_8 hP hD hS
theorem in_X4_clear_X4 : ∀ w ∈ wsX40, w ∈ wsX4_clear := by decide +kernel
def f_X4_clear_L30 (v_signs : Nat → Int32) (v_daysOfSign : Nat → Int32) (self : Int32 × (Nat → Int32) → Option ((Nat → Int32) × (Nat → Int32) × (Nat → Int32))) : Int32 × (Nat → Int32) → Option ((Nat → Int32) × (Nat → Int32) × (Nat → Int32)) := fun st => match st with | (x1, v_pairsOfRings) => if (7 : Int32) < x1 then some (v_signs, v_daysOfSign, v_pairsOfRings) else if inb x1 8 then bd (upd v_pairsOfRings x1.toNatClampNeg (0 : Int32)) (fun v_pairsOfRings_3 => bd (x1 + (1 : Int32)) (fun x1_4 => self (x1_4, v_pairsOfRings_3))) else none
def f_X4_clear_L2 (v_pairsOfRings : Nat → Int32) (self : Int32 × (Nat → Int32) × (Nat → Int32) → Option ((Nat → Int32) × (Nat → Int32) × (Nat → Int32))) : Int32 × (Nat → Int32) × (Nat → Int32) → Option ((Nat → Int32) × (Nat → Int32) × (Nat → Int32)) := fun st => match st with | (x1, v_signs, v_daysOfSign) => if (13 : Int32) ≤ x1 then lp (f_X4_clear_L30 v_signs v_daysOfSign) 20000 ((0 : Int32), v_pairsOfRings) else if inb x1 13 then bd (upd v_signs x1.toNatClampNeg (0 : Int32)) (fun v_signs_7 => if inb x1 13 then bd (upd v_daysOfSign x1.toNatClampNeg (0 : Int32)) (fun v_daysOfSign_9 => bd (x1 + (1 : Int32)) (fun x1_10 => self (x1_10, v_signs_7, v_daysOfSign_9))) else none) else none
def f_X4_clear (v_signs : Nat → Int32) (v_daysOfSign : Nat → Int32) (v_pairsOfRings : Nat → Int32) : Option ((Nat → Int32) × (Nat → Int32) × (Nat → Int32)) := lp (f_X4_clear_L2 v_pairsOfRings) 20000 ((0 : Int32), v_signs, v_daysOfSign)
set_option maxHeartbeats 4000000 in
set_option maxRecDepth 100000 in
theorem c_X4_clear (l : Launch) (D : va_G) (cI cZ cP : ClassId) (a_this : Nat) (a_signs : Nat) (a_daysOfSign : Nat) (a_pairsOfRings : Nat) (v_days : Int32) (v_signs : Nat → Int32) (v_daysOfSign : Nat → Int32) (v_pairsOfRings : Nat → Int32) (nv_signs : Nat → Int32) (nv_daysOfSign : Nat → Int32) (nv_pairsOfRings : Nat → Int32) (h : f_X4_clear v_signs v_daysOfSign v_pairsOfRings = some (nv_signs, nv_daysOfSign, nv_pairsOfRings)) : rd_V l yX4_clear wsX4_clear { frames := 0, cells := 0, slots := 0, locals := 0 } [.ref a_this] D (tyA cI cZ cP) (wd_X4 cI cZ cP a_this a_signs a_daysOfSign a_pairsOfRings v_days v_signs v_daysOfSign v_pairsOfRings) (wd_X4 cI cZ cP a_this a_signs a_daysOfSign a_pairsOfRings v_days nv_signs nv_daysOfSign nv_pairsOfRings) := by
  unfold f_X4_clear at h
  refine rd_enterV (cc := cX4_clear) (maxL := 2) (by decide) rfl (Nat.le_of_ble_eq_true rfl) ?_
  intro p e s m args below meth c A Q ls hx hb hml hown hts hA hK hP hD hS hl hret
  have hl : lv_has ls 2 [(0, .ref a_this)] := hl
  have kw1 := hts (.fieldLink RX4 9 "RoundDays$Profile" "signs" "[I") (List.mem_of_getElem? (i := 1) rfl)
  have kw2 := hts (.fieldLink RX4 15 "RoundDays$Profile" "daysOfSign" "[I") (List.mem_of_getElem? (i := 2) rfl)
  have kw3 := hts (.fieldLink RX4 18 "RoundDays$Profile" "pairsOfRings" "[I") (List.mem_of_getElem? (i := 3) rfl)
  have w30 : ∀ v_signs : Nat → Int32, ∀ v_daysOfSign : Nat → Int32, ∀ n : Nat, ∀ (x1 : Int32) (v_pairsOfRings : Nat → Int32), lp (f_X4_clear_L30 v_signs v_daysOfSign) n (x1, v_pairsOfRings) = some (nv_signs, nv_daysOfSign, nv_pairsOfRings) → ∀ (H : Heap) (locs : List Loc) (ls : Array Slot), va_P D vwCl (wd_X4 cI cZ cP a_this a_signs a_daysOfSign a_pairsOfRings v_days v_signs v_daysOfSign v_pairsOfRings) H → va_D A (wd_X4 cI cZ cP a_this a_signs a_daysOfSign a_pairsOfRings v_days v_signs v_daysOfSign v_pairsOfRings) → va_S A s.heap H locs → lv_has ls 2 [(0, .ref a_this), (1, .int x1)] → W p l e { frames := 0, cells := 0, slots := 0, locals := 0 } s m args below meth c H locs 0 0 Q (F0 m 30 ls []) := by
    intro v_signs v_daysOfSign
    refine fun n x1 v_pairsOfRings h => lp_walk (b := f_X4_clear_L30 v_signs v_daysOfSign) (r := (nv_signs, nv_daysOfSign, nv_pairsOfRings)) (P := fun st => match st with | (x1, v_pairsOfRings) => ∀ (H : Heap) (locs : List Loc) (ls : Array Slot), va_P D vwCl (wd_X4 cI cZ cP a_this a_signs a_daysOfSign a_pairsOfRings v_days v_signs v_daysOfSign v_pairsOfRings) H → va_D A (wd_X4 cI cZ cP a_this a_signs a_daysOfSign a_pairsOfRings v_days v_signs v_daysOfSign v_pairsOfRings) → va_S A s.heap H locs → lv_has ls 2 [(0, .ref a_this), (1, .int x1)] → W p l e { frames := 0, cells := 0, slots := 0, locals := 0 } s m args below meth c H locs 0 0 Q (F0 m 30 ls [])) (fun self hself0 st h => ?_) n (x1, v_pairsOfRings) h
    obtain ⟨x1, v_pairsOfRings⟩ := st
    have hself : ∀ (x1 : Int32) (v_pairsOfRings : Nat → Int32), self (x1, v_pairsOfRings) = some (nv_signs, nv_daysOfSign, nv_pairsOfRings) → ∀ (H : Heap) (locs : List Loc) (ls : Array Slot), va_P D vwCl (wd_X4 cI cZ cP a_this a_signs a_daysOfSign a_pairsOfRings v_days v_signs v_daysOfSign v_pairsOfRings) H → va_D A (wd_X4 cI cZ cP a_this a_signs a_daysOfSign a_pairsOfRings v_days v_signs v_daysOfSign v_pairsOfRings) → va_S A s.heap H locs → lv_has ls 2 [(0, .ref a_this), (1, .int x1)] → W p l e { frames := 0, cells := 0, slots := 0, locals := 0 } s m args below meth c H locs 0 0 Q (F0 m 30 ls []) := fun x1 v_pairsOfRings h => hself0 (x1, v_pairsOfRings) h
    clear hself0
    intro H locs ls hP hD hS hl
    replace h : (if (7 : Int32) < x1 then some (v_signs, v_daysOfSign, v_pairsOfRings) else if inb x1 8 then bd (upd v_pairsOfRings x1.toNatClampNeg (0 : Int32)) (fun v_pairsOfRings_3 => bd (x1 + (1 : Int32)) (fun x1_4 => self (x1_4, v_pairsOfRings_3))) else none) = some (nv_signs, nv_daysOfSign, nv_pairsOfRings) := h
    refine lv_iload_n hx hb dX4_clear_30 rfl (lv_at hl 1 rfl) ?_
    refine lv_bipush (v := 7) hx hb dX4_clear_31 (by decide) ?_
    refine lv_icmp_gt (tgt := 49) hx hb dX4_clear_33 (by decide) (fun c_1 => ?_) (fun c_1 => ?_)
    · replace h := it_pos h c_1
      obtain ⟨rfl, rfl, rfl⟩ := inj3 h
      exact hret dX4_clear_49 hP hD hS
    · replace h := it_neg h c_1
      refine lv_aload_n hx hb dX4_clear_36 rfl (lv_at hl 0 rfl) ?_
      refine va_get (D := D) (ci := 4) (v := .ref a_pairsOfRings) (C := RX4) (T := TX4) (N := 4) hx hb hts in_X4_clear_X4 hown hK hP 0 rfl rfl 3 (by decide) kw3 (fun _ h9 => h9) rfl dX4_clear_37 ?_
      refine lv_iload_n hx hb dX4_clear_40 rfl (lv_at hl 1 rfl) ?_
      refine lv_iconst (v := 0) hx hb dX4_clear_41 (by decide) ?_
      obtain ⟨hi_2, h⟩ := gd_some h
      obtain ⟨v_pairsOfRings_3, ev_pairsOfRings_3, h⟩ := bd_some h
      refine rd_iast (W1 := wd_X4 cI cZ cP a_this a_signs a_daysOfSign a_pairsOfRings v_days v_signs v_daysOfSign v_pairsOfRings_3) hx hb hK hP hD hS 3 0 rfl rfl hi_2 ev_pairsOfRings_3 rfl dX4_clear_42 (fun H locs hP hD hS => ?_)
      obtain ⟨x1_4, ex1_4, h⟩ := bd_some h
      refine lv_iinc (v := x1_4) (lv' := [(1, .int x1_4), (0, .ref a_this)]) hx hb dX4_clear_43 hl (k := 1) rfl (by rw [ex1_4]; rfl) (by decide) rfl (fun ls hl => ?_)
      refine lv_goto (tgt := 30) hx hb dX4_clear_46 (by decide) ?_
      exact hself x1_4 v_pairsOfRings_3 h _ _ _ hP hD hS (lv_sub hl [1, 0] rfl)
  have w2 : ∀ v_pairsOfRings : Nat → Int32, ∀ n : Nat, ∀ (x1 : Int32) (v_signs : Nat → Int32) (v_daysOfSign : Nat → Int32), lp (f_X4_clear_L2 v_pairsOfRings) n (x1, v_signs, v_daysOfSign) = some (nv_signs, nv_daysOfSign, nv_pairsOfRings) → ∀ (H : Heap) (locs : List Loc) (ls : Array Slot), va_P D vwCl (wd_X4 cI cZ cP a_this a_signs a_daysOfSign a_pairsOfRings v_days v_signs v_daysOfSign v_pairsOfRings) H → va_D A (wd_X4 cI cZ cP a_this a_signs a_daysOfSign a_pairsOfRings v_days v_signs v_daysOfSign v_pairsOfRings) → va_S A s.heap H locs → lv_has ls 2 [(0, .ref a_this), (1, .int x1)] → W p l e { frames := 0, cells := 0, slots := 0, locals := 0 } s m args below meth c H locs 0 0 Q (F0 m 2 ls []) := by
    intro v_pairsOfRings
    refine fun n x1 v_signs v_daysOfSign h => lp_walk (b := f_X4_clear_L2 v_pairsOfRings) (r := (nv_signs, nv_daysOfSign, nv_pairsOfRings)) (P := fun st => match st with | (x1, v_signs, v_daysOfSign) => ∀ (H : Heap) (locs : List Loc) (ls : Array Slot), va_P D vwCl (wd_X4 cI cZ cP a_this a_signs a_daysOfSign a_pairsOfRings v_days v_signs v_daysOfSign v_pairsOfRings) H → va_D A (wd_X4 cI cZ cP a_this a_signs a_daysOfSign a_pairsOfRings v_days v_signs v_daysOfSign v_pairsOfRings) → va_S A s.heap H locs → lv_has ls 2 [(0, .ref a_this), (1, .int x1)] → W p l e { frames := 0, cells := 0, slots := 0, locals := 0 } s m args below meth c H locs 0 0 Q (F0 m 2 ls [])) (fun self hself0 st h => ?_) n (x1, v_signs, v_daysOfSign) h
    obtain ⟨x1, v_signs, v_daysOfSign⟩ := st
    have hself : ∀ (x1 : Int32) (v_signs : Nat → Int32) (v_daysOfSign : Nat → Int32), self (x1, v_signs, v_daysOfSign) = some (nv_signs, nv_daysOfSign, nv_pairsOfRings) → ∀ (H : Heap) (locs : List Loc) (ls : Array Slot), va_P D vwCl (wd_X4 cI cZ cP a_this a_signs a_daysOfSign a_pairsOfRings v_days v_signs v_daysOfSign v_pairsOfRings) H → va_D A (wd_X4 cI cZ cP a_this a_signs a_daysOfSign a_pairsOfRings v_days v_signs v_daysOfSign v_pairsOfRings) → va_S A s.heap H locs → lv_has ls 2 [(0, .ref a_this), (1, .int x1)] → W p l e { frames := 0, cells := 0, slots := 0, locals := 0 } s m args below meth c H locs 0 0 Q (F0 m 2 ls []) := fun x1 v_signs v_daysOfSign h => hself0 (x1, v_signs, v_daysOfSign) h
    clear hself0
    intro H locs ls hP hD hS hl
    replace h : (if (13 : Int32) ≤ x1 then lp (f_X4_clear_L30 v_signs v_daysOfSign) 20000 ((0 : Int32), v_pairsOfRings) else if inb x1 13 then bd (upd v_signs x1.toNatClampNeg (0 : Int32)) (fun v_signs_7 => if inb x1 13 then bd (upd v_daysOfSign x1.toNatClampNeg (0 : Int32)) (fun v_daysOfSign_9 => bd (x1 + (1 : Int32)) (fun x1_10 => self (x1_10, v_signs_7, v_daysOfSign_9))) else none) else none) = some (nv_signs, nv_daysOfSign, nv_pairsOfRings) := h
    refine lv_iload_n hx hb dX4_clear_2 rfl (lv_at hl 1 rfl) ?_
    refine lv_bipush (v := 13) hx hb dX4_clear_3 (by decide) ?_
    refine lv_icmp_ge (tgt := 28) hx hb dX4_clear_5 (by decide) (fun c_5 => ?_) (fun c_5 => ?_)
    · replace h := it_pos h c_5
      refine lv_iconst (v := 0) hx hb dX4_clear_28 (by decide) ?_
      refine lv_istore_n (lv' := [(1, .int (0 : Int32)), (0, .ref a_this)]) hx hb dX4_clear_29 rfl hl (by decide) rfl (fun ls hl => ?_)
      exact w30 v_signs v_daysOfSign 20000 (0 : Int32) v_pairsOfRings h _ _ _ hP hD hS (lv_sub hl [1, 0] rfl)
    · replace h := it_neg h c_5
      refine lv_aload_n hx hb dX4_clear_8 rfl (lv_at hl 0 rfl) ?_
      refine va_get (D := D) (ci := 4) (v := .ref a_signs) (C := RX4) (T := TX4) (N := 4) hx hb hts in_X4_clear_X4 hown hK hP 0 rfl rfl 1 (by decide) kw1 (fun _ h9 => h9) rfl dX4_clear_9 ?_
      refine lv_iload_n hx hb dX4_clear_12 rfl (lv_at hl 1 rfl) ?_
      refine lv_iconst (v := 0) hx hb dX4_clear_13 (by decide) ?_
      obtain ⟨hi_6, h⟩ := gd_some h
      obtain ⟨v_signs_7, ev_signs_7, h⟩ := bd_some h
      refine rd_iast (W1 := wd_X4 cI cZ cP a_this a_signs a_daysOfSign a_pairsOfRings v_days v_signs_7 v_daysOfSign v_pairsOfRings) hx hb hK hP hD hS 1 0 rfl rfl hi_6 ev_signs_7 rfl dX4_clear_14 (fun H locs hP hD hS => ?_)
      refine lv_aload_n hx hb dX4_clear_15 rfl (lv_at hl 0 rfl) ?_
      refine va_get (D := D) (ci := 4) (v := .ref a_daysOfSign) (C := RX4) (T := TX4) (N := 4) hx hb hts in_X4_clear_X4 hown hK hP 0 rfl rfl 2 (by decide) kw2 (fun _ h9 => h9) rfl dX4_clear_16 ?_
      refine lv_iload_n hx hb dX4_clear_19 rfl (lv_at hl 1 rfl) ?_
      refine lv_iconst (v := 0) hx hb dX4_clear_20 (by decide) ?_
      obtain ⟨hi_8, h⟩ := gd_some h
      obtain ⟨v_daysOfSign_9, ev_daysOfSign_9, h⟩ := bd_some h
      refine rd_iast (W1 := wd_X4 cI cZ cP a_this a_signs a_daysOfSign a_pairsOfRings v_days v_signs_7 v_daysOfSign_9 v_pairsOfRings) hx hb hK hP hD hS 2 0 rfl rfl hi_8 ev_daysOfSign_9 rfl dX4_clear_21 (fun H locs hP hD hS => ?_)
      obtain ⟨x1_10, ex1_10, h⟩ := bd_some h
      refine lv_iinc (v := x1_10) (lv' := [(1, .int x1_10), (0, .ref a_this)]) hx hb dX4_clear_22 hl (k := 1) rfl (by rw [ex1_10]; rfl) (by decide) rfl (fun ls hl => ?_)
      refine lv_goto (tgt := 2) hx hb dX4_clear_25 (by decide) ?_
      exact hself x1_10 v_signs_7 v_daysOfSign_9 h _ _ _ hP hD hS (lv_sub hl [1, 0] rfl)
  refine lv_iconst (v := 0) hx hb dX4_clear_0 (by decide) ?_
  refine lv_istore_n (lv' := [(1, .int (0 : Int32)), (0, .ref a_this)]) hx hb dX4_clear_1 rfl hl (by decide) rfl (fun ls hl => ?_)
  exact w2 v_pairsOfRings 20000 (0 : Int32) v_signs v_daysOfSign h _ _ _ hP hD hS (lv_sub hl [1, 0] rfl)
theorem in_X4_measure_X3 : ∀ w ∈ wsX30, w ∈ wsX4_measure := by decide +kernel
theorem in_X4_measure_X4 : ∀ w ∈ wsX40, w ∈ wsX4_measure := by decide +kernel
def f_X4_measure_J70 (k31 : Int32 × (Nat → Int32) × (Nat → Int32) → Option (Int32 × (Nat → Int32) × (Nat → Int32) × (Nat → Int32))) (v_p1_teams : Int32) (v_p1_days : Int32) (v_p1_rows : Nat → Int32) (x2 : Int32) (v_days : Int32) (v_daysOfSign : Nat → Int32) : Int32 × Int32 × (Nat → Int32) × (Nat → Int32) → Option (Int32 × (Nat → Int32) × (Nat → Int32) × (Nat → Int32)) := fun st => match st with | (x3, x4, v_signs, v_pairsOfRings) => if x4 = (1 : Int32) then if inb x2 13 then if inb x2 13 then bd (upd v_signs x2.toNatClampNeg ((v_signs x2.toNatClampNeg) + (1 : Int32))) (fun v_signs_5 => if inb x3 13 then if inb x3 13 then bd (upd v_signs_5 x3.toNatClampNeg ((v_signs_5 x3.toNatClampNeg) + (1 : Int32))) (fun v_signs_8 => bd (x3 + (1 : Int32)) (fun x3_9 => k31 (x3_9, v_signs_8, v_pairsOfRings))) else none else none) else none else none else bd (x3 + (1 : Int32)) (fun x3_2 => k31 (x3_2, v_signs, v_pairsOfRings))
def f_X4_measure_L31 (k19 : Int32 × (Nat → Int32) × (Nat → Int32) → Option (Int32 × (Nat → Int32) × (Nat → Int32) × (Nat → Int32))) (v_p1_teams : Int32) (v_p1_days : Int32) (v_p1_rows : Nat → Int32) (x2 : Int32) (v_days : Int32) (v_daysOfSign : Nat → Int32) (self : Int32 × (Nat → Int32) × (Nat → Int32) → Option (Int32 × (Nat → Int32) × (Nat → Int32) × (Nat → Int32))) : Int32 × (Nat → Int32) × (Nat → Int32) → Option (Int32 × (Nat → Int32) × (Nat → Int32) × (Nat → Int32)) := fun st => match st with | (x3, v_signs, v_pairsOfRings) => if v_days ≤ x3 then bd (x2 + (1 : Int32)) (fun x2_11 => k19 (x2_11, v_signs, v_pairsOfRings)) else (f_X3_circles v_p1_teams v_p1_days v_p1_rows x2 x3).bind (fun r_12 => if r_12 < 0 then f_X4_measure_J70 self v_p1_teams v_p1_days v_p1_rows x2 v_days v_daysOfSign (x3, r_12, v_signs, v_pairsOfRings) else if (7 : Int32) < r_12 then f_X4_measure_J70 self v_p1_teams v_p1_days v_p1_rows x2 v_days v_daysOfSign (x3, r_12, v_signs, v_pairsOfRings) else if inb r_12 8 then if inb r_12 8 then bd (upd v_pairsOfRings r_12.toNatClampNeg ((v_pairsOfRings r_12.toNatClampNeg) + (1 : Int32))) (fun v_pairsOfRings_18 => f_X4_measure_J70 self v_p1_teams v_p1_days v_p1_rows x2 v_days v_daysOfSign (x3, r_12, v_signs, v_pairsOfRings_18)) else none else none)
def f_X4_measure_L110 (v_p1_teams : Int32) (v_p1_days : Int32) (v_p1_rows : Nat → Int32) (v_days : Int32) (v_signs : Nat → Int32) (v_pairsOfRings : Nat → Int32) (self : Int32 × (Nat → Int32) → Option (Int32 × (Nat → Int32) × (Nat → Int32) × (Nat → Int32))) : Int32 × (Nat → Int32) → Option (Int32 × (Nat → Int32) × (Nat → Int32) × (Nat → Int32)) := fun st => match st with | (x2, v_daysOfSign) => if v_days ≤ x2 then some (v_days, v_signs, v_daysOfSign, v_pairsOfRings) else if inb x2 13 then bd (v_signs x2.toNatClampNeg) (fun x3_21 => if x3_21 < 0 then bd (x2 + (1 : Int32)) (fun x2_23 => self (x2_23, v_daysOfSign)) else if (13 : Int32) ≤ x3_21 then bd (x2 + (1 : Int32)) (fun x2_25 => self (x2_25, v_daysOfSign)) else if inb x3_21 13 then if inb x3_21 13 then bd (upd v_daysOfSign x3_21.toNatClampNeg ((v_daysOfSign x3_21.toNatClampNeg) + (1 : Int32))) (fun v_daysOfSign_28 => bd (x2 + (1 : Int32)) (fun x2_29 => self (x2_29, v_daysOfSign_28))) else none else none) else none
def f_X4_measure_L19 (v_p1_teams : Int32) (v_p1_days : Int32) (v_p1_rows : Nat → Int32) (v_days : Int32) (v_daysOfSign : Nat → Int32) (self : Int32 × (Nat → Int32) × (Nat → Int32) → Option (Int32 × (Nat → Int32) × (Nat → Int32) × (Nat → Int32))) : Int32 × (Nat → Int32) × (Nat → Int32) → Option (Int32 × (Nat → Int32) × (Nat → Int32) × (Nat → Int32)) := fun st => match st with | (x2, v_signs, v_pairsOfRings) => if v_days ≤ x2 then lp (f_X4_measure_L110 v_p1_teams v_p1_days v_p1_rows v_days v_signs v_pairsOfRings) 20000 ((0 : Int32), v_daysOfSign) else bd (x2 + (1 : Int32)) (fun x3_31 => lp (f_X4_measure_L31 self v_p1_teams v_p1_days v_p1_rows x2 v_days v_daysOfSign) 20000 (x3_31, v_signs, v_pairsOfRings))
def f_X4_measure (v_days : Int32) (v_signs : Nat → Int32) (v_daysOfSign : Nat → Int32) (v_pairsOfRings : Nat → Int32) (v_p1_teams : Int32) (v_p1_days : Int32) (v_p1_rows : Nat → Int32) : Option (Int32 × (Nat → Int32) × (Nat → Int32) × (Nat → Int32)) := bd (if (13 : Int32) < v_p1_days then (13 : Int32) else v_p1_days) (fun v_days_32 => (f_X4_clear v_signs v_daysOfSign v_pairsOfRings).bind (fun t => match t with | (v_signs_33, v_daysOfSign_34, v_pairsOfRings_35) => lp (f_X4_measure_L19 v_p1_teams v_p1_days v_p1_rows v_days_32 v_daysOfSign_34) 20000 ((0 : Int32), v_signs_33, v_pairsOfRings_35)))
set_option maxHeartbeats 4000000 in
set_option maxRecDepth 100000 in
theorem c_X4_measure (l : Launch) (D : va_G) (cI cZ cP : ClassId) (a_this : Nat) (a_signs : Nat) (a_daysOfSign : Nat) (a_pairsOfRings : Nat) (a_p1 : Nat) (a_p1_rows : Nat) (v_days : Int32) (v_signs : Nat → Int32) (v_daysOfSign : Nat → Int32) (v_pairsOfRings : Nat → Int32) (v_p1_teams : Int32) (v_p1_days : Int32) (v_p1_rows : Nat → Int32) (nv_days : Int32) (nv_signs : Nat → Int32) (nv_daysOfSign : Nat → Int32) (nv_pairsOfRings : Nat → Int32) (h : f_X4_measure v_days v_signs v_daysOfSign v_pairsOfRings v_p1_teams v_p1_days v_p1_rows = some (nv_days, nv_signs, nv_daysOfSign, nv_pairsOfRings)) : rd_V l yX4_measure wsX4_measure { frames := 3, cells := 0, slots := 0, locals := 74 } [.ref a_this, .ref a_p1] D (tyA cI cZ cP) ((wd_X4 cI cZ cP a_this a_signs a_daysOfSign a_pairsOfRings v_days v_signs v_daysOfSign v_pairsOfRings) ++ (wd_X3 cI cZ cP a_p1 a_p1_rows v_p1_teams v_p1_days v_p1_rows)) ((wd_X4 cI cZ cP a_this a_signs a_daysOfSign a_pairsOfRings nv_days nv_signs nv_daysOfSign nv_pairsOfRings) ++ (wd_X3 cI cZ cP a_p1 a_p1_rows v_p1_teams v_p1_days v_p1_rows)) := by
  unfold f_X4_measure at h
  refine rd_enterV (cc := cX4_measure) (maxL := 5) (by decide) rfl (Nat.le_of_ble_eq_true rfl) ?_
  intro p e s m args below meth c A Q ls hx hb hml hown hts hA hK hP hD hS hl hret
  have hl : lv_has ls 5 [(0, .ref a_this), (1, .ref a_p1)] := hl
  have kw1 := hts (.fieldLink RX4 21 "RoundDays$Plan" "days" "I") (List.mem_of_getElem? (i := 1) rfl)
  have kw2 := hts (.methodLink RX4 27 Lib.Math.min.name) (List.mem_of_getElem? (i := 2) rfl)
  have kw3 := hts (.static Lib.Math.min.name) (List.mem_of_getElem? (i := 3) rfl)
  have kw4 := hts (.initialized "java/lang/Math") (List.mem_of_getElem? (i := 4) rfl)
  have kw5 := hts (.code Lib.Math.min.name Lib.Math.min.code 2 (some .int)) (List.mem_of_getElem? (i := 5) rfl)
  have kw6 := hts (.fieldLink RX4 33 "RoundDays$Profile" "days" "I") (List.mem_of_getElem? (i := 6) rfl)
  have kw7 := hts (.fieldLink RX4 18 "RoundDays$Profile" "pairsOfRings" "[I") (List.mem_of_getElem? (i := 7) rfl)
  have kw8 := hts (.fieldLink RX4 9 "RoundDays$Profile" "signs" "[I") (List.mem_of_getElem? (i := 8) rfl)
  have kw9 := hts (.fieldLink RX4 15 "RoundDays$Profile" "daysOfSign" "[I") (List.mem_of_getElem? (i := 9) rfl)
  have w70 : ∀ x2 : Int32, ∀ v_days : Int32, ∀ v_daysOfSign : Nat → Int32, ∀ k31 : Int32 × (Nat → Int32) × (Nat → Int32) → Option (Int32 × (Nat → Int32) × (Nat → Int32) × (Nat → Int32)), (∀ (x3 : Int32) (v_signs : Nat → Int32) (v_pairsOfRings : Nat → Int32), k31 (x3, v_signs, v_pairsOfRings) = some (nv_days, nv_signs, nv_daysOfSign, nv_pairsOfRings) → ∀ (H : Heap) (locs : List Loc) (ls : Array Slot), va_P D vwCl ((wd_X4 cI cZ cP a_this a_signs a_daysOfSign a_pairsOfRings v_days v_signs v_daysOfSign v_pairsOfRings) ++ (wd_X3 cI cZ cP a_p1 a_p1_rows v_p1_teams v_p1_days v_p1_rows)) H → va_D A ((wd_X4 cI cZ cP a_this a_signs a_daysOfSign a_pairsOfRings v_days v_signs v_daysOfSign v_pairsOfRings) ++ (wd_X3 cI cZ cP a_p1 a_p1_rows v_p1_teams v_p1_days v_p1_rows)) → va_S A s.heap H locs → lv_has ls 5 [(0, .ref a_this), (1, .ref a_p1), (2, .int x2), (3, .int x3)] → W p l e { frames := 3, cells := 0, slots := 0, locals := 74 } s m args below meth c H locs 0 0 Q (F0 m 31 ls [])) → ∀ (x3 : Int32) (x4 : Int32) (v_signs : Nat → Int32) (v_pairsOfRings : Nat → Int32), f_X4_measure_J70 k31 v_p1_teams v_p1_days v_p1_rows x2 v_days v_daysOfSign (x3, x4, v_signs, v_pairsOfRings) = some (nv_days, nv_signs, nv_daysOfSign, nv_pairsOfRings) → ∀ (H : Heap) (locs : List Loc) (ls : Array Slot), va_P D vwCl ((wd_X4 cI cZ cP a_this a_signs a_daysOfSign a_pairsOfRings v_days v_signs v_daysOfSign v_pairsOfRings) ++ (wd_X3 cI cZ cP a_p1 a_p1_rows v_p1_teams v_p1_days v_p1_rows)) H → va_D A ((wd_X4 cI cZ cP a_this a_signs a_daysOfSign a_pairsOfRings v_days v_signs v_daysOfSign v_pairsOfRings) ++ (wd_X3 cI cZ cP a_p1 a_p1_rows v_p1_teams v_p1_days v_p1_rows)) → va_S A s.heap H locs → lv_has ls 5 [(0, .ref a_this), (1, .ref a_p1), (2, .int x2), (3, .int x3), (4, .int x4)] → W p l e { frames := 3, cells := 0, slots := 0, locals := 74 } s m args below meth c H locs 0 0 Q (F0 m 70 ls []) := by
    intro x2 v_days v_daysOfSign k31 hk31 x3 x4 v_signs v_pairsOfRings h H locs ls hP hD hS hl
    replace h : (if x4 = (1 : Int32) then if inb x2 13 then if inb x2 13 then bd (upd v_signs x2.toNatClampNeg ((v_signs x2.toNatClampNeg) + (1 : Int32))) (fun v_signs_5 => if inb x3 13 then if inb x3 13 then bd (upd v_signs_5 x3.toNatClampNeg ((v_signs_5 x3.toNatClampNeg) + (1 : Int32))) (fun v_signs_8 => bd (x3 + (1 : Int32)) (fun x3_9 => k31 (x3_9, v_signs_8, v_pairsOfRings))) else none else none) else none else none else bd (x3 + (1 : Int32)) (fun x3_2 => k31 (x3_2, v_signs, v_pairsOfRings))) = some (nv_days, nv_signs, nv_daysOfSign, nv_pairsOfRings) := h
    refine lv_iload hx hb dX4_measure_70 (lv_at hl 4 rfl) ?_
    refine lv_iconst (v := 1) hx hb dX4_measure_72 (by decide) ?_
    refine lv_icmp_ne (tgt := 96) hx hb dX4_measure_73 (by decide) (fun c_1 => ?_) (fun c_1 => ?_)
    · replace h := it_neg h c_1
      obtain ⟨x3_2, ex3_2, h⟩ := bd_some h
      refine lv_iinc (v := x3_2) (lv' := [(3, .int x3_2), (0, .ref a_this), (1, .ref a_p1), (2, .int x2), (4, .int x4)]) hx hb dX4_measure_96 hl (k := 3) rfl (by rw [ex3_2]; rfl) (by decide) rfl (fun ls hl => ?_)
      refine lv_goto (tgt := 31) hx hb dX4_measure_99 (by decide) ?_
      exact hk31 x3_2 v_signs v_pairsOfRings h _ _ _ hP hD hS (lv_sub hl [1, 2, 3, 0] rfl)
    · replace h := it_pos h c_1
      refine lv_aload_n hx hb dX4_measure_76 rfl (lv_at hl 0 rfl) ?_
      refine va_get (D := D) (ci := 4) (v := .ref a_signs) (C := RX4) (T := TX4) (N := 4) hx hb hts in_X4_measure_X4 hown hK hP 0 rfl rfl 1 (by decide) kw8 (fun _ h9 => h9) rfl dX4_measure_77 ?_
      refine lv_iload_n hx hb dX4_measure_80 rfl (lv_at hl 2 rfl) ?_
      refine lv_dup2_11 hx hb dX4_measure_81 rfl rfl ?_
      obtain ⟨hi_3, h⟩ := gd_some h
      refine va_iald hx hb hK hP 1 0 rfl rfl (inb_in hi_3) dX4_measure_82 ?_
      refine lv_iconst (v := 1) hx hb dX4_measure_83 (by decide) ?_
      refine lv_iadd hx hb dX4_measure_84 ?_
      obtain ⟨hi_4, h⟩ := gd_some h
      obtain ⟨v_signs_5, ev_signs_5, h⟩ := bd_some h
      refine rd_iast (W1 := (wd_X4 cI cZ cP a_this a_signs a_daysOfSign a_pairsOfRings v_days v_signs_5 v_daysOfSign v_pairsOfRings) ++ (wd_X3 cI cZ cP a_p1 a_p1_rows v_p1_teams v_p1_days v_p1_rows)) hx hb hK hP hD hS 1 0 rfl rfl hi_4 ev_signs_5 rfl dX4_measure_85 (fun H locs hP hD hS => ?_)
      refine lv_aload_n hx hb dX4_measure_86 rfl (lv_at hl 0 rfl) ?_
      refine va_get (D := D) (ci := 4) (v := .ref a_signs) (C := RX4) (T := TX4) (N := 4) hx hb hts in_X4_measure_X4 hown hK hP 0 rfl rfl 1 (by decide) kw8 (fun _ h9 => h9) rfl dX4_measure_87 ?_
      refine lv_iload_n hx hb dX4_measure_90 rfl (lv_at hl 3 rfl) ?_
      refine lv_dup2_11 hx hb dX4_measure_91 rfl rfl ?_
      obtain ⟨hi_6, h⟩ := gd_some h
      refine va_iald hx hb hK hP 1 0 rfl rfl (inb_in hi_6) dX4_measure_92 ?_
      refine lv_iconst (v := 1) hx hb dX4_measure_93 (by decide) ?_
      refine lv_iadd hx hb dX4_measure_94 ?_
      obtain ⟨hi_7, h⟩ := gd_some h
      obtain ⟨v_signs_8, ev_signs_8, h⟩ := bd_some h
      refine rd_iast (W1 := (wd_X4 cI cZ cP a_this a_signs a_daysOfSign a_pairsOfRings v_days v_signs_8 v_daysOfSign v_pairsOfRings) ++ (wd_X3 cI cZ cP a_p1 a_p1_rows v_p1_teams v_p1_days v_p1_rows)) hx hb hK hP hD hS 1 0 rfl rfl hi_7 ev_signs_8 rfl dX4_measure_95 (fun H locs hP hD hS => ?_)
      obtain ⟨x3_9, ex3_9, h⟩ := bd_some h
      refine lv_iinc (v := x3_9) (lv' := [(3, .int x3_9), (0, .ref a_this), (1, .ref a_p1), (2, .int x2), (4, .int x4)]) hx hb dX4_measure_96 hl (k := 3) rfl (by rw [ex3_9]; rfl) (by decide) rfl (fun ls hl => ?_)
      refine lv_goto (tgt := 31) hx hb dX4_measure_99 (by decide) ?_
      exact hk31 x3_9 v_signs_8 v_pairsOfRings h _ _ _ hP hD hS (lv_sub hl [1, 2, 3, 0] rfl)
  have w31 : ∀ x2 : Int32, ∀ v_days : Int32, ∀ v_daysOfSign : Nat → Int32, ∀ k19 : Int32 × (Nat → Int32) × (Nat → Int32) → Option (Int32 × (Nat → Int32) × (Nat → Int32) × (Nat → Int32)), (∀ (x2 : Int32) (v_signs : Nat → Int32) (v_pairsOfRings : Nat → Int32), k19 (x2, v_signs, v_pairsOfRings) = some (nv_days, nv_signs, nv_daysOfSign, nv_pairsOfRings) → ∀ (H : Heap) (locs : List Loc) (ls : Array Slot), va_P D vwCl ((wd_X4 cI cZ cP a_this a_signs a_daysOfSign a_pairsOfRings v_days v_signs v_daysOfSign v_pairsOfRings) ++ (wd_X3 cI cZ cP a_p1 a_p1_rows v_p1_teams v_p1_days v_p1_rows)) H → va_D A ((wd_X4 cI cZ cP a_this a_signs a_daysOfSign a_pairsOfRings v_days v_signs v_daysOfSign v_pairsOfRings) ++ (wd_X3 cI cZ cP a_p1 a_p1_rows v_p1_teams v_p1_days v_p1_rows)) → va_S A s.heap H locs → lv_has ls 5 [(0, .ref a_this), (1, .ref a_p1), (2, .int x2)] → W p l e { frames := 3, cells := 0, slots := 0, locals := 74 } s m args below meth c H locs 0 0 Q (F0 m 19 ls [])) → ∀ n : Nat, ∀ (x3 : Int32) (v_signs : Nat → Int32) (v_pairsOfRings : Nat → Int32), lp (f_X4_measure_L31 k19 v_p1_teams v_p1_days v_p1_rows x2 v_days v_daysOfSign) n (x3, v_signs, v_pairsOfRings) = some (nv_days, nv_signs, nv_daysOfSign, nv_pairsOfRings) → ∀ (H : Heap) (locs : List Loc) (ls : Array Slot), va_P D vwCl ((wd_X4 cI cZ cP a_this a_signs a_daysOfSign a_pairsOfRings v_days v_signs v_daysOfSign v_pairsOfRings) ++ (wd_X3 cI cZ cP a_p1 a_p1_rows v_p1_teams v_p1_days v_p1_rows)) H → va_D A ((wd_X4 cI cZ cP a_this a_signs a_daysOfSign a_pairsOfRings v_days v_signs v_daysOfSign v_pairsOfRings) ++ (wd_X3 cI cZ cP a_p1 a_p1_rows v_p1_teams v_p1_days v_p1_rows)) → va_S A s.heap H locs → lv_has ls 5 [(0, .ref a_this), (1, .ref a_p1), (2, .int x2), (3, .int x3)] → W p l e { frames := 3, cells := 0, slots := 0, locals := 74 } s m args below meth c H locs 0 0 Q (F0 m 31 ls []) := by
    intro x2 v_days v_daysOfSign k19 hk19
    refine fun n x3 v_signs v_pairsOfRings h => lp_walk (b := f_X4_measure_L31 k19 v_p1_teams v_p1_days v_p1_rows x2 v_days v_daysOfSign) (r := (nv_days, nv_signs, nv_daysOfSign, nv_pairsOfRings)) (P := fun st => match st with | (x3, v_signs, v_pairsOfRings) => ∀ (H : Heap) (locs : List Loc) (ls : Array Slot), va_P D vwCl ((wd_X4 cI cZ cP a_this a_signs a_daysOfSign a_pairsOfRings v_days v_signs v_daysOfSign v_pairsOfRings) ++ (wd_X3 cI cZ cP a_p1 a_p1_rows v_p1_teams v_p1_days v_p1_rows)) H → va_D A ((wd_X4 cI cZ cP a_this a_signs a_daysOfSign a_pairsOfRings v_days v_signs v_daysOfSign v_pairsOfRings) ++ (wd_X3 cI cZ cP a_p1 a_p1_rows v_p1_teams v_p1_days v_p1_rows)) → va_S A s.heap H locs → lv_has ls 5 [(0, .ref a_this), (1, .ref a_p1), (2, .int x2), (3, .int x3)] → W p l e { frames := 3, cells := 0, slots := 0, locals := 74 } s m args below meth c H locs 0 0 Q (F0 m 31 ls [])) (fun self hself0 st h => ?_) n (x3, v_signs, v_pairsOfRings) h
    obtain ⟨x3, v_signs, v_pairsOfRings⟩ := st
    have hself : ∀ (x3 : Int32) (v_signs : Nat → Int32) (v_pairsOfRings : Nat → Int32), self (x3, v_signs, v_pairsOfRings) = some (nv_days, nv_signs, nv_daysOfSign, nv_pairsOfRings) → ∀ (H : Heap) (locs : List Loc) (ls : Array Slot), va_P D vwCl ((wd_X4 cI cZ cP a_this a_signs a_daysOfSign a_pairsOfRings v_days v_signs v_daysOfSign v_pairsOfRings) ++ (wd_X3 cI cZ cP a_p1 a_p1_rows v_p1_teams v_p1_days v_p1_rows)) H → va_D A ((wd_X4 cI cZ cP a_this a_signs a_daysOfSign a_pairsOfRings v_days v_signs v_daysOfSign v_pairsOfRings) ++ (wd_X3 cI cZ cP a_p1 a_p1_rows v_p1_teams v_p1_days v_p1_rows)) → va_S A s.heap H locs → lv_has ls 5 [(0, .ref a_this), (1, .ref a_p1), (2, .int x2), (3, .int x3)] → W p l e { frames := 3, cells := 0, slots := 0, locals := 74 } s m args below meth c H locs 0 0 Q (F0 m 31 ls []) := fun x3 v_signs v_pairsOfRings h => hself0 (x3, v_signs, v_pairsOfRings) h
    clear hself0
    intro H locs ls hP hD hS hl
    replace h : (if v_days ≤ x3 then bd (x2 + (1 : Int32)) (fun x2_11 => k19 (x2_11, v_signs, v_pairsOfRings)) else (f_X3_circles v_p1_teams v_p1_days v_p1_rows x2 x3).bind (fun r_12 => if r_12 < 0 then f_X4_measure_J70 self v_p1_teams v_p1_days v_p1_rows x2 v_days v_daysOfSign (x3, r_12, v_signs, v_pairsOfRings) else if (7 : Int32) < r_12 then f_X4_measure_J70 self v_p1_teams v_p1_days v_p1_rows x2 v_days v_daysOfSign (x3, r_12, v_signs, v_pairsOfRings) else if inb r_12 8 then if inb r_12 8 then bd (upd v_pairsOfRings r_12.toNatClampNeg ((v_pairsOfRings r_12.toNatClampNeg) + (1 : Int32))) (fun v_pairsOfRings_18 => f_X4_measure_J70 self v_p1_teams v_p1_days v_p1_rows x2 v_days v_daysOfSign (x3, r_12, v_signs, v_pairsOfRings_18)) else none else none)) = some (nv_days, nv_signs, nv_daysOfSign, nv_pairsOfRings) := h
    refine lv_iload_n hx hb dX4_measure_31 rfl (lv_at hl 3 rfl) ?_
    refine lv_aload_n hx hb dX4_measure_32 rfl (lv_at hl 0 rfl) ?_
    refine va_get (D := D) (ci := 4) (v := .int v_days) (C := RX4) (T := TX4) (N := 4) hx hb hts in_X4_measure_X4 hown hK hP 0 rfl rfl 0 (by decide) kw6 (fun _ h9 => h9) rfl dX4_measure_33 ?_
    refine lv_icmp_ge (tgt := 102) hx hb dX4_measure_36 (by decide) (fun c_10 => ?_) (fun c_10 => ?_)
    · replace h := it_pos h c_10
      obtain ⟨x2_11, ex2_11, h⟩ := bd_some h
      refine lv_iinc (v := x2_11) (lv' := [(2, .int x2_11), (0, .ref a_this), (1, .ref a_p1), (3, .int x3)]) hx hb dX4_measure_102 hl (k := 2) rfl (by rw [ex2_11]; rfl) (by decide) rfl (fun ls hl => ?_)
      refine lv_goto (tgt := 19) hx hb dX4_measure_105 (by decide) ?_
      exact hk19 x2_11 v_signs v_pairsOfRings h _ _ _ hP hD hS (lv_sub hl [1, 2, 0] rfl)
    · replace h := it_neg h c_10
      refine lv_aload_n hx hb dX4_measure_39 rfl (lv_at hl 1 rfl) ?_
      refine lv_iload_n hx hb dX4_measure_40 rfl (lv_at hl 2 rfl) ?_
      refine lv_iload_n hx hb dX4_measure_41 rfl (lv_at hl 3 rfl) ?_
      obtain ⟨r_12, hc_13, h⟩ := bi_some h
      refine rd_callVi [.int x2, .int x3] [] (wr := [(a_this, .inr (4, [.int v_days, .ref a_signs, .ref a_daysOfSign, .ref a_pairsOfRings])), (a_signs, .inl (cI, 13, .inl v_signs)), (a_daysOfSign, .inl (cI, 13, .inl v_daysOfSign)), (a_pairsOfRings, .inl (cI, 8, .inl v_pairsOfRings))]) (W1 := (wd_X4 cI cZ cP a_this a_signs a_daysOfSign a_pairsOfRings v_days v_signs v_daysOfSign v_pairsOfRings) ++ (wd_X3 cI cZ cP a_p1 a_p1_rows v_p1_teams v_p1_days v_p1_rows)) (ci := 3) ⟨hx, hb, hml, hown, hts⟩ (c_X3_circles l D cI cZ cP a_p1 a_p1_rows v_p1_teams v_p1_days v_p1_rows x2 x3 r_12 hc_13) (cwV 2 hts gX4_measure_X3_circles rfl rfl rfl (by decide +kernel) ⟨Nat.le_of_ble_eq_true rfl, Nat.le_of_ble_eq_true rfl⟩) rfl rfl hl.1 (Nat.le_of_ble_eq_true rfl) dX4_measure_42 ⟨Nat.zero_le _, Nat.zero_le _⟩ hK hP hD hS hA rfl rfl [4, 5] [0, 1, 2, 3] [0, 1, 2, 3, 4, 5] ⟨⟨rfl, rfl, rfl⟩, by decide⟩ (fun H locs hP hD hS => ?_)
      refine lv_istore (lv' := [(4, .int r_12), (0, .ref a_this), (1, .ref a_p1), (2, .int x2), (3, .int x3)]) hx hb dX4_measure_45 hl (by decide) rfl (fun ls hl => ?_)
      refine lv_iload hx hb dX4_measure_47 (lv_at hl 0 rfl) ?_
      refine lv_if_lt (tgt := 70) hx hb dX4_measure_49 (by decide) (fun c_14 => ?_) (fun c_14 => ?_)
      · replace h := it_pos h c_14
        exact w70 x2 v_days v_daysOfSign _ hself x3 r_12 v_signs v_pairsOfRings h _ _ _ hP hD hS (lv_sub hl [1, 2, 3, 4, 0] rfl)
      · replace h := it_neg h c_14
        refine lv_iload hx hb dX4_measure_52 (lv_at hl 0 rfl) ?_
        refine lv_bipush (v := 7) hx hb dX4_measure_54 (by decide) ?_
        refine lv_icmp_gt (tgt := 70) hx hb dX4_measure_56 (by decide) (fun c_15 => ?_) (fun c_15 => ?_)
        · replace h := it_pos h c_15
          exact w70 x2 v_days v_daysOfSign _ hself x3 r_12 v_signs v_pairsOfRings h _ _ _ hP hD hS (lv_sub hl [1, 2, 3, 4, 0] rfl)
        · replace h := it_neg h c_15
          refine lv_aload_n hx hb dX4_measure_59 rfl (lv_at hl 1 rfl) ?_
          refine va_get (D := D) (ci := 4) (v := .ref a_pairsOfRings) (C := RX4) (T := TX4) (N := 4) hx hb hts in_X4_measure_X4 hown hK hP 0 rfl rfl 3 (by decide) kw7 (fun _ h9 => h9) rfl dX4_measure_60 ?_
          refine lv_iload hx hb dX4_measure_63 (lv_at hl 0 rfl) ?_
          refine lv_dup2_11 hx hb dX4_measure_65 rfl rfl ?_
          obtain ⟨hi_16, h⟩ := gd_some h
          refine va_iald hx hb hK hP 3 0 rfl rfl (inb_in hi_16) dX4_measure_66 ?_
          refine lv_iconst (v := 1) hx hb dX4_measure_67 (by decide) ?_
          refine lv_iadd hx hb dX4_measure_68 ?_
          obtain ⟨hi_17, h⟩ := gd_some h
          obtain ⟨v_pairsOfRings_18, ev_pairsOfRings_18, h⟩ := bd_some h
          refine rd_iast (W1 := (wd_X4 cI cZ cP a_this a_signs a_daysOfSign a_pairsOfRings v_days v_signs v_daysOfSign v_pairsOfRings_18) ++ (wd_X3 cI cZ cP a_p1 a_p1_rows v_p1_teams v_p1_days v_p1_rows)) hx hb hK hP hD hS 3 0 rfl rfl hi_17 ev_pairsOfRings_18 rfl dX4_measure_69 (fun H locs hP hD hS => ?_)
          exact w70 x2 v_days v_daysOfSign _ hself x3 r_12 v_signs v_pairsOfRings_18 h _ _ _ hP hD hS (lv_sub hl [1, 2, 3, 4, 0] rfl)
  have w110 : ∀ v_days : Int32, ∀ v_signs : Nat → Int32, ∀ v_pairsOfRings : Nat → Int32, ∀ n : Nat, ∀ (x2 : Int32) (v_daysOfSign : Nat → Int32), lp (f_X4_measure_L110 v_p1_teams v_p1_days v_p1_rows v_days v_signs v_pairsOfRings) n (x2, v_daysOfSign) = some (nv_days, nv_signs, nv_daysOfSign, nv_pairsOfRings) → ∀ (H : Heap) (locs : List Loc) (ls : Array Slot), va_P D vwCl ((wd_X4 cI cZ cP a_this a_signs a_daysOfSign a_pairsOfRings v_days v_signs v_daysOfSign v_pairsOfRings) ++ (wd_X3 cI cZ cP a_p1 a_p1_rows v_p1_teams v_p1_days v_p1_rows)) H → va_D A ((wd_X4 cI cZ cP a_this a_signs a_daysOfSign a_pairsOfRings v_days v_signs v_daysOfSign v_pairsOfRings) ++ (wd_X3 cI cZ cP a_p1 a_p1_rows v_p1_teams v_p1_days v_p1_rows)) → va_S A s.heap H locs → lv_has ls 5 [(0, .ref a_this), (2, .int x2)] → W p l e { frames := 3, cells := 0, slots := 0, locals := 74 } s m args below meth c H locs 0 0 Q (F0 m 110 ls []) := by
    intro v_days v_signs v_pairsOfRings
    refine fun n x2 v_daysOfSign h => lp_walk (b := f_X4_measure_L110 v_p1_teams v_p1_days v_p1_rows v_days v_signs v_pairsOfRings) (r := (nv_days, nv_signs, nv_daysOfSign, nv_pairsOfRings)) (P := fun st => match st with | (x2, v_daysOfSign) => ∀ (H : Heap) (locs : List Loc) (ls : Array Slot), va_P D vwCl ((wd_X4 cI cZ cP a_this a_signs a_daysOfSign a_pairsOfRings v_days v_signs v_daysOfSign v_pairsOfRings) ++ (wd_X3 cI cZ cP a_p1 a_p1_rows v_p1_teams v_p1_days v_p1_rows)) H → va_D A ((wd_X4 cI cZ cP a_this a_signs a_daysOfSign a_pairsOfRings v_days v_signs v_daysOfSign v_pairsOfRings) ++ (wd_X3 cI cZ cP a_p1 a_p1_rows v_p1_teams v_p1_days v_p1_rows)) → va_S A s.heap H locs → lv_has ls 5 [(0, .ref a_this), (2, .int x2)] → W p l e { frames := 3, cells := 0, slots := 0, locals := 74 } s m args below meth c H locs 0 0 Q (F0 m 110 ls [])) (fun self hself0 st h => ?_) n (x2, v_daysOfSign) h
    obtain ⟨x2, v_daysOfSign⟩ := st
    have hself : ∀ (x2 : Int32) (v_daysOfSign : Nat → Int32), self (x2, v_daysOfSign) = some (nv_days, nv_signs, nv_daysOfSign, nv_pairsOfRings) → ∀ (H : Heap) (locs : List Loc) (ls : Array Slot), va_P D vwCl ((wd_X4 cI cZ cP a_this a_signs a_daysOfSign a_pairsOfRings v_days v_signs v_daysOfSign v_pairsOfRings) ++ (wd_X3 cI cZ cP a_p1 a_p1_rows v_p1_teams v_p1_days v_p1_rows)) H → va_D A ((wd_X4 cI cZ cP a_this a_signs a_daysOfSign a_pairsOfRings v_days v_signs v_daysOfSign v_pairsOfRings) ++ (wd_X3 cI cZ cP a_p1 a_p1_rows v_p1_teams v_p1_days v_p1_rows)) → va_S A s.heap H locs → lv_has ls 5 [(0, .ref a_this), (2, .int x2)] → W p l e { frames := 3, cells := 0, slots := 0, locals := 74 } s m args below meth c H locs 0 0 Q (F0 m 110 ls []) := fun x2 v_daysOfSign h => hself0 (x2, v_daysOfSign) h
    clear hself0
    intro H locs ls hP hD hS hl
    replace h : (if v_days ≤ x2 then some (v_days, v_signs, v_daysOfSign, v_pairsOfRings) else if inb x2 13 then bd (v_signs x2.toNatClampNeg) (fun x3_21 => if x3_21 < 0 then bd (x2 + (1 : Int32)) (fun x2_23 => self (x2_23, v_daysOfSign)) else if (13 : Int32) ≤ x3_21 then bd (x2 + (1 : Int32)) (fun x2_25 => self (x2_25, v_daysOfSign)) else if inb x3_21 13 then if inb x3_21 13 then bd (upd v_daysOfSign x3_21.toNatClampNeg ((v_daysOfSign x3_21.toNatClampNeg) + (1 : Int32))) (fun v_daysOfSign_28 => bd (x2 + (1 : Int32)) (fun x2_29 => self (x2_29, v_daysOfSign_28))) else none else none) else none) = some (nv_days, nv_signs, nv_daysOfSign, nv_pairsOfRings) := h
    refine lv_iload_n hx hb dX4_measure_110 rfl (lv_at hl 1 rfl) ?_
    refine lv_aload_n hx hb dX4_measure_111 rfl (lv_at hl 0 rfl) ?_
    refine va_get (D := D) (ci := 4) (v := .int v_days) (C := RX4) (T := TX4) (N := 4) hx hb hts in_X4_measure_X4 hown hK hP 0 rfl rfl 0 (by decide) kw6 (fun _ h9 => h9) rfl dX4_measure_112 ?_
    refine lv_icmp_ge (tgt := 151) hx hb dX4_measure_115 (by decide) (fun c_19 => ?_) (fun c_19 => ?_)
    · replace h := it_pos h c_19
      obtain ⟨rfl, rfl, rfl, rfl⟩ := inj4 h
      exact hret dX4_measure_151 hP hD hS
    · replace h := it_neg h c_19
      refine lv_aload_n hx hb dX4_measure_118 rfl (lv_at hl 0 rfl) ?_
      refine va_get (D := D) (ci := 4) (v := .ref a_signs) (C := RX4) (T := TX4) (N := 4) hx hb hts in_X4_measure_X4 hown hK hP 0 rfl rfl 1 (by decide) kw8 (fun _ h9 => h9) rfl dX4_measure_119 ?_
      refine lv_iload_n hx hb dX4_measure_122 rfl (lv_at hl 1 rfl) ?_
      obtain ⟨hi_20, h⟩ := gd_some h
      refine va_iald hx hb hK hP 1 0 rfl rfl (inb_in hi_20) dX4_measure_123 ?_
      obtain ⟨x3_21, ex3_21, h⟩ := bd_some h
      refine rd_top ex3_21 ?_
      refine lv_istore_n (lv' := [(3, .int x3_21), (0, .ref a_this), (2, .int x2)]) hx hb dX4_measure_124 rfl hl (by decide) rfl (fun ls hl => ?_)
      refine lv_iload_n hx hb dX4_measure_125 rfl (lv_at hl 0 rfl) ?_
      refine lv_if_lt (tgt := 145) hx hb dX4_measure_126 (by decide) (fun c_22 => ?_) (fun c_22 => ?_)
      · replace h := it_pos h c_22
        obtain ⟨x2_23, ex2_23, h⟩ := bd_some h
        refine lv_iinc (v := x2_23) (lv' := [(2, .int x2_23), (3, .int x3_21), (0, .ref a_this)]) hx hb dX4_measure_145 hl (k := 2) rfl (by rw [ex2_23]; rfl) (by decide) rfl (fun ls hl => ?_)
        refine lv_goto (tgt := 110) hx hb dX4_measure_148 (by decide) ?_
        exact hself x2_23 v_daysOfSign h _ _ _ hP hD hS (lv_sub hl [2, 0] rfl)
      · replace h := it_neg h c_22
        refine lv_iload_n hx hb dX4_measure_129 rfl (lv_at hl 0 rfl) ?_
        refine lv_bipush (v := 13) hx hb dX4_measure_130 (by decide) ?_
        refine lv_icmp_ge (tgt := 145) hx hb dX4_measure_132 (by decide) (fun c_24 => ?_) (fun c_24 => ?_)
        · replace h := it_pos h c_24
          obtain ⟨x2_25, ex2_25, h⟩ := bd_some h
          refine lv_iinc (v := x2_25) (lv' := [(2, .int x2_25), (3, .int x3_21), (0, .ref a_this)]) hx hb dX4_measure_145 hl (k := 2) rfl (by rw [ex2_25]; rfl) (by decide) rfl (fun ls hl => ?_)
          refine lv_goto (tgt := 110) hx hb dX4_measure_148 (by decide) ?_
          exact hself x2_25 v_daysOfSign h _ _ _ hP hD hS (lv_sub hl [2, 0] rfl)
        · replace h := it_neg h c_24
          refine lv_aload_n hx hb dX4_measure_135 rfl (lv_at hl 1 rfl) ?_
          refine va_get (D := D) (ci := 4) (v := .ref a_daysOfSign) (C := RX4) (T := TX4) (N := 4) hx hb hts in_X4_measure_X4 hown hK hP 0 rfl rfl 2 (by decide) kw9 (fun _ h9 => h9) rfl dX4_measure_136 ?_
          refine lv_iload_n hx hb dX4_measure_139 rfl (lv_at hl 0 rfl) ?_
          refine lv_dup2_11 hx hb dX4_measure_140 rfl rfl ?_
          obtain ⟨hi_26, h⟩ := gd_some h
          refine va_iald hx hb hK hP 2 0 rfl rfl (inb_in hi_26) dX4_measure_141 ?_
          refine lv_iconst (v := 1) hx hb dX4_measure_142 (by decide) ?_
          refine lv_iadd hx hb dX4_measure_143 ?_
          obtain ⟨hi_27, h⟩ := gd_some h
          obtain ⟨v_daysOfSign_28, ev_daysOfSign_28, h⟩ := bd_some h
          refine rd_iast (W1 := (wd_X4 cI cZ cP a_this a_signs a_daysOfSign a_pairsOfRings v_days v_signs v_daysOfSign_28 v_pairsOfRings) ++ (wd_X3 cI cZ cP a_p1 a_p1_rows v_p1_teams v_p1_days v_p1_rows)) hx hb hK hP hD hS 2 0 rfl rfl hi_27 ev_daysOfSign_28 rfl dX4_measure_144 (fun H locs hP hD hS => ?_)
          obtain ⟨x2_29, ex2_29, h⟩ := bd_some h
          refine lv_iinc (v := x2_29) (lv' := [(2, .int x2_29), (3, .int x3_21), (0, .ref a_this)]) hx hb dX4_measure_145 hl (k := 2) rfl (by rw [ex2_29]; rfl) (by decide) rfl (fun ls hl => ?_)
          refine lv_goto (tgt := 110) hx hb dX4_measure_148 (by decide) ?_
          exact hself x2_29 v_daysOfSign_28 h _ _ _ hP hD hS (lv_sub hl [2, 0] rfl)
  have w19 : ∀ v_days : Int32, ∀ v_daysOfSign : Nat → Int32, ∀ n : Nat, ∀ (x2 : Int32) (v_signs : Nat → Int32) (v_pairsOfRings : Nat → Int32), lp (f_X4_measure_L19 v_p1_teams v_p1_days v_p1_rows v_days v_daysOfSign) n (x2, v_signs, v_pairsOfRings) = some (nv_days, nv_signs, nv_daysOfSign, nv_pairsOfRings) → ∀ (H : Heap) (locs : List Loc) (ls : Array Slot), va_P D vwCl ((wd_X4 cI cZ cP a_this a_signs a_daysOfSign a_pairsOfRings v_days v_signs v_daysOfSign v_pairsOfRings) ++ (wd_X3 cI cZ cP a_p1 a_p1_rows v_p1_teams v_p1_days v_p1_rows)) H → va_D A ((wd_X4 cI cZ cP a_this a_signs a_daysOfSign a_pairsOfRings v_days v_signs v_daysOfSign v_pairsOfRings) ++ (wd_X3 cI cZ cP a_p1 a_p1_rows v_p1_teams v_p1_days v_p1_rows)) → va_S A s.heap H locs → lv_has ls 5 [(0, .ref a_this), (1, .ref a_p1), (2, .int x2)] → W p l e { frames := 3, cells := 0, slots := 0, locals := 74 } s m args below meth c H locs 0 0 Q (F0 m 19 ls []) := by
    intro v_days v_daysOfSign
    refine fun n x2 v_signs v_pairsOfRings h => lp_walk (b := f_X4_measure_L19 v_p1_teams v_p1_days v_p1_rows v_days v_daysOfSign) (r := (nv_days, nv_signs, nv_daysOfSign, nv_pairsOfRings)) (P := fun st => match st with | (x2, v_signs, v_pairsOfRings) => ∀ (H : Heap) (locs : List Loc) (ls : Array Slot), va_P D vwCl ((wd_X4 cI cZ cP a_this a_signs a_daysOfSign a_pairsOfRings v_days v_signs v_daysOfSign v_pairsOfRings) ++ (wd_X3 cI cZ cP a_p1 a_p1_rows v_p1_teams v_p1_days v_p1_rows)) H → va_D A ((wd_X4 cI cZ cP a_this a_signs a_daysOfSign a_pairsOfRings v_days v_signs v_daysOfSign v_pairsOfRings) ++ (wd_X3 cI cZ cP a_p1 a_p1_rows v_p1_teams v_p1_days v_p1_rows)) → va_S A s.heap H locs → lv_has ls 5 [(0, .ref a_this), (1, .ref a_p1), (2, .int x2)] → W p l e { frames := 3, cells := 0, slots := 0, locals := 74 } s m args below meth c H locs 0 0 Q (F0 m 19 ls [])) (fun self hself0 st h => ?_) n (x2, v_signs, v_pairsOfRings) h
    obtain ⟨x2, v_signs, v_pairsOfRings⟩ := st
    have hself : ∀ (x2 : Int32) (v_signs : Nat → Int32) (v_pairsOfRings : Nat → Int32), self (x2, v_signs, v_pairsOfRings) = some (nv_days, nv_signs, nv_daysOfSign, nv_pairsOfRings) → ∀ (H : Heap) (locs : List Loc) (ls : Array Slot), va_P D vwCl ((wd_X4 cI cZ cP a_this a_signs a_daysOfSign a_pairsOfRings v_days v_signs v_daysOfSign v_pairsOfRings) ++ (wd_X3 cI cZ cP a_p1 a_p1_rows v_p1_teams v_p1_days v_p1_rows)) H → va_D A ((wd_X4 cI cZ cP a_this a_signs a_daysOfSign a_pairsOfRings v_days v_signs v_daysOfSign v_pairsOfRings) ++ (wd_X3 cI cZ cP a_p1 a_p1_rows v_p1_teams v_p1_days v_p1_rows)) → va_S A s.heap H locs → lv_has ls 5 [(0, .ref a_this), (1, .ref a_p1), (2, .int x2)] → W p l e { frames := 3, cells := 0, slots := 0, locals := 74 } s m args below meth c H locs 0 0 Q (F0 m 19 ls []) := fun x2 v_signs v_pairsOfRings h => hself0 (x2, v_signs, v_pairsOfRings) h
    clear hself0
    intro H locs ls hP hD hS hl
    replace h : (if v_days ≤ x2 then lp (f_X4_measure_L110 v_p1_teams v_p1_days v_p1_rows v_days v_signs v_pairsOfRings) 20000 ((0 : Int32), v_daysOfSign) else bd (x2 + (1 : Int32)) (fun x3_31 => lp (f_X4_measure_L31 self v_p1_teams v_p1_days v_p1_rows x2 v_days v_daysOfSign) 20000 (x3_31, v_signs, v_pairsOfRings))) = some (nv_days, nv_signs, nv_daysOfSign, nv_pairsOfRings) := h
    refine lv_iload_n hx hb dX4_measure_19 rfl (lv_at hl 2 rfl) ?_
    refine lv_aload_n hx hb dX4_measure_20 rfl (lv_at hl 0 rfl) ?_
    refine va_get (D := D) (ci := 4) (v := .int v_days) (C := RX4) (T := TX4) (N := 4) hx hb hts in_X4_measure_X4 hown hK hP 0 rfl rfl 0 (by decide) kw6 (fun _ h9 => h9) rfl dX4_measure_21 ?_
    refine lv_icmp_ge (tgt := 108) hx hb dX4_measure_24 (by decide) (fun c_30 => ?_) (fun c_30 => ?_)
    · replace h := it_pos h c_30
      refine lv_iconst (v := 0) hx hb dX4_measure_108 (by decide) ?_
      refine lv_istore_n (lv' := [(2, .int (0 : Int32)), (0, .ref a_this), (1, .ref a_p1)]) hx hb dX4_measure_109 rfl hl (by decide) rfl (fun ls hl => ?_)
      exact w110 v_days v_signs v_pairsOfRings 20000 (0 : Int32) v_daysOfSign h _ _ _ hP hD hS (lv_sub hl [1, 0] rfl)
    · replace h := it_neg h c_30
      refine lv_iload_n hx hb dX4_measure_27 rfl (lv_at hl 2 rfl) ?_
      refine lv_iconst (v := 1) hx hb dX4_measure_28 (by decide) ?_
      refine lv_iadd hx hb dX4_measure_29 ?_
      obtain ⟨x3_31, ex3_31, h⟩ := bd_some h
      refine rd_top ex3_31 ?_
      refine lv_istore_n (lv' := [(3, .int x3_31), (0, .ref a_this), (1, .ref a_p1), (2, .int x2)]) hx hb dX4_measure_30 rfl hl (by decide) rfl (fun ls hl => ?_)
      exact w31 x2 v_days v_daysOfSign _ hself 20000 x3_31 v_signs v_pairsOfRings h _ _ _ hP hD hS (lv_sub hl [1, 2, 3, 0] rfl)
  refine lv_aload_n hx hb dX4_measure_0 rfl (lv_at hl 0 rfl) ?_
  refine lv_aload_n hx hb dX4_measure_1 rfl (lv_at hl 1 rfl) ?_
  refine va_get (D := D) (ci := 3) (v := .int v_p1_days) (C := RX3) (T := TX3) (N := 3) hx hb hts in_X4_measure_X3 hown hK hP 4 rfl rfl 1 (by decide) kw1 (fun _ h9 => h9) rfl dX4_measure_2 ?_
  refine lv_bipush (v := 13) hx hb dX4_measure_5 (by decide) ?_
  refine va_mmin hx hb (by rw [hml]; exact hl.1.symm) hown kw2 kw3 kw4 kw5 (Nat.le_of_ble_eq_true rfl) (Nat.le_of_ble_eq_true rfl) (Nat.zero_le _) (Nat.zero_le _) dX4_measure_7 ?_
  obtain ⟨v_days_32, ev_days_32, h⟩ := bd_some h
  refine rd_top ev_days_32 ?_
  refine rd_put (W1 := (wd_X4 cI cZ cP a_this a_signs a_daysOfSign a_pairsOfRings v_days_32 v_signs v_daysOfSign v_pairsOfRings) ++ (wd_X3 cI cZ cP a_p1 a_p1_rows v_p1_teams v_p1_days v_p1_rows)) (C := RX4) (T := TX4) (N := 4) (ci := 4) hx hb hts in_X4_measure_X4 tyX4 tyX4_ok nmX4 hown hK hP hD hS 0 rfl rfl 0 (by decide) kw6 (fun _ h9 => h9) rfl rfl rfl (Nat.le_of_ble_eq_true rfl) rfl dX4_measure_10 (fun H locs hP hD hS => ?_)
  refine lv_aload_n hx hb dX4_measure_13 rfl (lv_at hl 0 rfl) ?_
  obtain ⟨⟨v_signs_33, v_daysOfSign_34, v_pairsOfRings_35⟩, hc_36, h⟩ := bi_some h
  refine rd_callVv [] [] (wr := [(a_p1, .inr (3, [.int v_p1_teams, .int v_p1_days, .ref a_p1_rows])), (a_p1_rows, .inl (cI, 182, .inl v_p1_rows))]) (W1 := (wd_X4 cI cZ cP a_this a_signs a_daysOfSign a_pairsOfRings v_days_32 v_signs_33 v_daysOfSign_34 v_pairsOfRings_35) ++ (wd_X3 cI cZ cP a_p1 a_p1_rows v_p1_teams v_p1_days v_p1_rows)) (ci := 4) ⟨hx, hb, hml, hown, hts⟩ (c_X4_clear l D cI cZ cP a_this a_signs a_daysOfSign a_pairsOfRings v_days_32 v_signs v_daysOfSign v_pairsOfRings v_signs_33 v_daysOfSign_34 v_pairsOfRings_35 hc_36) (cwV 0 hts gX4_measure_X4_clear rfl rfl rfl (by decide +kernel) ⟨Nat.le_of_ble_eq_true rfl, Nat.le_of_ble_eq_true rfl⟩) rfl rfl hl.1 (Nat.le_of_ble_eq_true rfl) dX4_measure_14 ⟨Nat.zero_le _, Nat.zero_le _⟩ hK hP hD hS hA rfl rfl [0, 1, 2, 3] [4, 5] [2, 3, 4, 5, 0, 1] ⟨⟨rfl, rfl, rfl⟩, by decide⟩ (fun H locs hP hD hS => ?_)
  refine lv_iconst (v := 0) hx hb dX4_measure_17 (by decide) ?_
  refine lv_istore_n (lv' := [(2, .int (0 : Int32)), (0, .ref a_this), (1, .ref a_p1)]) hx hb dX4_measure_18 rfl hl (by decide) rfl (fun ls hl => ?_)
  exact w19 v_days_32 v_daysOfSign_34 20000 (0 : Int32) v_signs_33 v_pairsOfRings_35 h _ _ _ hP hD hS (lv_sub hl [1, 2, 0] rfl)
theorem in_X4_makes_X4 : ∀ w ∈ wsX40, w ∈ wsX4_makes := by decide +kernel
def f_X4_makes (v_pairsOfRings : Nat → Int32) (p1 : Int32) : Option (Int32) := if p1 < 0 then some (-1 : Int32) else if p1 ≤ (7 : Int32) then if inb p1 8 then some (v_pairsOfRings p1.toNatClampNeg) else none else some (-1 : Int32)
set_option maxHeartbeats 4000000 in
set_option maxRecDepth 100000 in
theorem c_X4_makes (l : Launch) (D : va_G) (cI cZ cP : ClassId) (a_this : Nat) (a_signs : Nat) (a_daysOfSign : Nat) (a_pairsOfRings : Nat) (v_days : Int32) (v_signs : Nat → Int32) (v_daysOfSign : Nat → Int32) (v_pairsOfRings : Nat → Int32) (p1 : Int32) (r : Int32) (h : f_X4_makes v_pairsOfRings p1 = some r) : rd_I l yX4_makes wsX4_makes { frames := 0, cells := 0, slots := 0, locals := 0 } [.ref a_this, .int p1] D (tyA cI cZ cP) (wd_X4 cI cZ cP a_this a_signs a_daysOfSign a_pairsOfRings v_days v_signs v_daysOfSign v_pairsOfRings) (wd_X4 cI cZ cP a_this a_signs a_daysOfSign a_pairsOfRings v_days v_signs v_daysOfSign v_pairsOfRings) r := by
  unfold f_X4_makes at h
  refine rd_enterI (cc := cX4_makes) (maxL := 2) (by decide) rfl (Nat.le_of_ble_eq_true rfl) ?_
  intro p e s m args below meth c A Q ls hx hb hml hown hts hA hK hP hD hS hl hret
  have hl : lv_has ls 2 [(0, .ref a_this), (1, .int p1)] := hl
  have kw1 := hts (.fieldLink RX4 18 "RoundDays$Profile" "pairsOfRings" "[I") (List.mem_of_getElem? (i := 1) rfl)
  refine lv_iload_n hx hb dX4_makes_0 rfl (lv_at hl 1 rfl) ?_
  refine lv_if_lt (tgt := 10) hx hb dX4_makes_1 (by decide) (fun c_1 => ?_) (fun c_1 => ?_)
  · replace h := it_pos h c_1
    refine lv_iconst (v := -1) hx hb dX4_makes_10 (by decide) ?_
    refine lv_goto (tgt := 20) hx hb dX4_makes_11 (by decide) ?_
    obtain rfl := inj1 h
    exact hret dX4_makes_20 hP hD hS
  · replace h := it_neg h c_1
    refine lv_iload_n hx hb dX4_makes_4 rfl (lv_at hl 1 rfl) ?_
    refine lv_bipush (v := 7) hx hb dX4_makes_5 (by decide) ?_
    refine lv_icmp_le (tgt := 14) hx hb dX4_makes_7 (by decide) (fun c_2 => ?_) (fun c_2 => ?_)
    · replace h := it_pos h c_2
      refine lv_aload_n hx hb dX4_makes_14 rfl (lv_at hl 0 rfl) ?_
      refine va_get (D := D) (ci := 4) (v := .ref a_pairsOfRings) (C := RX4) (T := TX4) (N := 4) hx hb hts in_X4_makes_X4 hown hK hP 0 rfl rfl 3 (by decide) kw1 (fun _ h9 => h9) rfl dX4_makes_15 ?_
      refine lv_iload_n hx hb dX4_makes_18 rfl (lv_at hl 1 rfl) ?_
      obtain ⟨hi_3, h⟩ := gd_some h
      refine va_iald hx hb hK hP 3 0 rfl rfl (inb_in hi_3) dX4_makes_19 ?_
      obtain rfl := inj1 h
      exact hret dX4_makes_20 hP hD hS
    · replace h := it_neg h c_2
      refine lv_iconst (v := -1) hx hb dX4_makes_10 (by decide) ?_
      refine lv_goto (tgt := 20) hx hb dX4_makes_11 (by decide) ?_
      obtain rfl := inj1 h
      exact hret dX4_makes_20 hP hD hS
theorem in_X4_signOf_X4 : ∀ w ∈ wsX40, w ∈ wsX4_signOf := by decide +kernel
def f_X4_signOf (v_days : Int32) (v_signs : Nat → Int32) (p1 : Int32) : Option (Int32) := if p1 < 0 then some (-1 : Int32) else if p1 < v_days then if inb p1 13 then some (v_signs p1.toNatClampNeg) else none else some (-1 : Int32)
set_option maxHeartbeats 4000000 in
set_option maxRecDepth 100000 in
theorem c_X4_signOf (l : Launch) (D : va_G) (cI cZ cP : ClassId) (a_this : Nat) (a_signs : Nat) (a_daysOfSign : Nat) (a_pairsOfRings : Nat) (v_days : Int32) (v_signs : Nat → Int32) (v_daysOfSign : Nat → Int32) (v_pairsOfRings : Nat → Int32) (p1 : Int32) (r : Int32) (h : f_X4_signOf v_days v_signs p1 = some r) : rd_I l yX4_signOf wsX4_signOf { frames := 0, cells := 0, slots := 0, locals := 0 } [.ref a_this, .int p1] D (tyA cI cZ cP) (wd_X4 cI cZ cP a_this a_signs a_daysOfSign a_pairsOfRings v_days v_signs v_daysOfSign v_pairsOfRings) (wd_X4 cI cZ cP a_this a_signs a_daysOfSign a_pairsOfRings v_days v_signs v_daysOfSign v_pairsOfRings) r := by
  unfold f_X4_signOf at h
  refine rd_enterI (cc := cX4_signOf) (maxL := 2) (by decide) rfl (Nat.le_of_ble_eq_true rfl) ?_
  intro p e s m args below meth c A Q ls hx hb hml hown hts hA hK hP hD hS hl hret
  have hl : lv_has ls 2 [(0, .ref a_this), (1, .int p1)] := hl
  have kw1 := hts (.fieldLink RX4 33 "RoundDays$Profile" "days" "I") (List.mem_of_getElem? (i := 1) rfl)
  have kw2 := hts (.fieldLink RX4 9 "RoundDays$Profile" "signs" "[I") (List.mem_of_getElem? (i := 2) rfl)
  refine lv_iload_n hx hb dX4_signOf_0 rfl (lv_at hl 1 rfl) ?_
  refine lv_if_lt (tgt := 12) hx hb dX4_signOf_1 (by decide) (fun c_1 => ?_) (fun c_1 => ?_)
  · replace h := it_pos h c_1
    refine lv_iconst (v := -1) hx hb dX4_signOf_12 (by decide) ?_
    refine lv_goto (tgt := 22) hx hb dX4_signOf_13 (by decide) ?_
    obtain rfl := inj1 h
    exact hret dX4_signOf_22 hP hD hS
  · replace h := it_neg h c_1
    refine lv_iload_n hx hb dX4_signOf_4 rfl (lv_at hl 1 rfl) ?_
    refine lv_aload_n hx hb dX4_signOf_5 rfl (lv_at hl 0 rfl) ?_
    refine va_get (D := D) (ci := 4) (v := .int v_days) (C := RX4) (T := TX4) (N := 4) hx hb hts in_X4_signOf_X4 hown hK hP 0 rfl rfl 0 (by decide) kw1 (fun _ h9 => h9) rfl dX4_signOf_6 ?_
    refine lv_icmp_lt (tgt := 16) hx hb dX4_signOf_9 (by decide) (fun c_2 => ?_) (fun c_2 => ?_)
    · replace h := it_pos h c_2
      refine lv_aload_n hx hb dX4_signOf_16 rfl (lv_at hl 0 rfl) ?_
      refine va_get (D := D) (ci := 4) (v := .ref a_signs) (C := RX4) (T := TX4) (N := 4) hx hb hts in_X4_signOf_X4 hown hK hP 0 rfl rfl 1 (by decide) kw2 (fun _ h9 => h9) rfl dX4_signOf_17 ?_
      refine lv_iload_n hx hb dX4_signOf_20 rfl (lv_at hl 1 rfl) ?_
      obtain ⟨hi_3, h⟩ := gd_some h
      refine va_iald hx hb hK hP 1 0 rfl rfl (inb_in hi_3) dX4_signOf_21 ?_
      obtain rfl := inj1 h
      exact hret dX4_signOf_22 hP hD hS
    · replace h := it_neg h c_2
      refine lv_iconst (v := -1) hx hb dX4_signOf_12 (by decide) ?_
      refine lv_goto (tgt := 22) hx hb dX4_signOf_13 (by decide) ?_
      obtain rfl := inj1 h
      exact hret dX4_signOf_22 hP hD hS
theorem in_X4_daysBelow_X4 : ∀ w ∈ wsX40, w ∈ wsX4_daysBelow := by decide +kernel
def f_X4_daysBelow_L4 (v_daysOfSign : Nat → Int32) (p1 : Int32) (self : Int32 × Int32 → Option (Int32)) : Int32 × Int32 → Option (Int32) := fun st => match st with | (x2, x3) => if (13 : Int32) ≤ x3 then some x2 else if p1 ≤ x3 then some x2 else if inb x3 13 then bd (x2 + (v_daysOfSign x3.toNatClampNeg)) (fun x2_4 => bd (x3 + (1 : Int32)) (fun x3_5 => self (x2_4, x3_5))) else none
def f_X4_daysBelow (v_daysOfSign : Nat → Int32) (p1 : Int32) : Option (Int32) := lp (f_X4_daysBelow_L4 v_daysOfSign p1) 20000 ((0 : Int32), (0 : Int32))
set_option maxHeartbeats 4000000 in
set_option maxRecDepth 100000 in
theorem c_X4_daysBelow (l : Launch) (D : va_G) (cI cZ cP : ClassId) (a_this : Nat) (a_signs : Nat) (a_daysOfSign : Nat) (a_pairsOfRings : Nat) (v_days : Int32) (v_signs : Nat → Int32) (v_daysOfSign : Nat → Int32) (v_pairsOfRings : Nat → Int32) (p1 : Int32) (r : Int32) (h : f_X4_daysBelow v_daysOfSign p1 = some r) : rd_I l yX4_daysBelow wsX4_daysBelow { frames := 0, cells := 0, slots := 0, locals := 0 } [.ref a_this, .int p1] D (tyA cI cZ cP) (wd_X4 cI cZ cP a_this a_signs a_daysOfSign a_pairsOfRings v_days v_signs v_daysOfSign v_pairsOfRings) (wd_X4 cI cZ cP a_this a_signs a_daysOfSign a_pairsOfRings v_days v_signs v_daysOfSign v_pairsOfRings) r := by
  unfold f_X4_daysBelow at h
  refine rd_enterI (cc := cX4_daysBelow) (maxL := 4) (by decide) rfl (Nat.le_of_ble_eq_true rfl) ?_
  intro p e s m args below meth c A Q ls hx hb hml hown hts hA hK hP hD hS hl hret
  have hl : lv_has ls 4 [(0, .ref a_this), (1, .int p1)] := hl
  have kw1 := hts (.fieldLink RX4 15 "RoundDays$Profile" "daysOfSign" "[I") (List.mem_of_getElem? (i := 1) rfl)
  have w4 : ∀ n : Nat, ∀ (x2 : Int32) (x3 : Int32), lp (f_X4_daysBelow_L4 v_daysOfSign p1) n (x2, x3) = some r → ∀ (H : Heap) (locs : List Loc) (ls : Array Slot), va_P D vwCl (wd_X4 cI cZ cP a_this a_signs a_daysOfSign a_pairsOfRings v_days v_signs v_daysOfSign v_pairsOfRings) H → va_D A (wd_X4 cI cZ cP a_this a_signs a_daysOfSign a_pairsOfRings v_days v_signs v_daysOfSign v_pairsOfRings) → va_S A s.heap H locs → lv_has ls 4 [(0, .ref a_this), (1, .int p1), (2, .int x2), (3, .int x3)] → W p l e { frames := 0, cells := 0, slots := 0, locals := 0 } s m args below meth c H locs 0 0 Q (F0 m 4 ls []) := by
    refine fun n x2 x3 h => lp_walk (b := f_X4_daysBelow_L4 v_daysOfSign p1) (r := r) (P := fun st => match st with | (x2, x3) => ∀ (H : Heap) (locs : List Loc) (ls : Array Slot), va_P D vwCl (wd_X4 cI cZ cP a_this a_signs a_daysOfSign a_pairsOfRings v_days v_signs v_daysOfSign v_pairsOfRings) H → va_D A (wd_X4 cI cZ cP a_this a_signs a_daysOfSign a_pairsOfRings v_days v_signs v_daysOfSign v_pairsOfRings) → va_S A s.heap H locs → lv_has ls 4 [(0, .ref a_this), (1, .int p1), (2, .int x2), (3, .int x3)] → W p l e { frames := 0, cells := 0, slots := 0, locals := 0 } s m args below meth c H locs 0 0 Q (F0 m 4 ls [])) (fun self hself0 st h => ?_) n (x2, x3) h
    obtain ⟨x2, x3⟩ := st
    have hself : ∀ (x2 : Int32) (x3 : Int32), self (x2, x3) = some r → ∀ (H : Heap) (locs : List Loc) (ls : Array Slot), va_P D vwCl (wd_X4 cI cZ cP a_this a_signs a_daysOfSign a_pairsOfRings v_days v_signs v_daysOfSign v_pairsOfRings) H → va_D A (wd_X4 cI cZ cP a_this a_signs a_daysOfSign a_pairsOfRings v_days v_signs v_daysOfSign v_pairsOfRings) → va_S A s.heap H locs → lv_has ls 4 [(0, .ref a_this), (1, .int p1), (2, .int x2), (3, .int x3)] → W p l e { frames := 0, cells := 0, slots := 0, locals := 0 } s m args below meth c H locs 0 0 Q (F0 m 4 ls []) := fun x2 x3 h => hself0 (x2, x3) h
    clear hself0
    intro H locs ls hP hD hS hl
    replace h : (if (13 : Int32) ≤ x3 then some x2 else if p1 ≤ x3 then some x2 else if inb x3 13 then bd (x2 + (v_daysOfSign x3.toNatClampNeg)) (fun x2_4 => bd (x3 + (1 : Int32)) (fun x3_5 => self (x2_4, x3_5))) else none) = some r := h
    refine lv_iload_n hx hb dX4_daysBelow_4 rfl (lv_at hl 3 rfl) ?_
    refine lv_bipush (v := 13) hx hb dX4_daysBelow_5 (by decide) ?_
    refine lv_icmp_ge (tgt := 30) hx hb dX4_daysBelow_7 (by decide) (fun c_1 => ?_) (fun c_1 => ?_)
    · replace h := it_pos h c_1
      refine lv_iload_n hx hb dX4_daysBelow_30 rfl (lv_at hl 2 rfl) ?_
      obtain rfl := inj1 h
      exact hret dX4_daysBelow_31 hP hD hS
    · replace h := it_neg h c_1
      refine lv_iload_n hx hb dX4_daysBelow_10 rfl (lv_at hl 3 rfl) ?_
      refine lv_iload_n hx hb dX4_daysBelow_11 rfl (lv_at hl 1 rfl) ?_
      refine lv_icmp_ge (tgt := 30) hx hb dX4_daysBelow_12 (by decide) (fun c_2 => ?_) (fun c_2 => ?_)
      · replace h := it_pos h c_2
        refine lv_iload_n hx hb dX4_daysBelow_30 rfl (lv_at hl 2 rfl) ?_
        obtain rfl := inj1 h
        exact hret dX4_daysBelow_31 hP hD hS
      · replace h := it_neg h c_2
        refine lv_iload_n hx hb dX4_daysBelow_15 rfl (lv_at hl 2 rfl) ?_
        refine lv_aload_n hx hb dX4_daysBelow_16 rfl (lv_at hl 0 rfl) ?_
        refine va_get (D := D) (ci := 4) (v := .ref a_daysOfSign) (C := RX4) (T := TX4) (N := 4) hx hb hts in_X4_daysBelow_X4 hown hK hP 0 rfl rfl 2 (by decide) kw1 (fun _ h9 => h9) rfl dX4_daysBelow_17 ?_
        refine lv_iload_n hx hb dX4_daysBelow_20 rfl (lv_at hl 3 rfl) ?_
        obtain ⟨hi_3, h⟩ := gd_some h
        refine va_iald hx hb hK hP 2 0 rfl rfl (inb_in hi_3) dX4_daysBelow_21 ?_
        refine lv_iadd hx hb dX4_daysBelow_22 ?_
        obtain ⟨x2_4, ex2_4, h⟩ := bd_some h
        refine rd_top ex2_4 ?_
        refine lv_istore_n (lv' := [(2, .int x2_4), (0, .ref a_this), (1, .int p1), (3, .int x3)]) hx hb dX4_daysBelow_23 rfl hl (by decide) rfl (fun ls hl => ?_)
        obtain ⟨x3_5, ex3_5, h⟩ := bd_some h
        refine lv_iinc (v := x3_5) (lv' := [(3, .int x3_5), (2, .int x2_4), (0, .ref a_this), (1, .int p1)]) hx hb dX4_daysBelow_24 hl (k := 3) rfl (by rw [ex3_5]; rfl) (by decide) rfl (fun ls hl => ?_)
        refine lv_goto (tgt := 4) hx hb dX4_daysBelow_27 (by decide) ?_
        exact hself x2_4 x3_5 h _ _ _ hP hD hS (lv_sub hl [2, 3, 1, 0] rfl)
  refine lv_iconst (v := 0) hx hb dX4_daysBelow_0 (by decide) ?_
  refine lv_istore_n (lv' := [(2, .int (0 : Int32)), (0, .ref a_this), (1, .int p1)]) hx hb dX4_daysBelow_1 rfl hl (by decide) rfl (fun ls hl => ?_)
  refine lv_iconst (v := 0) hx hb dX4_daysBelow_2 (by decide) ?_
  refine lv_istore_n (lv' := [(3, .int (0 : Int32)), (2, .int (0 : Int32)), (0, .ref a_this), (1, .int p1)]) hx hb dX4_daysBelow_3 rfl hl (by decide) rfl (fun ls hl => ?_)
  exact w4 20000 (0 : Int32) (0 : Int32) h _ _ _ hP hD hS (lv_sub hl [2, 3, 1, 0] rfl)
theorem in_X4_same_X4 : ∀ w ∈ wsX40, w ∈ wsX4_same := by decide +kernel
def f_X4_same_L33 (v_daysOfSign : Nat → Int32) (v_pairsOfRings : Nat → Int32) (v_p1_daysOfSign : Nat → Int32) (v_p1_pairsOfRings : Nat → Int32) (self : Int32 → Option (Int32)) : Int32 → Option (Int32) := fun x2 => if (7 : Int32) < x2 then some (1 : Int32) else if inb x2 8 then if inb x2 8 then if (v_pairsOfRings x2.toNatClampNeg) = (v_p1_pairsOfRings x2.toNatClampNeg) then bd (x2 + (1 : Int32)) (fun x2_5 => self x2_5) else some (0 : Int32) else none else none
def f_X4_same_L2 (v_daysOfSign : Nat → Int32) (v_pairsOfRings : Nat → Int32) (v_p1_daysOfSign : Nat → Int32) (v_p1_pairsOfRings : Nat → Int32) (self : Int32 → Option (Int32)) : Int32 → Option (Int32) := fun x2 => if (13 : Int32) ≤ x2 then lp (f_X4_same_L33 v_daysOfSign v_pairsOfRings v_p1_daysOfSign v_p1_pairsOfRings) 20000 (0 : Int32) else if inb x2 13 then if inb x2 13 then if (v_daysOfSign x2.toNatClampNeg) = (v_p1_daysOfSign x2.toNatClampNeg) then bd (x2 + (1 : Int32)) (fun x2_10 => self x2_10) else some (0 : Int32) else none else none
def f_X4_same (v_daysOfSign : Nat → Int32) (v_pairsOfRings : Nat → Int32) (v_p1_daysOfSign : Nat → Int32) (v_p1_pairsOfRings : Nat → Int32) : Option (Int32) := lp (f_X4_same_L2 v_daysOfSign v_pairsOfRings v_p1_daysOfSign v_p1_pairsOfRings) 20000 (0 : Int32)
set_option maxHeartbeats 4000000 in
set_option maxRecDepth 100000 in
theorem c_X4_same (l : Launch) (D : va_G) (cI cZ cP : ClassId) (a_this : Nat) (a_signs : Nat) (a_daysOfSign : Nat) (a_pairsOfRings : Nat) (a_p1 : Nat) (a_p1_signs : Nat) (a_p1_daysOfSign : Nat) (a_p1_pairsOfRings : Nat) (v_days : Int32) (v_signs : Nat → Int32) (v_daysOfSign : Nat → Int32) (v_pairsOfRings : Nat → Int32) (v_p1_days : Int32) (v_p1_signs : Nat → Int32) (v_p1_daysOfSign : Nat → Int32) (v_p1_pairsOfRings : Nat → Int32) (r : Int32) (h : f_X4_same v_daysOfSign v_pairsOfRings v_p1_daysOfSign v_p1_pairsOfRings = some r) : rd_I l yX4_same wsX4_same { frames := 0, cells := 0, slots := 0, locals := 0 } [.ref a_this, .ref a_p1] D (tyA cI cZ cP) ((wd_X4 cI cZ cP a_this a_signs a_daysOfSign a_pairsOfRings v_days v_signs v_daysOfSign v_pairsOfRings) ++ (wd_X4 cI cZ cP a_p1 a_p1_signs a_p1_daysOfSign a_p1_pairsOfRings v_p1_days v_p1_signs v_p1_daysOfSign v_p1_pairsOfRings)) ((wd_X4 cI cZ cP a_this a_signs a_daysOfSign a_pairsOfRings v_days v_signs v_daysOfSign v_pairsOfRings) ++ (wd_X4 cI cZ cP a_p1 a_p1_signs a_p1_daysOfSign a_p1_pairsOfRings v_p1_days v_p1_signs v_p1_daysOfSign v_p1_pairsOfRings)) r := by
  unfold f_X4_same at h
  refine rd_enterZ (cc := cX4_same) (maxL := 3) (by decide) rfl (Nat.le_of_ble_eq_true rfl) ?_
  intro p e s m args below meth c A Q ls hx hb hml hown hts hA hK hP hD hS hl hret
  have hl : lv_has ls 3 [(0, .ref a_this), (1, .ref a_p1)] := hl
  have kw1 := hts (.fieldLink RX4 15 "RoundDays$Profile" "daysOfSign" "[I") (List.mem_of_getElem? (i := 1) rfl)
  have kw2 := hts (.fieldLink RX4 18 "RoundDays$Profile" "pairsOfRings" "[I") (List.mem_of_getElem? (i := 2) rfl)
  have w33 : ∀ n : Nat, ∀ (x2 : Int32), lp (f_X4_same_L33 v_daysOfSign v_pairsOfRings v_p1_daysOfSign v_p1_pairsOfRings) n x2 = some r → ∀ (H : Heap) (locs : List Loc) (ls : Array Slot), va_P D vwCl ((wd_X4 cI cZ cP a_this a_signs a_daysOfSign a_pairsOfRings v_days v_signs v_daysOfSign v_pairsOfRings) ++ (wd_X4 cI cZ cP a_p1 a_p1_signs a_p1_daysOfSign a_p1_pairsOfRings v_p1_days v_p1_signs v_p1_daysOfSign v_p1_pairsOfRings)) H → va_D A ((wd_X4 cI cZ cP a_this a_signs a_daysOfSign a_pairsOfRings v_days v_signs v_daysOfSign v_pairsOfRings) ++ (wd_X4 cI cZ cP a_p1 a_p1_signs a_p1_daysOfSign a_p1_pairsOfRings v_p1_days v_p1_signs v_p1_daysOfSign v_p1_pairsOfRings)) → va_S A s.heap H locs → lv_has ls 3 [(0, .ref a_this), (1, .ref a_p1), (2, .int x2)] → W p l e { frames := 0, cells := 0, slots := 0, locals := 0 } s m args below meth c H locs 0 0 Q (F0 m 33 ls []) := by
    refine fun n x2 h => lp_walk (b := f_X4_same_L33 v_daysOfSign v_pairsOfRings v_p1_daysOfSign v_p1_pairsOfRings) (r := r) (P := fun x2 => ∀ (H : Heap) (locs : List Loc) (ls : Array Slot), va_P D vwCl ((wd_X4 cI cZ cP a_this a_signs a_daysOfSign a_pairsOfRings v_days v_signs v_daysOfSign v_pairsOfRings) ++ (wd_X4 cI cZ cP a_p1 a_p1_signs a_p1_daysOfSign a_p1_pairsOfRings v_p1_days v_p1_signs v_p1_daysOfSign v_p1_pairsOfRings)) H → va_D A ((wd_X4 cI cZ cP a_this a_signs a_daysOfSign a_pairsOfRings v_days v_signs v_daysOfSign v_pairsOfRings) ++ (wd_X4 cI cZ cP a_p1 a_p1_signs a_p1_daysOfSign a_p1_pairsOfRings v_p1_days v_p1_signs v_p1_daysOfSign v_p1_pairsOfRings)) → va_S A s.heap H locs → lv_has ls 3 [(0, .ref a_this), (1, .ref a_p1), (2, .int x2)] → W p l e { frames := 0, cells := 0, slots := 0, locals := 0 } s m args below meth c H locs 0 0 Q (F0 m 33 ls [])) (fun self hself0 st h => ?_) n x2 h
    revert h; revert st; intro x2 h
    have hself : ∀ (x2 : Int32), self x2 = some r → ∀ (H : Heap) (locs : List Loc) (ls : Array Slot), va_P D vwCl ((wd_X4 cI cZ cP a_this a_signs a_daysOfSign a_pairsOfRings v_days v_signs v_daysOfSign v_pairsOfRings) ++ (wd_X4 cI cZ cP a_p1 a_p1_signs a_p1_daysOfSign a_p1_pairsOfRings v_p1_days v_p1_signs v_p1_daysOfSign v_p1_pairsOfRings)) H → va_D A ((wd_X4 cI cZ cP a_this a_signs a_daysOfSign a_pairsOfRings v_days v_signs v_daysOfSign v_pairsOfRings) ++ (wd_X4 cI cZ cP a_p1 a_p1_signs a_p1_daysOfSign a_p1_pairsOfRings v_p1_days v_p1_signs v_p1_daysOfSign v_p1_pairsOfRings)) → va_S A s.heap H locs → lv_has ls 3 [(0, .ref a_this), (1, .ref a_p1), (2, .int x2)] → W p l e { frames := 0, cells := 0, slots := 0, locals := 0 } s m args below meth c H locs 0 0 Q (F0 m 33 ls []) := fun x2 h => hself0 x2 h
    clear hself0
    intro H locs ls hP hD hS hl
    replace h : (if (7 : Int32) < x2 then some (1 : Int32) else if inb x2 8 then if inb x2 8 then if (v_pairsOfRings x2.toNatClampNeg) = (v_p1_pairsOfRings x2.toNatClampNeg) then bd (x2 + (1 : Int32)) (fun x2_5 => self x2_5) else some (0 : Int32) else none else none) = some r := h
    refine lv_iload_n hx hb dX4_same_33 rfl (lv_at hl 2 rfl) ?_
    refine lv_bipush (v := 7) hx hb dX4_same_34 (by decide) ?_
    refine lv_icmp_gt (tgt := 62) hx hb dX4_same_36 (by decide) (fun c_1 => ?_) (fun c_1 => ?_)
    · replace h := it_pos h c_1
      refine lv_iconst (v := 1) hx hb dX4_same_62 (by decide) ?_
      obtain rfl := inj1 h
      exact hret (by decide) dX4_same_63 hP hD hS
    · replace h := it_neg h c_1
      refine lv_aload_n hx hb dX4_same_39 rfl (lv_at hl 0 rfl) ?_
      refine va_get (D := D) (ci := 4) (v := .ref a_pairsOfRings) (C := RX4) (T := TX4) (N := 4) hx hb hts in_X4_same_X4 hown hK hP 0 rfl rfl 3 (by decide) kw2 (fun _ h9 => h9) rfl dX4_same_40 ?_
      refine lv_iload_n hx hb dX4_same_43 rfl (lv_at hl 2 rfl) ?_
      obtain ⟨hi_2, h⟩ := gd_some h
      refine va_iald hx hb hK hP 3 0 rfl rfl (inb_in hi_2) dX4_same_44 ?_
      refine lv_aload_n hx hb dX4_same_45 rfl (lv_at hl 1 rfl) ?_
      refine va_get (D := D) (ci := 4) (v := .ref a_p1_pairsOfRings) (C := RX4) (T := TX4) (N := 4) hx hb hts in_X4_same_X4 hown hK hP 4 rfl rfl 3 (by decide) kw2 (fun _ h9 => h9) rfl dX4_same_46 ?_
      refine lv_iload_n hx hb dX4_same_49 rfl (lv_at hl 2 rfl) ?_
      obtain ⟨hi_3, h⟩ := gd_some h
      refine va_iald hx hb hK hP 7 0 rfl rfl (inb_in hi_3) dX4_same_50 ?_
      refine lv_icmp_eq (tgt := 56) hx hb dX4_same_51 (by decide) (fun c_4 => ?_) (fun c_4 => ?_)
      · replace h := it_pos h c_4
        obtain ⟨x2_5, ex2_5, h⟩ := bd_some h
        refine lv_iinc (v := x2_5) (lv' := [(2, .int x2_5), (0, .ref a_this), (1, .ref a_p1)]) hx hb dX4_same_56 hl (k := 2) rfl (by rw [ex2_5]; rfl) (by decide) rfl (fun ls hl => ?_)
        refine lv_goto (tgt := 33) hx hb dX4_same_59 (by decide) ?_
        exact hself x2_5 h _ _ _ hP hD hS (lv_sub hl [1, 2, 0] rfl)
      · replace h := it_neg h c_4
        refine lv_iconst (v := 0) hx hb dX4_same_54 (by decide) ?_
        obtain rfl := inj1 h
        exact hret (by decide) dX4_same_55 hP hD hS
  have w2 : ∀ n : Nat, ∀ (x2 : Int32), lp (f_X4_same_L2 v_daysOfSign v_pairsOfRings v_p1_daysOfSign v_p1_pairsOfRings) n x2 = some r → ∀ (H : Heap) (locs : List Loc) (ls : Array Slot), va_P D vwCl ((wd_X4 cI cZ cP a_this a_signs a_daysOfSign a_pairsOfRings v_days v_signs v_daysOfSign v_pairsOfRings) ++ (wd_X4 cI cZ cP a_p1 a_p1_signs a_p1_daysOfSign a_p1_pairsOfRings v_p1_days v_p1_signs v_p1_daysOfSign v_p1_pairsOfRings)) H → va_D A ((wd_X4 cI cZ cP a_this a_signs a_daysOfSign a_pairsOfRings v_days v_signs v_daysOfSign v_pairsOfRings) ++ (wd_X4 cI cZ cP a_p1 a_p1_signs a_p1_daysOfSign a_p1_pairsOfRings v_p1_days v_p1_signs v_p1_daysOfSign v_p1_pairsOfRings)) → va_S A s.heap H locs → lv_has ls 3 [(0, .ref a_this), (1, .ref a_p1), (2, .int x2)] → W p l e { frames := 0, cells := 0, slots := 0, locals := 0 } s m args below meth c H locs 0 0 Q (F0 m 2 ls []) := by
    refine fun n x2 h => lp_walk (b := f_X4_same_L2 v_daysOfSign v_pairsOfRings v_p1_daysOfSign v_p1_pairsOfRings) (r := r) (P := fun x2 => ∀ (H : Heap) (locs : List Loc) (ls : Array Slot), va_P D vwCl ((wd_X4 cI cZ cP a_this a_signs a_daysOfSign a_pairsOfRings v_days v_signs v_daysOfSign v_pairsOfRings) ++ (wd_X4 cI cZ cP a_p1 a_p1_signs a_p1_daysOfSign a_p1_pairsOfRings v_p1_days v_p1_signs v_p1_daysOfSign v_p1_pairsOfRings)) H → va_D A ((wd_X4 cI cZ cP a_this a_signs a_daysOfSign a_pairsOfRings v_days v_signs v_daysOfSign v_pairsOfRings) ++ (wd_X4 cI cZ cP a_p1 a_p1_signs a_p1_daysOfSign a_p1_pairsOfRings v_p1_days v_p1_signs v_p1_daysOfSign v_p1_pairsOfRings)) → va_S A s.heap H locs → lv_has ls 3 [(0, .ref a_this), (1, .ref a_p1), (2, .int x2)] → W p l e { frames := 0, cells := 0, slots := 0, locals := 0 } s m args below meth c H locs 0 0 Q (F0 m 2 ls [])) (fun self hself0 st h => ?_) n x2 h
    revert h; revert st; intro x2 h
    have hself : ∀ (x2 : Int32), self x2 = some r → ∀ (H : Heap) (locs : List Loc) (ls : Array Slot), va_P D vwCl ((wd_X4 cI cZ cP a_this a_signs a_daysOfSign a_pairsOfRings v_days v_signs v_daysOfSign v_pairsOfRings) ++ (wd_X4 cI cZ cP a_p1 a_p1_signs a_p1_daysOfSign a_p1_pairsOfRings v_p1_days v_p1_signs v_p1_daysOfSign v_p1_pairsOfRings)) H → va_D A ((wd_X4 cI cZ cP a_this a_signs a_daysOfSign a_pairsOfRings v_days v_signs v_daysOfSign v_pairsOfRings) ++ (wd_X4 cI cZ cP a_p1 a_p1_signs a_p1_daysOfSign a_p1_pairsOfRings v_p1_days v_p1_signs v_p1_daysOfSign v_p1_pairsOfRings)) → va_S A s.heap H locs → lv_has ls 3 [(0, .ref a_this), (1, .ref a_p1), (2, .int x2)] → W p l e { frames := 0, cells := 0, slots := 0, locals := 0 } s m args below meth c H locs 0 0 Q (F0 m 2 ls []) := fun x2 h => hself0 x2 h
    clear hself0
    intro H locs ls hP hD hS hl
    replace h : (if (13 : Int32) ≤ x2 then lp (f_X4_same_L33 v_daysOfSign v_pairsOfRings v_p1_daysOfSign v_p1_pairsOfRings) 20000 (0 : Int32) else if inb x2 13 then if inb x2 13 then if (v_daysOfSign x2.toNatClampNeg) = (v_p1_daysOfSign x2.toNatClampNeg) then bd (x2 + (1 : Int32)) (fun x2_10 => self x2_10) else some (0 : Int32) else none else none) = some r := h
    refine lv_iload_n hx hb dX4_same_2 rfl (lv_at hl 2 rfl) ?_
    refine lv_bipush (v := 13) hx hb dX4_same_3 (by decide) ?_
    refine lv_icmp_ge (tgt := 31) hx hb dX4_same_5 (by decide) (fun c_6 => ?_) (fun c_6 => ?_)
    · replace h := it_pos h c_6
      refine lv_iconst (v := 0) hx hb dX4_same_31 (by decide) ?_
      refine lv_istore_n (lv' := [(2, .int (0 : Int32)), (0, .ref a_this), (1, .ref a_p1)]) hx hb dX4_same_32 rfl hl (by decide) rfl (fun ls hl => ?_)
      exact w33 20000 (0 : Int32) h _ _ _ hP hD hS (lv_sub hl [1, 2, 0] rfl)
    · replace h := it_neg h c_6
      refine lv_aload_n hx hb dX4_same_8 rfl (lv_at hl 0 rfl) ?_
      refine va_get (D := D) (ci := 4) (v := .ref a_daysOfSign) (C := RX4) (T := TX4) (N := 4) hx hb hts in_X4_same_X4 hown hK hP 0 rfl rfl 2 (by decide) kw1 (fun _ h9 => h9) rfl dX4_same_9 ?_
      refine lv_iload_n hx hb dX4_same_12 rfl (lv_at hl 2 rfl) ?_
      obtain ⟨hi_7, h⟩ := gd_some h
      refine va_iald hx hb hK hP 2 0 rfl rfl (inb_in hi_7) dX4_same_13 ?_
      refine lv_aload_n hx hb dX4_same_14 rfl (lv_at hl 1 rfl) ?_
      refine va_get (D := D) (ci := 4) (v := .ref a_p1_daysOfSign) (C := RX4) (T := TX4) (N := 4) hx hb hts in_X4_same_X4 hown hK hP 4 rfl rfl 2 (by decide) kw1 (fun _ h9 => h9) rfl dX4_same_15 ?_
      refine lv_iload_n hx hb dX4_same_18 rfl (lv_at hl 2 rfl) ?_
      obtain ⟨hi_8, h⟩ := gd_some h
      refine va_iald hx hb hK hP 6 0 rfl rfl (inb_in hi_8) dX4_same_19 ?_
      refine lv_icmp_eq (tgt := 25) hx hb dX4_same_20 (by decide) (fun c_9 => ?_) (fun c_9 => ?_)
      · replace h := it_pos h c_9
        obtain ⟨x2_10, ex2_10, h⟩ := bd_some h
        refine lv_iinc (v := x2_10) (lv' := [(2, .int x2_10), (0, .ref a_this), (1, .ref a_p1)]) hx hb dX4_same_25 hl (k := 2) rfl (by rw [ex2_10]; rfl) (by decide) rfl (fun ls hl => ?_)
        refine lv_goto (tgt := 2) hx hb dX4_same_28 (by decide) ?_
        exact hself x2_10 h _ _ _ hP hD hS (lv_sub hl [1, 2, 0] rfl)
      · replace h := it_neg h c_9
        refine lv_iconst (v := 0) hx hb dX4_same_23 (by decide) ?_
        obtain rfl := inj1 h
        exact hret (by decide) dX4_same_24 hP hD hS
  refine lv_iconst (v := 0) hx hb dX4_same_0 (by decide) ?_
  refine lv_istore_n (lv' := [(2, .int (0 : Int32)), (0, .ref a_this), (1, .ref a_p1)]) hx hb dX4_same_1 rfl hl (by decide) rfl (fun ls hl => ?_)
  exact w2 20000 (0 : Int32) h _ _ _ hP hD hS (lv_sub hl [1, 2, 0] rfl)
