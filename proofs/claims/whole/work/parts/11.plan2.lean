theorem in_X3_order_X3 : ∀ w ∈ wsX30, w ∈ wsX3_order := by decide +kernel
def f_X3_order_L2 (v_teams : Int32) (v_days : Int32) (v_rows : Nat → Int32) (p1 : Int32) (p2 : Int32) (self : Int32 → Option (Int32)) : Int32 → Option (Int32) := fun x3 => if v_teams ≤ x3 then some (0 : Int32) else (f_X3_partner v_teams v_days v_rows p1 x3).bind (fun r_2 => (f_X3_partner v_teams v_days v_rows p2 x3).bind (fun r_4 => bd (r_2 - r_4) (fun x4_6 => if x4_6 = 0 then bd (x3 + (1 : Int32)) (fun x3_8 => self x3_8) else some x4_6)))
def f_X3_order (v_teams : Int32) (v_days : Int32) (v_rows : Nat → Int32) (p1 : Int32) (p2 : Int32) : Option (Int32) := lp (f_X3_order_L2 v_teams v_days v_rows p1 p2) 20000 (0 : Int32)
set_option maxHeartbeats 4000000 in
set_option maxRecDepth 100000 in
theorem c_X3_order (l : Launch) (D : va_G) (cI cZ cP : ClassId) (a_this : Nat) (a_rows : Nat) (v_teams : Int32) (v_days : Int32) (v_rows : Nat → Int32) (p1 : Int32) (p2 : Int32) (r : Int32) (h : f_X3_order v_teams v_days v_rows p1 p2 = some r) : rd_I l yX3_order wsX3_order { frames := 1, cells := 0, slots := 0, locals := 22 } [.ref a_this, .int p1, .int p2] D (tyA cI cZ cP) (wd_X3 cI cZ cP a_this a_rows v_teams v_days v_rows) (wd_X3 cI cZ cP a_this a_rows v_teams v_days v_rows) r := by
  unfold f_X3_order at h
  refine rd_enterI (cc := cX3_order) (maxL := 5) (by decide) rfl (Nat.le_of_ble_eq_true rfl) ?_
  intro p e s m args below meth c A Q ls hx hb hml hown hts hA hK hP hD hS hl hret
  have hl : lv_has ls 5 [(0, .ref a_this), (1, .int p1), (2, .int p2)] := hl
  have kw1 := hts (.fieldLink RX3 15 "RoundDays$Plan" "teams" "I") (List.mem_of_getElem? (i := 1) rfl)
  have w2 : ∀ n : Nat, ∀ (x3 : Int32), lp (f_X3_order_L2 v_teams v_days v_rows p1 p2) n x3 = some r → ∀ (H : Heap) (locs : List Loc) (ls : Array Slot), va_P D vwCl (wd_X3 cI cZ cP a_this a_rows v_teams v_days v_rows) H → va_D A (wd_X3 cI cZ cP a_this a_rows v_teams v_days v_rows) → va_S A s.heap H locs → lv_has ls 5 [(0, .ref a_this), (1, .int p1), (2, .int p2), (3, .int x3)] → W p l e { frames := 1, cells := 0, slots := 0, locals := 22 } s m args below meth c H locs 0 0 Q (F0 m 2 ls []) := by
    refine fun n x3 h => lp_walk (b := f_X3_order_L2 v_teams v_days v_rows p1 p2) (r := r) (P := fun x3 => ∀ (H : Heap) (locs : List Loc) (ls : Array Slot), va_P D vwCl (wd_X3 cI cZ cP a_this a_rows v_teams v_days v_rows) H → va_D A (wd_X3 cI cZ cP a_this a_rows v_teams v_days v_rows) → va_S A s.heap H locs → lv_has ls 5 [(0, .ref a_this), (1, .int p1), (2, .int p2), (3, .int x3)] → W p l e { frames := 1, cells := 0, slots := 0, locals := 22 } s m args below meth c H locs 0 0 Q (F0 m 2 ls [])) (fun self hself0 st h => ?_) n x3 h
    revert h; revert st; intro x3 h
    have hself : ∀ (x3 : Int32), self x3 = some r → ∀ (H : Heap) (locs : List Loc) (ls : Array Slot), va_P D vwCl (wd_X3 cI cZ cP a_this a_rows v_teams v_days v_rows) H → va_D A (wd_X3 cI cZ cP a_this a_rows v_teams v_days v_rows) → va_S A s.heap H locs → lv_has ls 5 [(0, .ref a_this), (1, .int p1), (2, .int p2), (3, .int x3)] → W p l e { frames := 1, cells := 0, slots := 0, locals := 22 } s m args below meth c H locs 0 0 Q (F0 m 2 ls []) := fun x3 h => hself0 x3 h
    clear hself0
    intro H locs ls hP hD hS hl
    replace h : (if v_teams ≤ x3 then some (0 : Int32) else (f_X3_partner v_teams v_days v_rows p1 x3).bind (fun r_2 => (f_X3_partner v_teams v_days v_rows p2 x3).bind (fun r_4 => bd (r_2 - r_4) (fun x4_6 => if x4_6 = 0 then bd (x3 + (1 : Int32)) (fun x3_8 => self x3_8) else some x4_6)))) = some r := h
    refine lv_iload_n hx hb dX3_order_2 rfl (lv_at hl 3 rfl) ?_
    refine lv_aload_n hx hb dX3_order_3 rfl (lv_at hl 0 rfl) ?_
    refine va_get (D := D) (ci := 3) (v := .int v_teams) (C := RX3) (T := TX3) (N := 3) hx hb hts in_X3_order_X3 hown hK hP 0 rfl rfl 0 (by decide) kw1 (fun _ h9 => h9) rfl dX3_order_4 ?_
    refine lv_icmp_ge (tgt := 39) hx hb dX3_order_7 (by decide) (fun c_1 => ?_) (fun c_1 => ?_)
    · replace h := it_pos h c_1
      refine lv_iconst (v := 0) hx hb dX3_order_39 (by decide) ?_
      obtain rfl := inj1 h
      exact hret dX3_order_40 hP hD hS
    · replace h := it_neg h c_1
      refine lv_aload_n hx hb dX3_order_10 rfl (lv_at hl 0 rfl) ?_
      refine lv_iload_n hx hb dX3_order_11 rfl (lv_at hl 1 rfl) ?_
      refine lv_iload_n hx hb dX3_order_12 rfl (lv_at hl 3 rfl) ?_
      obtain ⟨r_2, hc_3, h⟩ := bi_some h
      refine rd_callVi [.int p1, .int x3] [] (wr := []) (W1 := wd_X3 cI cZ cP a_this a_rows v_teams v_days v_rows) (ci := 3) ⟨hx, hb, hml, hown, hts⟩ (c_X3_partner l D cI cZ cP a_this a_rows v_teams v_days v_rows p1 x3 r_2 hc_3) (cwV 2 hts gX3_order_X3_partner rfl rfl rfl (by decide +kernel) ⟨Nat.le_of_ble_eq_true rfl, Nat.le_of_ble_eq_true rfl⟩) rfl rfl hl.1 (Nat.le_of_ble_eq_true rfl) dX3_order_13 ⟨Nat.zero_le _, Nat.zero_le _⟩ hK hP hD hS hA rfl rfl [0, 1] [] [0, 1] ⟨⟨rfl, rfl, rfl⟩, by decide⟩ (fun H locs hP hD hS => ?_)
      refine lv_aload_n hx hb dX3_order_16 rfl (lv_at hl 0 rfl) ?_
      refine lv_iload_n hx hb dX3_order_17 rfl (lv_at hl 2 rfl) ?_
      refine lv_iload_n hx hb dX3_order_18 rfl (lv_at hl 3 rfl) ?_
      obtain ⟨r_4, hc_5, h⟩ := bi_some h
      refine rd_callVi [.int p2, .int x3] [.int r_2] (wr := []) (W1 := wd_X3 cI cZ cP a_this a_rows v_teams v_days v_rows) (ci := 3) ⟨hx, hb, hml, hown, hts⟩ (c_X3_partner l D cI cZ cP a_this a_rows v_teams v_days v_rows p2 x3 r_4 hc_5) (cwV 2 hts gX3_order_X3_partner rfl rfl rfl (by decide +kernel) ⟨Nat.le_of_ble_eq_true rfl, Nat.le_of_ble_eq_true rfl⟩) rfl rfl hl.1 (Nat.le_of_ble_eq_true rfl) dX3_order_19 ⟨Nat.zero_le _, Nat.zero_le _⟩ hK hP hD hS hA rfl rfl [0, 1] [] [0, 1] ⟨⟨rfl, rfl, rfl⟩, by decide⟩ (fun H locs hP hD hS => ?_)
      refine lv_isub hx hb dX3_order_22 ?_
      obtain ⟨x4_6, ex4_6, h⟩ := bd_some h
      refine rd_top ex4_6 ?_
      refine lv_istore (lv' := [(4, .int x4_6), (0, .ref a_this), (1, .int p1), (2, .int p2), (3, .int x3)]) hx hb dX3_order_23 hl (by decide) rfl (fun ls hl => ?_)
      refine lv_iload hx hb dX3_order_25 (lv_at hl 0 rfl) ?_
      refine lv_if_eq (tgt := 33) hx hb dX3_order_27 (by decide) (fun c_7 => ?_) (fun c_7 => ?_)
      · replace h := it_pos h c_7
        obtain ⟨x3_8, ex3_8, h⟩ := bd_some h
        refine lv_iinc (v := x3_8) (lv' := [(3, .int x3_8), (4, .int x4_6), (0, .ref a_this), (1, .int p1), (2, .int p2)]) hx hb dX3_order_33 hl (k := 4) rfl (by rw [ex3_8]; rfl) (by decide) rfl (fun ls hl => ?_)
        refine lv_goto (tgt := 2) hx hb dX3_order_36 (by decide) ?_
        exact hself x3_8 h _ _ _ hP hD hS (lv_sub hl [2, 3, 4, 0] rfl)
      · replace h := it_neg h c_7
        refine lv_iload hx hb dX3_order_30 (lv_at hl 0 rfl) ?_
        obtain rfl := inj1 h
        exact hret dX3_order_32 hP hD hS
  refine lv_iconst (v := 0) hx hb dX3_order_0 (by decide) ?_
  refine lv_istore_n (lv' := [(3, .int (0 : Int32)), (0, .ref a_this), (1, .int p1), (2, .int p2)]) hx hb dX3_order_1 rfl hl (by decide) rfl (fun ls hl => ?_)
  exact w2 20000 (0 : Int32) h _ _ _ hP hD hS (lv_sub hl [1, 2, 3, 0] rfl)
theorem in_X3_outOfOrder_X3 : ∀ w ∈ wsX30, w ∈ wsX3_outOfOrder := by decide +kernel
def f_X3_outOfOrder_L17 (k4 : Int32 × Int32 → Option (Int32)) (v_teams : Int32) (v_days : Int32) (v_rows : Nat → Int32) (x1 : Int32) (x2 : Int32) (self : Int32 × Int32 → Option (Int32)) : Int32 × Int32 → Option (Int32) := fun st => match st with | (x3, x4) => if v_days ≤ x4 then if x3 = x2 then bd (x2 + (1 : Int32)) (fun x2_3 => k4 (x1, x2_3)) else bd (x1 + (1 : Int32)) (fun x1_4 => bd (x2 + (1 : Int32)) (fun x2_5 => k4 (x1_4, x2_5))) else (f_X3_order v_teams v_days v_rows x4 x2).bind (fun r_6 => if 0 ≤ r_6 then bd (x4 + (1 : Int32)) (fun x4_9 => self (x3, x4_9)) else bd (x3 + (1 : Int32)) (fun x3_10 => bd (x4 + (1 : Int32)) (fun x4_11 => self (x3_10, x4_11))))
def f_X3_outOfOrder_L4 (v_teams : Int32) (v_days : Int32) (v_rows : Nat → Int32) (self : Int32 × Int32 → Option (Int32)) : Int32 × Int32 → Option (Int32) := fun st => match st with | (x1, x2) => if v_days ≤ x2 then some x1 else lp (f_X3_outOfOrder_L17 self v_teams v_days v_rows x1 x2) 20000 ((0 : Int32), (0 : Int32))
def f_X3_outOfOrder (v_teams : Int32) (v_days : Int32) (v_rows : Nat → Int32) : Option (Int32) := lp (f_X3_outOfOrder_L4 v_teams v_days v_rows) 20000 ((0 : Int32), (0 : Int32))
set_option maxHeartbeats 4000000 in
set_option maxRecDepth 100000 in
theorem c_X3_outOfOrder (l : Launch) (D : va_G) (cI cZ cP : ClassId) (a_this : Nat) (a_rows : Nat) (v_teams : Int32) (v_days : Int32) (v_rows : Nat → Int32) (r : Int32) (h : f_X3_outOfOrder v_teams v_days v_rows = some r) : rd_I l yX3_outOfOrder wsX3_outOfOrder { frames := 2, cells := 0, slots := 0, locals := 46 } [.ref a_this] D (tyA cI cZ cP) (wd_X3 cI cZ cP a_this a_rows v_teams v_days v_rows) (wd_X3 cI cZ cP a_this a_rows v_teams v_days v_rows) r := by
  unfold f_X3_outOfOrder at h
  refine rd_enterI (cc := cX3_outOfOrder) (maxL := 5) (by decide) rfl (Nat.le_of_ble_eq_true rfl) ?_
  intro p e s m args below meth c A Q ls hx hb hml hown hts hA hK hP hD hS hl hret
  have hl : lv_has ls 5 [(0, .ref a_this)] := hl
  have kw1 := hts (.fieldLink RX3 19 "RoundDays$Plan" "days" "I") (List.mem_of_getElem? (i := 1) rfl)
  have w17 : ∀ x1 : Int32, ∀ x2 : Int32, ∀ k4 : Int32 × Int32 → Option (Int32), (∀ (x1 : Int32) (x2 : Int32), k4 (x1, x2) = some r → ∀ (H : Heap) (locs : List Loc) (ls : Array Slot), va_P D vwCl (wd_X3 cI cZ cP a_this a_rows v_teams v_days v_rows) H → va_D A (wd_X3 cI cZ cP a_this a_rows v_teams v_days v_rows) → va_S A s.heap H locs → lv_has ls 5 [(0, .ref a_this), (1, .int x1), (2, .int x2)] → W p l e { frames := 2, cells := 0, slots := 0, locals := 46 } s m args below meth c H locs 0 0 Q (F0 m 4 ls [])) → ∀ n : Nat, ∀ (x3 : Int32) (x4 : Int32), lp (f_X3_outOfOrder_L17 k4 v_teams v_days v_rows x1 x2) n (x3, x4) = some r → ∀ (H : Heap) (locs : List Loc) (ls : Array Slot), va_P D vwCl (wd_X3 cI cZ cP a_this a_rows v_teams v_days v_rows) H → va_D A (wd_X3 cI cZ cP a_this a_rows v_teams v_days v_rows) → va_S A s.heap H locs → lv_has ls 5 [(0, .ref a_this), (1, .int x1), (2, .int x2), (3, .int x3), (4, .int x4)] → W p l e { frames := 2, cells := 0, slots := 0, locals := 46 } s m args below meth c H locs 0 0 Q (F0 m 17 ls []) := by
    intro x1 x2 k4 hk4
    refine fun n x3 x4 h => lp_walk (b := f_X3_outOfOrder_L17 k4 v_teams v_days v_rows x1 x2) (r := r) (P := fun st => match st with | (x3, x4) => ∀ (H : Heap) (locs : List Loc) (ls : Array Slot), va_P D vwCl (wd_X3 cI cZ cP a_this a_rows v_teams v_days v_rows) H → va_D A (wd_X3 cI cZ cP a_this a_rows v_teams v_days v_rows) → va_S A s.heap H locs → lv_has ls 5 [(0, .ref a_this), (1, .int x1), (2, .int x2), (3, .int x3), (4, .int x4)] → W p l e { frames := 2, cells := 0, slots := 0, locals := 46 } s m args below meth c H locs 0 0 Q (F0 m 17 ls [])) (fun self hself0 st h => ?_) n (x3, x4) h
    obtain ⟨x3, x4⟩ := st
    have hself : ∀ (x3 : Int32) (x4 : Int32), self (x3, x4) = some r → ∀ (H : Heap) (locs : List Loc) (ls : Array Slot), va_P D vwCl (wd_X3 cI cZ cP a_this a_rows v_teams v_days v_rows) H → va_D A (wd_X3 cI cZ cP a_this a_rows v_teams v_days v_rows) → va_S A s.heap H locs → lv_has ls 5 [(0, .ref a_this), (1, .int x1), (2, .int x2), (3, .int x3), (4, .int x4)] → W p l e { frames := 2, cells := 0, slots := 0, locals := 46 } s m args below meth c H locs 0 0 Q (F0 m 17 ls []) := fun x3 x4 h => hself0 (x3, x4) h
    clear hself0
    intro H locs ls hP hD hS hl
    replace h : (if v_days ≤ x4 then if x3 = x2 then bd (x2 + (1 : Int32)) (fun x2_3 => k4 (x1, x2_3)) else bd (x1 + (1 : Int32)) (fun x1_4 => bd (x2 + (1 : Int32)) (fun x2_5 => k4 (x1_4, x2_5))) else (f_X3_order v_teams v_days v_rows x4 x2).bind (fun r_6 => if 0 ≤ r_6 then bd (x4 + (1 : Int32)) (fun x4_9 => self (x3, x4_9)) else bd (x3 + (1 : Int32)) (fun x3_10 => bd (x4 + (1 : Int32)) (fun x4_11 => self (x3_10, x4_11))))) = some r := h
    refine lv_iload hx hb dX3_outOfOrder_17 (lv_at hl 4 rfl) ?_
    refine lv_aload_n hx hb dX3_outOfOrder_19 rfl (lv_at hl 0 rfl) ?_
    refine va_get (D := D) (ci := 3) (v := .int v_days) (C := RX3) (T := TX3) (N := 3) hx hb hts in_X3_outOfOrder_X3 hown hK hP 0 rfl rfl 1 (by decide) kw1 (fun _ h9 => h9) rfl dX3_outOfOrder_20 ?_
    refine lv_icmp_ge (tgt := 45) hx hb dX3_outOfOrder_23 (by decide) (fun c_1 => ?_) (fun c_1 => ?_)
    · replace h := it_pos h c_1
      refine lv_iload_n hx hb dX3_outOfOrder_45 rfl (lv_at hl 3 rfl) ?_
      refine lv_iload_n hx hb dX3_outOfOrder_46 rfl (lv_at hl 2 rfl) ?_
      refine lv_icmp_eq (tgt := 53) hx hb dX3_outOfOrder_47 (by decide) (fun c_2 => ?_) (fun c_2 => ?_)
      · replace h := it_pos h c_2
        obtain ⟨x2_3, ex2_3, h⟩ := bd_some h
        refine lv_iinc (v := x2_3) (lv' := [(2, .int x2_3), (0, .ref a_this), (1, .int x1), (3, .int x3), (4, .int x4)]) hx hb dX3_outOfOrder_53 hl (k := 2) rfl (by rw [ex2_3]; rfl) (by decide) rfl (fun ls hl => ?_)
        refine lv_goto (tgt := 4) hx hb dX3_outOfOrder_56 (by decide) ?_
        exact hk4 x1 x2_3 h _ _ _ hP hD hS (lv_sub hl [1, 2, 0] rfl)
      · replace h := it_neg h c_2
        obtain ⟨x1_4, ex1_4, h⟩ := bd_some h
        refine lv_iinc (v := x1_4) (lv' := [(1, .int x1_4), (0, .ref a_this), (2, .int x2), (3, .int x3), (4, .int x4)]) hx hb dX3_outOfOrder_50 hl (k := 1) rfl (by rw [ex1_4]; rfl) (by decide) rfl (fun ls hl => ?_)
        obtain ⟨x2_5, ex2_5, h⟩ := bd_some h
        refine lv_iinc (v := x2_5) (lv' := [(2, .int x2_5), (1, .int x1_4), (0, .ref a_this), (3, .int x3), (4, .int x4)]) hx hb dX3_outOfOrder_53 hl (k := 2) rfl (by rw [ex2_5]; rfl) (by decide) rfl (fun ls hl => ?_)
        refine lv_goto (tgt := 4) hx hb dX3_outOfOrder_56 (by decide) ?_
        exact hk4 x1_4 x2_5 h _ _ _ hP hD hS (lv_sub hl [2, 1, 0] rfl)
    · replace h := it_neg h c_1
      refine lv_aload_n hx hb dX3_outOfOrder_26 rfl (lv_at hl 0 rfl) ?_
      refine lv_iload hx hb dX3_outOfOrder_27 (lv_at hl 4 rfl) ?_
      refine lv_iload_n hx hb dX3_outOfOrder_29 rfl (lv_at hl 2 rfl) ?_
      obtain ⟨r_6, hc_7, h⟩ := bi_some h
      refine rd_callVi [.int x4, .int x2] [] (wr := []) (W1 := wd_X3 cI cZ cP a_this a_rows v_teams v_days v_rows) (ci := 3) ⟨hx, hb, hml, hown, hts⟩ (c_X3_order l D cI cZ cP a_this a_rows v_teams v_days v_rows x4 x2 r_6 hc_7) (cwV 2 hts gX3_outOfOrder_X3_order rfl rfl rfl (by decide +kernel) ⟨Nat.le_of_ble_eq_true rfl, Nat.le_of_ble_eq_true rfl⟩) rfl rfl hl.1 (Nat.le_of_ble_eq_true rfl) dX3_outOfOrder_30 ⟨Nat.zero_le _, Nat.zero_le _⟩ hK hP hD hS hA rfl rfl [0, 1] [] [0, 1] ⟨⟨rfl, rfl, rfl⟩, by decide⟩ (fun H locs hP hD hS => ?_)
      refine lv_if_ge (tgt := 39) hx hb dX3_outOfOrder_33 (by decide) (fun c_8 => ?_) (fun c_8 => ?_)
      · replace h := it_pos h c_8
        obtain ⟨x4_9, ex4_9, h⟩ := bd_some h
        refine lv_iinc (v := x4_9) (lv' := [(4, .int x4_9), (0, .ref a_this), (1, .int x1), (2, .int x2), (3, .int x3)]) hx hb dX3_outOfOrder_39 hl (k := 4) rfl (by rw [ex4_9]; rfl) (by decide) rfl (fun ls hl => ?_)
        refine lv_goto (tgt := 17) hx hb dX3_outOfOrder_42 (by decide) ?_
        exact hself x3 x4_9 h _ _ _ hP hD hS (lv_sub hl [1, 2, 3, 4, 0] rfl)
      · replace h := it_neg h c_8
        obtain ⟨x3_10, ex3_10, h⟩ := bd_some h
        refine lv_iinc (v := x3_10) (lv' := [(3, .int x3_10), (0, .ref a_this), (1, .int x1), (2, .int x2), (4, .int x4)]) hx hb dX3_outOfOrder_36 hl (k := 3) rfl (by rw [ex3_10]; rfl) (by decide) rfl (fun ls hl => ?_)
        obtain ⟨x4_11, ex4_11, h⟩ := bd_some h
        refine lv_iinc (v := x4_11) (lv' := [(4, .int x4_11), (3, .int x3_10), (0, .ref a_this), (1, .int x1), (2, .int x2)]) hx hb dX3_outOfOrder_39 hl (k := 4) rfl (by rw [ex4_11]; rfl) (by decide) rfl (fun ls hl => ?_)
        refine lv_goto (tgt := 17) hx hb dX3_outOfOrder_42 (by decide) ?_
        exact hself x3_10 x4_11 h _ _ _ hP hD hS (lv_sub hl [2, 3, 4, 1, 0] rfl)
  have w4 : ∀ n : Nat, ∀ (x1 : Int32) (x2 : Int32), lp (f_X3_outOfOrder_L4 v_teams v_days v_rows) n (x1, x2) = some r → ∀ (H : Heap) (locs : List Loc) (ls : Array Slot), va_P D vwCl (wd_X3 cI cZ cP a_this a_rows v_teams v_days v_rows) H → va_D A (wd_X3 cI cZ cP a_this a_rows v_teams v_days v_rows) → va_S A s.heap H locs → lv_has ls 5 [(0, .ref a_this), (1, .int x1), (2, .int x2)] → W p l e { frames := 2, cells := 0, slots := 0, locals := 46 } s m args below meth c H locs 0 0 Q (F0 m 4 ls []) := by
    refine fun n x1 x2 h => lp_walk (b := f_X3_outOfOrder_L4 v_teams v_days v_rows) (r := r) (P := fun st => match st with | (x1, x2) => ∀ (H : Heap) (locs : List Loc) (ls : Array Slot), va_P D vwCl (wd_X3 cI cZ cP a_this a_rows v_teams v_days v_rows) H → va_D A (wd_X3 cI cZ cP a_this a_rows v_teams v_days v_rows) → va_S A s.heap H locs → lv_has ls 5 [(0, .ref a_this), (1, .int x1), (2, .int x2)] → W p l e { frames := 2, cells := 0, slots := 0, locals := 46 } s m args below meth c H locs 0 0 Q (F0 m 4 ls [])) (fun self hself0 st h => ?_) n (x1, x2) h
    obtain ⟨x1, x2⟩ := st
    have hself : ∀ (x1 : Int32) (x2 : Int32), self (x1, x2) = some r → ∀ (H : Heap) (locs : List Loc) (ls : Array Slot), va_P D vwCl (wd_X3 cI cZ cP a_this a_rows v_teams v_days v_rows) H → va_D A (wd_X3 cI cZ cP a_this a_rows v_teams v_days v_rows) → va_S A s.heap H locs → lv_has ls 5 [(0, .ref a_this), (1, .int x1), (2, .int x2)] → W p l e { frames := 2, cells := 0, slots := 0, locals := 46 } s m args below meth c H locs 0 0 Q (F0 m 4 ls []) := fun x1 x2 h => hself0 (x1, x2) h
    clear hself0
    intro H locs ls hP hD hS hl
    replace h : (if v_days ≤ x2 then some x1 else lp (f_X3_outOfOrder_L17 self v_teams v_days v_rows x1 x2) 20000 ((0 : Int32), (0 : Int32))) = some r := h
    refine lv_iload_n hx hb dX3_outOfOrder_4 rfl (lv_at hl 2 rfl) ?_
    refine lv_aload_n hx hb dX3_outOfOrder_5 rfl (lv_at hl 0 rfl) ?_
    refine va_get (D := D) (ci := 3) (v := .int v_days) (C := RX3) (T := TX3) (N := 3) hx hb hts in_X3_outOfOrder_X3 hown hK hP 0 rfl rfl 1 (by decide) kw1 (fun _ h9 => h9) rfl dX3_outOfOrder_6 ?_
    refine lv_icmp_ge (tgt := 59) hx hb dX3_outOfOrder_9 (by decide) (fun c_12 => ?_) (fun c_12 => ?_)
    · replace h := it_pos h c_12
      refine lv_iload_n hx hb dX3_outOfOrder_59 rfl (lv_at hl 1 rfl) ?_
      obtain rfl := inj1 h
      exact hret dX3_outOfOrder_60 hP hD hS
    · replace h := it_neg h c_12
      refine lv_iconst (v := 0) hx hb dX3_outOfOrder_12 (by decide) ?_
      refine lv_istore_n (lv' := [(3, .int (0 : Int32)), (0, .ref a_this), (1, .int x1), (2, .int x2)]) hx hb dX3_outOfOrder_13 rfl hl (by decide) rfl (fun ls hl => ?_)
      refine lv_iconst (v := 0) hx hb dX3_outOfOrder_14 (by decide) ?_
      refine lv_istore (lv' := [(4, .int (0 : Int32)), (3, .int (0 : Int32)), (0, .ref a_this), (1, .int x1), (2, .int x2)]) hx hb dX3_outOfOrder_15 hl (by decide) rfl (fun ls hl => ?_)
      exact w17 x1 x2 _ hself 20000 (0 : Int32) (0 : Int32) h _ _ _ hP hD hS (lv_sub hl [2, 3, 4, 1, 0] rfl)
  refine lv_iconst (v := 0) hx hb dX3_outOfOrder_0 (by decide) ?_
  refine lv_istore_n (lv' := [(1, .int (0 : Int32)), (0, .ref a_this)]) hx hb dX3_outOfOrder_1 rfl hl (by decide) rfl (fun ls hl => ?_)
  refine lv_iconst (v := 0) hx hb dX3_outOfOrder_2 (by decide) ?_
  refine lv_istore_n (lv' := [(2, .int (0 : Int32)), (1, .int (0 : Int32)), (0, .ref a_this)]) hx hb dX3_outOfOrder_3 rfl hl (by decide) rfl (fun ls hl => ?_)
  exact w4 20000 (0 : Int32) (0 : Int32) h _ _ _ hP hD hS (lv_sub hl [2, 1, 0] rfl)
theorem in_X3_swapDays_X3 : ∀ w ∈ wsX30, w ∈ wsX3_swapDays := by decide +kernel
def f_X3_swapDays_L12 (v_days : Int32) (p1 : Int32) (p2 : Int32) (self : Int32 × (Nat → Int32) → Option ((Nat → Int32))) : Int32 × (Nat → Int32) → Option ((Nat → Int32)) := fun st => match st with | (x3, v_rows) => if (14 : Int32) ≤ x3 then some v_rows else if inb ((p1 * (14 : Int32)) + x3) 182 then bd (v_rows ((p1 * (14 : Int32)) + x3).toNatClampNeg) (fun x4_3 => if inb ((p2 * (14 : Int32)) + x3) 182 then if inb ((p1 * (14 : Int32)) + x3) 182 then bd (upd v_rows ((p1 * (14 : Int32)) + x3).toNatClampNeg (v_rows ((p2 * (14 : Int32)) + x3).toNatClampNeg)) (fun v_rows_6 => if inb ((p2 * (14 : Int32)) + x3) 182 then bd (upd v_rows_6 ((p2 * (14 : Int32)) + x3).toNatClampNeg x4_3) (fun v_rows_8 => bd (x3 + (1 : Int32)) (fun x3_9 => self (x3_9, v_rows_8))) else none) else none else none) else none
def f_X3_swapDays (v_days : Int32) (v_rows : Nat → Int32) (p1 : Int32) (p2 : Int32) : Option ((Nat → Int32)) := (f_X3_hasTwoDays v_days p1 p2).bind (fun r_10 => if r_10 = 0 then some v_rows else lp (f_X3_swapDays_L12 v_days p1 p2) 20000 ((0 : Int32), v_rows))
set_option maxHeartbeats 4000000 in
set_option maxRecDepth 100000 in
theorem c_X3_swapDays (l : Launch) (D : va_G) (cI cZ cP : ClassId) (a_this : Nat) (a_rows : Nat) (v_teams : Int32) (v_days : Int32) (v_rows : Nat → Int32) (p1 : Int32) (p2 : Int32) (nv_rows : Nat → Int32) (h : f_X3_swapDays v_days v_rows p1 p2 = some nv_rows) : rd_V l yX3_swapDays wsX3_swapDays { frames := 1, cells := 0, slots := 0, locals := 22 } [.ref a_this, .int p1, .int p2] D (tyA cI cZ cP) (wd_X3 cI cZ cP a_this a_rows v_teams v_days v_rows) (wd_X3 cI cZ cP a_this a_rows v_teams v_days nv_rows) := by
  unfold f_X3_swapDays at h
  refine rd_enterV (cc := cX3_swapDays) (maxL := 5) (by decide) rfl (Nat.le_of_ble_eq_true rfl) ?_
  intro p e s m args below meth c A Q ls hx hb hml hown hts hA hK hP hD hS hl hret
  have hl : lv_has ls 5 [(0, .ref a_this), (1, .int p1), (2, .int p2)] := hl
  have kw1 := hts (.fieldLink RX3 9 "RoundDays$Plan" "rows" "[I") (List.mem_of_getElem? (i := 1) rfl)
  have w12 : ∀ n : Nat, ∀ (x3 : Int32) (v_rows : Nat → Int32), lp (f_X3_swapDays_L12 v_days p1 p2) n (x3, v_rows) = some nv_rows → ∀ (H : Heap) (locs : List Loc) (ls : Array Slot), va_P D vwCl (wd_X3 cI cZ cP a_this a_rows v_teams v_days v_rows) H → va_D A (wd_X3 cI cZ cP a_this a_rows v_teams v_days v_rows) → va_S A s.heap H locs → lv_has ls 5 [(0, .ref a_this), (1, .int p1), (2, .int p2), (3, .int x3)] → W p l e { frames := 1, cells := 0, slots := 0, locals := 22 } s m args below meth c H locs 0 0 Q (F0 m 12 ls []) := by
    refine fun n x3 v_rows h => lp_walk (b := f_X3_swapDays_L12 v_days p1 p2) (r := nv_rows) (P := fun st => match st with | (x3, v_rows) => ∀ (H : Heap) (locs : List Loc) (ls : Array Slot), va_P D vwCl (wd_X3 cI cZ cP a_this a_rows v_teams v_days v_rows) H → va_D A (wd_X3 cI cZ cP a_this a_rows v_teams v_days v_rows) → va_S A s.heap H locs → lv_has ls 5 [(0, .ref a_this), (1, .int p1), (2, .int p2), (3, .int x3)] → W p l e { frames := 1, cells := 0, slots := 0, locals := 22 } s m args below meth c H locs 0 0 Q (F0 m 12 ls [])) (fun self hself0 st h => ?_) n (x3, v_rows) h
    obtain ⟨x3, v_rows⟩ := st
    have hself : ∀ (x3 : Int32) (v_rows : Nat → Int32), self (x3, v_rows) = some nv_rows → ∀ (H : Heap) (locs : List Loc) (ls : Array Slot), va_P D vwCl (wd_X3 cI cZ cP a_this a_rows v_teams v_days v_rows) H → va_D A (wd_X3 cI cZ cP a_this a_rows v_teams v_days v_rows) → va_S A s.heap H locs → lv_has ls 5 [(0, .ref a_this), (1, .int p1), (2, .int p2), (3, .int x3)] → W p l e { frames := 1, cells := 0, slots := 0, locals := 22 } s m args below meth c H locs 0 0 Q (F0 m 12 ls []) := fun x3 v_rows h => hself0 (x3, v_rows) h
    clear hself0
    intro H locs ls hP hD hS hl
    replace h : (if (14 : Int32) ≤ x3 then some v_rows else if inb ((p1 * (14 : Int32)) + x3) 182 then bd (v_rows ((p1 * (14 : Int32)) + x3).toNatClampNeg) (fun x4_3 => if inb ((p2 * (14 : Int32)) + x3) 182 then if inb ((p1 * (14 : Int32)) + x3) 182 then bd (upd v_rows ((p1 * (14 : Int32)) + x3).toNatClampNeg (v_rows ((p2 * (14 : Int32)) + x3).toNatClampNeg)) (fun v_rows_6 => if inb ((p2 * (14 : Int32)) + x3) 182 then bd (upd v_rows_6 ((p2 * (14 : Int32)) + x3).toNatClampNeg x4_3) (fun v_rows_8 => bd (x3 + (1 : Int32)) (fun x3_9 => self (x3_9, v_rows_8))) else none) else none else none) else none) = some nv_rows := h
    refine lv_iload_n hx hb dX3_swapDays_12 rfl (lv_at hl 3 rfl) ?_
    refine lv_bipush (v := 14) hx hb dX3_swapDays_13 (by decide) ?_
    refine lv_icmp_ge (tgt := 72) hx hb dX3_swapDays_15 (by decide) (fun c_1 => ?_) (fun c_1 => ?_)
    · replace h := it_pos h c_1
      obtain rfl := inj1 h
      exact hret dX3_swapDays_72 hP hD hS
    · replace h := it_neg h c_1
      refine lv_aload_n hx hb dX3_swapDays_18 rfl (lv_at hl 0 rfl) ?_
      refine va_get (D := D) (ci := 3) (v := .ref a_rows) (C := RX3) (T := TX3) (N := 3) hx hb hts in_X3_swapDays_X3 hown hK hP 0 rfl rfl 2 (by decide) kw1 (fun _ h9 => h9) rfl dX3_swapDays_19 ?_
      refine lv_iload_n hx hb dX3_swapDays_22 rfl (lv_at hl 1 rfl) ?_
      refine lv_bipush (v := 14) hx hb dX3_swapDays_23 (by decide) ?_
      refine lv_imul hx hb dX3_swapDays_25 ?_
      refine lv_iload_n hx hb dX3_swapDays_26 rfl (lv_at hl 3 rfl) ?_
      refine lv_iadd hx hb dX3_swapDays_27 ?_
      obtain ⟨hi_2, h⟩ := gd_some h
      refine va_iald hx hb hK hP 1 0 rfl rfl (inb_in hi_2) dX3_swapDays_28 ?_
      obtain ⟨x4_3, ex4_3, h⟩ := bd_some h
      refine rd_top ex4_3 ?_
      refine lv_istore (lv' := [(4, .int x4_3), (0, .ref a_this), (1, .int p1), (2, .int p2), (3, .int x3)]) hx hb dX3_swapDays_29 hl (by decide) rfl (fun ls hl => ?_)
      refine lv_aload_n hx hb dX3_swapDays_31 rfl (lv_at hl 1 rfl) ?_
      refine va_get (D := D) (ci := 3) (v := .ref a_rows) (C := RX3) (T := TX3) (N := 3) hx hb hts in_X3_swapDays_X3 hown hK hP 0 rfl rfl 2 (by decide) kw1 (fun _ h9 => h9) rfl dX3_swapDays_32 ?_
      refine lv_iload_n hx hb dX3_swapDays_35 rfl (lv_at hl 2 rfl) ?_
      refine lv_bipush (v := 14) hx hb dX3_swapDays_36 (by decide) ?_
      refine lv_imul hx hb dX3_swapDays_38 ?_
      refine lv_iload_n hx hb dX3_swapDays_39 rfl (lv_at hl 4 rfl) ?_
      refine lv_iadd hx hb dX3_swapDays_40 ?_
      refine lv_aload_n hx hb dX3_swapDays_41 rfl (lv_at hl 1 rfl) ?_
      refine va_get (D := D) (ci := 3) (v := .ref a_rows) (C := RX3) (T := TX3) (N := 3) hx hb hts in_X3_swapDays_X3 hown hK hP 0 rfl rfl 2 (by decide) kw1 (fun _ h9 => h9) rfl dX3_swapDays_42 ?_
      refine lv_iload_n hx hb dX3_swapDays_45 rfl (lv_at hl 3 rfl) ?_
      refine lv_bipush (v := 14) hx hb dX3_swapDays_46 (by decide) ?_
      refine lv_imul hx hb dX3_swapDays_48 ?_
      refine lv_iload_n hx hb dX3_swapDays_49 rfl (lv_at hl 4 rfl) ?_
      refine lv_iadd hx hb dX3_swapDays_50 ?_
      obtain ⟨hi_4, h⟩ := gd_some h
      refine va_iald hx hb hK hP 1 0 rfl rfl (inb_in hi_4) dX3_swapDays_51 ?_
      obtain ⟨hi_5, h⟩ := gd_some h
      obtain ⟨v_rows_6, ev_rows_6, h⟩ := bd_some h
      refine rd_iast (W1 := wd_X3 cI cZ cP a_this a_rows v_teams v_days v_rows_6) hx hb hK hP hD hS 1 0 rfl rfl hi_5 ev_rows_6 rfl dX3_swapDays_52 (fun H locs hP hD hS => ?_)
      refine lv_aload_n hx hb dX3_swapDays_53 rfl (lv_at hl 1 rfl) ?_
      refine va_get (D := D) (ci := 3) (v := .ref a_rows) (C := RX3) (T := TX3) (N := 3) hx hb hts in_X3_swapDays_X3 hown hK hP 0 rfl rfl 2 (by decide) kw1 (fun _ h9 => h9) rfl dX3_swapDays_54 ?_
      refine lv_iload_n hx hb dX3_swapDays_57 rfl (lv_at hl 3 rfl) ?_
      refine lv_bipush (v := 14) hx hb dX3_swapDays_58 (by decide) ?_
      refine lv_imul hx hb dX3_swapDays_60 ?_
      refine lv_iload_n hx hb dX3_swapDays_61 rfl (lv_at hl 4 rfl) ?_
      refine lv_iadd hx hb dX3_swapDays_62 ?_
      refine lv_iload hx hb dX3_swapDays_63 (lv_at hl 0 rfl) ?_
      obtain ⟨hi_7, h⟩ := gd_some h
      obtain ⟨v_rows_8, ev_rows_8, h⟩ := bd_some h
      refine rd_iast (W1 := wd_X3 cI cZ cP a_this a_rows v_teams v_days v_rows_8) hx hb hK hP hD hS 1 0 rfl rfl hi_7 ev_rows_8 rfl dX3_swapDays_65 (fun H locs hP hD hS => ?_)
      obtain ⟨x3_9, ex3_9, h⟩ := bd_some h
      refine lv_iinc (v := x3_9) (lv' := [(3, .int x3_9), (4, .int x4_3), (0, .ref a_this), (1, .int p1), (2, .int p2)]) hx hb dX3_swapDays_66 hl (k := 4) rfl (by rw [ex3_9]; rfl) (by decide) rfl (fun ls hl => ?_)
      refine lv_goto (tgt := 12) hx hb dX3_swapDays_69 (by decide) ?_
      exact hself x3_9 v_rows_8 h _ _ _ hP hD hS (lv_sub hl [2, 3, 4, 0] rfl)
  refine lv_aload_n hx hb dX3_swapDays_0 rfl (lv_at hl 0 rfl) ?_
  refine lv_iload_n hx hb dX3_swapDays_1 rfl (lv_at hl 1 rfl) ?_
  refine lv_iload_n hx hb dX3_swapDays_2 rfl (lv_at hl 2 rfl) ?_
  obtain ⟨r_10, hc_11, h⟩ := bi_some h
  refine rd_callVi [.int p1, .int p2] [] (wr := []) (W1 := wd_X3 cI cZ cP a_this a_rows v_teams v_days v_rows) (ci := 3) ⟨hx, hb, hml, hown, hts⟩ (c_X3_hasTwoDays l D cI cZ cP a_this a_rows v_teams v_days v_rows p1 p2 r_10 hc_11) (cwV 2 hts gX3_swapDays_X3_hasTwoDays rfl rfl rfl (by decide +kernel) ⟨Nat.le_of_ble_eq_true rfl, Nat.le_of_ble_eq_true rfl⟩) rfl rfl hl.1 (Nat.le_of_ble_eq_true rfl) dX3_swapDays_3 ⟨Nat.zero_le _, Nat.zero_le _⟩ hK hP hD hS hA rfl rfl [0, 1] [] [0, 1] ⟨⟨rfl, rfl, rfl⟩, by decide⟩ (fun H locs hP hD hS => ?_)
  refine lv_if_ne (tgt := 10) hx hb dX3_swapDays_6 (by decide) (fun c_12 => ?_) (fun c_12 => ?_)
  · replace h := it_neg h c_12
    refine lv_iconst (v := 0) hx hb dX3_swapDays_10 (by decide) ?_
    refine lv_istore_n (lv' := [(3, .int (0 : Int32)), (0, .ref a_this), (1, .int p1), (2, .int p2)]) hx hb dX3_swapDays_11 rfl hl (by decide) rfl (fun ls hl => ?_)
    exact w12 20000 (0 : Int32) v_rows h _ _ _ hP hD hS (lv_sub hl [1, 2, 3, 0] rfl)
  · replace h := it_pos h c_12
    obtain rfl := inj1 h
    exact hret dX3_swapDays_9 hP hD hS
theorem in_X3_putInOrder_X3 : ∀ w ∈ wsX30, w ∈ wsX3_putInOrder := by decide +kernel
def f_X3_putInOrder_L12 (k2 : Int32 × (Nat → Int32) → Option ((Nat → Int32))) (v_teams : Int32) (v_days : Int32) (x1 : Int32) (self : Int32 × (Nat → Int32) → Option ((Nat → Int32))) : Int32 × (Nat → Int32) → Option ((Nat → Int32)) := fun st => match st with | (x2, v_rows) => if x2 ≤ 0 then bd (x1 + (1 : Int32)) (fun x1_2 => k2 (x1_2, v_rows)) else (f_X3_order v_teams v_days v_rows x2 (x2 - (1 : Int32))).bind (fun r_3 => if 0 ≤ r_3 then bd (x1 + (1 : Int32)) (fun x1_6 => k2 (x1_6, v_rows)) else (f_X3_swapDays v_days v_rows x2 (x2 - (1 : Int32))).bind (fun v_rows_7 => bd (x2 + (-1 : Int32)) (fun x2_9 => self (x2_9, v_rows_7))))
def f_X3_putInOrder_L2 (v_teams : Int32) (v_days : Int32) (self : Int32 × (Nat → Int32) → Option ((Nat → Int32))) : Int32 × (Nat → Int32) → Option ((Nat → Int32)) := fun st => match st with | (x1, v_rows) => if v_days ≤ x1 then some v_rows else lp (f_X3_putInOrder_L12 self v_teams v_days x1) 20000 (x1, v_rows)
def f_X3_putInOrder (v_teams : Int32) (v_days : Int32) (v_rows : Nat → Int32) : Option ((Nat → Int32)) := lp (f_X3_putInOrder_L2 v_teams v_days) 20000 ((1 : Int32), v_rows)
set_option maxHeartbeats 4000000 in
set_option maxRecDepth 100000 in
theorem c_X3_putInOrder (l : Launch) (D : va_G) (cI cZ cP : ClassId) (a_this : Nat) (a_rows : Nat) (v_teams : Int32) (v_days : Int32) (v_rows : Nat → Int32) (nv_rows : Nat → Int32) (h : f_X3_putInOrder v_teams v_days v_rows = some nv_rows) : rd_V l yX3_putInOrder wsX3_putInOrder { frames := 2, cells := 0, slots := 0, locals := 46 } [.ref a_this] D (tyA cI cZ cP) (wd_X3 cI cZ cP a_this a_rows v_teams v_days v_rows) (wd_X3 cI cZ cP a_this a_rows v_teams v_days nv_rows) := by
  unfold f_X3_putInOrder at h
  refine rd_enterV (cc := cX3_putInOrder) (maxL := 3) (by decide) rfl (Nat.le_of_ble_eq_true rfl) ?_
  intro p e s m args below meth c A Q ls hx hb hml hown hts hA hK hP hD hS hl hret
  have hl : lv_has ls 3 [(0, .ref a_this)] := hl
  have kw1 := hts (.fieldLink RX3 19 "RoundDays$Plan" "days" "I") (List.mem_of_getElem? (i := 1) rfl)
  have w12 : ∀ x1 : Int32, ∀ k2 : Int32 × (Nat → Int32) → Option ((Nat → Int32)), (∀ (x1 : Int32) (v_rows : Nat → Int32), k2 (x1, v_rows) = some nv_rows → ∀ (H : Heap) (locs : List Loc) (ls : Array Slot), va_P D vwCl (wd_X3 cI cZ cP a_this a_rows v_teams v_days v_rows) H → va_D A (wd_X3 cI cZ cP a_this a_rows v_teams v_days v_rows) → va_S A s.heap H locs → lv_has ls 3 [(0, .ref a_this), (1, .int x1)] → W p l e { frames := 2, cells := 0, slots := 0, locals := 46 } s m args below meth c H locs 0 0 Q (F0 m 2 ls [])) → ∀ n : Nat, ∀ (x2 : Int32) (v_rows : Nat → Int32), lp (f_X3_putInOrder_L12 k2 v_teams v_days x1) n (x2, v_rows) = some nv_rows → ∀ (H : Heap) (locs : List Loc) (ls : Array Slot), va_P D vwCl (wd_X3 cI cZ cP a_this a_rows v_teams v_days v_rows) H → va_D A (wd_X3 cI cZ cP a_this a_rows v_teams v_days v_rows) → va_S A s.heap H locs → lv_has ls 3 [(0, .ref a_this), (1, .int x1), (2, .int x2)] → W p l e { frames := 2, cells := 0, slots := 0, locals := 46 } s m args below meth c H locs 0 0 Q (F0 m 12 ls []) := by
    intro x1 k2 hk2
    refine fun n x2 v_rows h => lp_walk (b := f_X3_putInOrder_L12 k2 v_teams v_days x1) (r := nv_rows) (P := fun st => match st with | (x2, v_rows) => ∀ (H : Heap) (locs : List Loc) (ls : Array Slot), va_P D vwCl (wd_X3 cI cZ cP a_this a_rows v_teams v_days v_rows) H → va_D A (wd_X3 cI cZ cP a_this a_rows v_teams v_days v_rows) → va_S A s.heap H locs → lv_has ls 3 [(0, .ref a_this), (1, .int x1), (2, .int x2)] → W p l e { frames := 2, cells := 0, slots := 0, locals := 46 } s m args below meth c H locs 0 0 Q (F0 m 12 ls [])) (fun self hself0 st h => ?_) n (x2, v_rows) h
    obtain ⟨x2, v_rows⟩ := st
    have hself : ∀ (x2 : Int32) (v_rows : Nat → Int32), self (x2, v_rows) = some nv_rows → ∀ (H : Heap) (locs : List Loc) (ls : Array Slot), va_P D vwCl (wd_X3 cI cZ cP a_this a_rows v_teams v_days v_rows) H → va_D A (wd_X3 cI cZ cP a_this a_rows v_teams v_days v_rows) → va_S A s.heap H locs → lv_has ls 3 [(0, .ref a_this), (1, .int x1), (2, .int x2)] → W p l e { frames := 2, cells := 0, slots := 0, locals := 46 } s m args below meth c H locs 0 0 Q (F0 m 12 ls []) := fun x2 v_rows h => hself0 (x2, v_rows) h
    clear hself0
    intro H locs ls hP hD hS hl
    replace h : (if x2 ≤ 0 then bd (x1 + (1 : Int32)) (fun x1_2 => k2 (x1_2, v_rows)) else (f_X3_order v_teams v_days v_rows x2 (x2 - (1 : Int32))).bind (fun r_3 => if 0 ≤ r_3 then bd (x1 + (1 : Int32)) (fun x1_6 => k2 (x1_6, v_rows)) else (f_X3_swapDays v_days v_rows x2 (x2 - (1 : Int32))).bind (fun v_rows_7 => bd (x2 + (-1 : Int32)) (fun x2_9 => self (x2_9, v_rows_7))))) = some nv_rows := h
    refine lv_iload_n hx hb dX3_putInOrder_12 rfl (lv_at hl 2 rfl) ?_
    refine lv_if_le (tgt := 41) hx hb dX3_putInOrder_13 (by decide) (fun c_1 => ?_) (fun c_1 => ?_)
    · replace h := it_pos h c_1
      obtain ⟨x1_2, ex1_2, h⟩ := bd_some h
      refine lv_iinc (v := x1_2) (lv' := [(1, .int x1_2), (0, .ref a_this), (2, .int x2)]) hx hb dX3_putInOrder_41 hl (k := 1) rfl (by rw [ex1_2]; rfl) (by decide) rfl (fun ls hl => ?_)
      refine lv_goto (tgt := 2) hx hb dX3_putInOrder_44 (by decide) ?_
      exact hk2 x1_2 v_rows h _ _ _ hP hD hS (lv_sub hl [1, 0] rfl)
    · replace h := it_neg h c_1
      refine lv_aload_n hx hb dX3_putInOrder_16 rfl (lv_at hl 0 rfl) ?_
      refine lv_iload_n hx hb dX3_putInOrder_17 rfl (lv_at hl 2 rfl) ?_
      refine lv_iload_n hx hb dX3_putInOrder_18 rfl (lv_at hl 2 rfl) ?_
      refine lv_iconst (v := 1) hx hb dX3_putInOrder_19 (by decide) ?_
      refine lv_isub hx hb dX3_putInOrder_20 ?_
      obtain ⟨r_3, hc_4, h⟩ := bi_some h
      refine rd_callVi [.int x2, .int (x2 - (1 : Int32))] [] (wr := []) (W1 := wd_X3 cI cZ cP a_this a_rows v_teams v_days v_rows) (ci := 3) ⟨hx, hb, hml, hown, hts⟩ (c_X3_order l D cI cZ cP a_this a_rows v_teams v_days v_rows x2 (x2 - (1 : Int32)) r_3 hc_4) (cwV 2 hts gX3_putInOrder_X3_order rfl rfl rfl (by decide +kernel) ⟨Nat.le_of_ble_eq_true rfl, Nat.le_of_ble_eq_true rfl⟩) rfl rfl hl.1 (Nat.le_of_ble_eq_true rfl) dX3_putInOrder_21 ⟨Nat.zero_le _, Nat.zero_le _⟩ hK hP hD hS hA rfl rfl [0, 1] [] [0, 1] ⟨⟨rfl, rfl, rfl⟩, by decide⟩ (fun H locs hP hD hS => ?_)
      refine lv_if_ge (tgt := 41) hx hb dX3_putInOrder_24 (by decide) (fun c_5 => ?_) (fun c_5 => ?_)
      · replace h := it_pos h c_5
        obtain ⟨x1_6, ex1_6, h⟩ := bd_some h
        refine lv_iinc (v := x1_6) (lv' := [(1, .int x1_6), (0, .ref a_this), (2, .int x2)]) hx hb dX3_putInOrder_41 hl (k := 1) rfl (by rw [ex1_6]; rfl) (by decide) rfl (fun ls hl => ?_)
        refine lv_goto (tgt := 2) hx hb dX3_putInOrder_44 (by decide) ?_
        exact hk2 x1_6 v_rows h _ _ _ hP hD hS (lv_sub hl [1, 0] rfl)
      · replace h := it_neg h c_5
        refine lv_aload_n hx hb dX3_putInOrder_27 rfl (lv_at hl 0 rfl) ?_
        refine lv_iload_n hx hb dX3_putInOrder_28 rfl (lv_at hl 2 rfl) ?_
        refine lv_iload_n hx hb dX3_putInOrder_29 rfl (lv_at hl 2 rfl) ?_
        refine lv_iconst (v := 1) hx hb dX3_putInOrder_30 (by decide) ?_
        refine lv_isub hx hb dX3_putInOrder_31 ?_
        obtain ⟨v_rows_7, hc_8, h⟩ := bi_some h
        refine rd_callVv [.int x2, .int (x2 - (1 : Int32))] [] (wr := []) (W1 := wd_X3 cI cZ cP a_this a_rows v_teams v_days v_rows_7) (ci := 3) ⟨hx, hb, hml, hown, hts⟩ (c_X3_swapDays l D cI cZ cP a_this a_rows v_teams v_days v_rows x2 (x2 - (1 : Int32)) v_rows_7 hc_8) (cwV 2 hts gX3_putInOrder_X3_swapDays rfl rfl rfl (by decide +kernel) ⟨Nat.le_of_ble_eq_true rfl, Nat.le_of_ble_eq_true rfl⟩) rfl rfl hl.1 (Nat.le_of_ble_eq_true rfl) dX3_putInOrder_32 ⟨Nat.zero_le _, Nat.zero_le _⟩ hK hP hD hS hA rfl rfl [0, 1] [] [0, 1] ⟨⟨rfl, rfl, rfl⟩, by decide⟩ (fun H locs hP hD hS => ?_)
        obtain ⟨x2_9, ex2_9, h⟩ := bd_some h
        refine lv_iinc (v := x2_9) (lv' := [(2, .int x2_9), (0, .ref a_this), (1, .int x1)]) hx hb dX3_putInOrder_35 hl (k := 2) rfl (by rw [ex2_9]; rfl) (by decide) rfl (fun ls hl => ?_)
        refine lv_goto (tgt := 12) hx hb dX3_putInOrder_38 (by decide) ?_
        exact hself x2_9 v_rows_7 h _ _ _ hP hD hS (lv_sub hl [1, 2, 0] rfl)
  have w2 : ∀ n : Nat, ∀ (x1 : Int32) (v_rows : Nat → Int32), lp (f_X3_putInOrder_L2 v_teams v_days) n (x1, v_rows) = some nv_rows → ∀ (H : Heap) (locs : List Loc) (ls : Array Slot), va_P D vwCl (wd_X3 cI cZ cP a_this a_rows v_teams v_days v_rows) H → va_D A (wd_X3 cI cZ cP a_this a_rows v_teams v_days v_rows) → va_S A s.heap H locs → lv_has ls 3 [(0, .ref a_this), (1, .int x1)] → W p l e { frames := 2, cells := 0, slots := 0, locals := 46 } s m args below meth c H locs 0 0 Q (F0 m 2 ls []) := by
    refine fun n x1 v_rows h => lp_walk (b := f_X3_putInOrder_L2 v_teams v_days) (r := nv_rows) (P := fun st => match st with | (x1, v_rows) => ∀ (H : Heap) (locs : List Loc) (ls : Array Slot), va_P D vwCl (wd_X3 cI cZ cP a_this a_rows v_teams v_days v_rows) H → va_D A (wd_X3 cI cZ cP a_this a_rows v_teams v_days v_rows) → va_S A s.heap H locs → lv_has ls 3 [(0, .ref a_this), (1, .int x1)] → W p l e { frames := 2, cells := 0, slots := 0, locals := 46 } s m args below meth c H locs 0 0 Q (F0 m 2 ls [])) (fun self hself0 st h => ?_) n (x1, v_rows) h
    obtain ⟨x1, v_rows⟩ := st
    have hself : ∀ (x1 : Int32) (v_rows : Nat → Int32), self (x1, v_rows) = some nv_rows → ∀ (H : Heap) (locs : List Loc) (ls : Array Slot), va_P D vwCl (wd_X3 cI cZ cP a_this a_rows v_teams v_days v_rows) H → va_D A (wd_X3 cI cZ cP a_this a_rows v_teams v_days v_rows) → va_S A s.heap H locs → lv_has ls 3 [(0, .ref a_this), (1, .int x1)] → W p l e { frames := 2, cells := 0, slots := 0, locals := 46 } s m args below meth c H locs 0 0 Q (F0 m 2 ls []) := fun x1 v_rows h => hself0 (x1, v_rows) h
    clear hself0
    intro H locs ls hP hD hS hl
    replace h : (if v_days ≤ x1 then some v_rows else lp (f_X3_putInOrder_L12 self v_teams v_days x1) 20000 (x1, v_rows)) = some nv_rows := h
    refine lv_iload_n hx hb dX3_putInOrder_2 rfl (lv_at hl 1 rfl) ?_
    refine lv_aload_n hx hb dX3_putInOrder_3 rfl (lv_at hl 0 rfl) ?_
    refine va_get (D := D) (ci := 3) (v := .int v_days) (C := RX3) (T := TX3) (N := 3) hx hb hts in_X3_putInOrder_X3 hown hK hP 0 rfl rfl 1 (by decide) kw1 (fun _ h9 => h9) rfl dX3_putInOrder_4 ?_
    refine lv_icmp_ge (tgt := 47) hx hb dX3_putInOrder_7 (by decide) (fun c_10 => ?_) (fun c_10 => ?_)
    · replace h := it_pos h c_10
      obtain rfl := inj1 h
      exact hret dX3_putInOrder_47 hP hD hS
    · replace h := it_neg h c_10
      refine lv_iload_n hx hb dX3_putInOrder_10 rfl (lv_at hl 1 rfl) ?_
      refine lv_istore_n (lv' := [(2, .int x1), (0, .ref a_this), (1, .int x1)]) hx hb dX3_putInOrder_11 rfl hl (by decide) rfl (fun ls hl => ?_)
      exact w12 x1 _ hself 20000 x1 v_rows h _ _ _ hP hD hS (lv_sub hl [1, 2, 0] rfl)
  refine lv_iconst (v := 1) hx hb dX3_putInOrder_0 (by decide) ?_
  refine lv_istore_n (lv' := [(1, .int (1 : Int32)), (0, .ref a_this)]) hx hb dX3_putInOrder_1 rfl hl (by decide) rfl (fun ls hl => ?_)
  exact w2 20000 (1 : Int32) v_rows h _ _ _ hP hD hS (lv_sub hl [1, 0] rfl)
theorem in_X3_turn_X3 : ∀ w ∈ wsX30, w ∈ wsX3_turn := by decide +kernel
def f_X3_turn (v_teams : Int32) (p1 : Int32) (p2 : Int32) : Option (Int32) := bd (v_teams - (1 : Int32)) (fun x3_1 => if x3_1 ≤ 0 then some p1 else if p1 < x3_1 then if ¬ x3_1 = 0 then some ((p1 + p2) - (p1 + p2) / x3_1 * x3_1) else none else some p1)
set_option maxHeartbeats 4000000 in
set_option maxRecDepth 100000 in
theorem c_X3_turn (l : Launch) (D : va_G) (cI cZ cP : ClassId) (a_this : Nat) (a_rows : Nat) (v_teams : Int32) (v_days : Int32) (v_rows : Nat → Int32) (p1 : Int32) (p2 : Int32) (r : Int32) (h : f_X3_turn v_teams p1 p2 = some r) : rd_I l yX3_turn wsX3_turn { frames := 0, cells := 0, slots := 0, locals := 0 } [.ref a_this, .int p1, .int p2] D (tyA cI cZ cP) (wd_X3 cI cZ cP a_this a_rows v_teams v_days v_rows) (wd_X3 cI cZ cP a_this a_rows v_teams v_days v_rows) r := by
  unfold f_X3_turn at h
  refine rd_enterI (cc := cX3_turn) (maxL := 4) (by decide) rfl (Nat.le_of_ble_eq_true rfl) ?_
  intro p e s m args below meth c A Q ls hx hb hml hown hts hA hK hP hD hS hl hret
  have hl : lv_has ls 4 [(0, .ref a_this), (1, .int p1), (2, .int p2)] := hl
  have kw1 := hts (.fieldLink RX3 15 "RoundDays$Plan" "teams" "I") (List.mem_of_getElem? (i := 1) rfl)
  refine lv_aload_n hx hb dX3_turn_0 rfl (lv_at hl 0 rfl) ?_
  refine va_get (D := D) (ci := 3) (v := .int v_teams) (C := RX3) (T := TX3) (N := 3) hx hb hts in_X3_turn_X3 hown hK hP 0 rfl rfl 0 (by decide) kw1 (fun _ h9 => h9) rfl dX3_turn_1 ?_
  refine lv_iconst (v := 1) hx hb dX3_turn_4 (by decide) ?_
  refine lv_isub hx hb dX3_turn_5 ?_
  obtain ⟨x3_1, ex3_1, h⟩ := bd_some h
  refine rd_top ex3_1 ?_
  refine lv_istore_n (lv' := [(3, .int x3_1), (0, .ref a_this), (1, .int p1), (2, .int p2)]) hx hb dX3_turn_6 rfl hl (by decide) rfl (fun ls hl => ?_)
  refine lv_iload_n hx hb dX3_turn_7 rfl (lv_at hl 0 rfl) ?_
  refine lv_if_le (tgt := 16) hx hb dX3_turn_8 (by decide) (fun c_2 => ?_) (fun c_2 => ?_)
  · replace h := it_pos h c_2
    refine lv_iload_n hx hb dX3_turn_16 rfl (lv_at hl 2 rfl) ?_
    refine lv_goto (tgt := 25) hx hb dX3_turn_17 (by decide) ?_
    obtain rfl := inj1 h
    exact hret dX3_turn_25 hP hD hS
  · replace h := it_neg h c_2
    refine lv_iload_n hx hb dX3_turn_11 rfl (lv_at hl 2 rfl) ?_
    refine lv_iload_n hx hb dX3_turn_12 rfl (lv_at hl 0 rfl) ?_
    refine lv_icmp_lt (tgt := 20) hx hb dX3_turn_13 (by decide) (fun c_3 => ?_) (fun c_3 => ?_)
    · replace h := it_pos h c_3
      refine lv_iload_n hx hb dX3_turn_20 rfl (lv_at hl 2 rfl) ?_
      refine lv_iload_n hx hb dX3_turn_21 rfl (lv_at hl 3 rfl) ?_
      refine lv_iadd hx hb dX3_turn_22 ?_
      refine lv_iload_n hx hb dX3_turn_23 rfl (lv_at hl 0 rfl) ?_
      obtain ⟨hz_4, h⟩ := gd_some h
      refine lv_irem hx hb dX3_turn_24 hz_4 ?_
      obtain rfl := inj1 h
      exact hret dX3_turn_25 hP hD hS
    · replace h := it_neg h c_3
      refine lv_iload_n hx hb dX3_turn_16 rfl (lv_at hl 2 rfl) ?_
      refine lv_goto (tgt := 25) hx hb dX3_turn_17 (by decide) ?_
      obtain rfl := inj1 h
      exact hret dX3_turn_25 hP hD hS
theorem in_X3_isTurnedToDay_X3 : ∀ w ∈ wsX30, w ∈ wsX3_isTurnedToDay := by decide +kernel
def f_X3_isTurnedToDay_L32 (v_teams : Int32) (v_days : Int32) (v_rows : Nat → Int32) (p1 : Int32) (p2 : Int32) (x3 : Int32) (self : Int32 → Option (Int32)) : Int32 → Option (Int32) := fun x4 => if v_teams ≤ x4 then some (1 : Int32) else (f_X3_turn v_teams x4 p2).bind (fun r_2 => (f_X3_partner v_teams v_days v_rows x3 r_2).bind (fun r_4 => (f_X3_partner v_teams v_days v_rows p1 x4).bind (fun r_6 => (f_X3_turn v_teams r_6 p2).bind (fun r_8 => if r_4 = r_8 then bd (x4 + (1 : Int32)) (fun x4_11 => self x4_11) else some (0 : Int32)))))
def f_X3_isTurnedToDay (v_teams : Int32) (v_days : Int32) (v_rows : Nat → Int32) (p1 : Int32) (p2 : Int32) : Option (Int32) := (f_X3_turn v_teams (0 : Int32) p2).bind (fun r_12 => (f_X3_partner v_teams v_days v_rows p1 (0 : Int32)).bind (fun r_14 => (f_X3_turn v_teams r_14 p2).bind (fun r_16 => (f_X3_dayOf v_teams v_days v_rows r_12 r_16).bind (fun r_18 => if r_18 = (-1 : Int32) then some (0 : Int32) else lp (f_X3_isTurnedToDay_L32 v_teams v_days v_rows p1 p2 r_18) 20000 (1 : Int32)))))
set_option maxHeartbeats 4000000 in
set_option maxRecDepth 100000 in
theorem c_X3_isTurnedToDay (l : Launch) (D : va_G) (cI cZ cP : ClassId) (a_this : Nat) (a_rows : Nat) (v_teams : Int32) (v_days : Int32) (v_rows : Nat → Int32) (p1 : Int32) (p2 : Int32) (r : Int32) (h : f_X3_isTurnedToDay v_teams v_days v_rows p1 p2 = some r) : rd_I l yX3_isTurnedToDay wsX3_isTurnedToDay { frames := 2, cells := 0, slots := 0, locals := 45 } [.ref a_this, .int p1, .int p2] D (tyA cI cZ cP) (wd_X3 cI cZ cP a_this a_rows v_teams v_days v_rows) (wd_X3 cI cZ cP a_this a_rows v_teams v_days v_rows) r := by
  unfold f_X3_isTurnedToDay at h
  refine rd_enterZ (cc := cX3_isTurnedToDay) (maxL := 5) (by decide) rfl (Nat.le_of_ble_eq_true rfl) ?_
  intro p e s m args below meth c A Q ls hx hb hml hown hts hA hK hP hD hS hl hret
  have hl : lv_has ls 5 [(0, .ref a_this), (1, .int p1), (2, .int p2)] := hl
  have kw1 := hts (.fieldLink RX3 15 "RoundDays$Plan" "teams" "I") (List.mem_of_getElem? (i := 1) rfl)
  have w32 : ∀ x3 : Int32, ∀ n : Nat, ∀ (x4 : Int32), lp (f_X3_isTurnedToDay_L32 v_teams v_days v_rows p1 p2 x3) n x4 = some r → ∀ (H : Heap) (locs : List Loc) (ls : Array Slot), va_P D vwCl (wd_X3 cI cZ cP a_this a_rows v_teams v_days v_rows) H → va_D A (wd_X3 cI cZ cP a_this a_rows v_teams v_days v_rows) → va_S A s.heap H locs → lv_has ls 5 [(0, .ref a_this), (1, .int p1), (2, .int p2), (3, .int x3), (4, .int x4)] → W p l e { frames := 2, cells := 0, slots := 0, locals := 45 } s m args below meth c H locs 0 0 Q (F0 m 32 ls []) := by
    intro x3
    refine fun n x4 h => lp_walk (b := f_X3_isTurnedToDay_L32 v_teams v_days v_rows p1 p2 x3) (r := r) (P := fun x4 => ∀ (H : Heap) (locs : List Loc) (ls : Array Slot), va_P D vwCl (wd_X3 cI cZ cP a_this a_rows v_teams v_days v_rows) H → va_D A (wd_X3 cI cZ cP a_this a_rows v_teams v_days v_rows) → va_S A s.heap H locs → lv_has ls 5 [(0, .ref a_this), (1, .int p1), (2, .int p2), (3, .int x3), (4, .int x4)] → W p l e { frames := 2, cells := 0, slots := 0, locals := 45 } s m args below meth c H locs 0 0 Q (F0 m 32 ls [])) (fun self hself0 st h => ?_) n x4 h
    revert h; revert st; intro x4 h
    have hself : ∀ (x4 : Int32), self x4 = some r → ∀ (H : Heap) (locs : List Loc) (ls : Array Slot), va_P D vwCl (wd_X3 cI cZ cP a_this a_rows v_teams v_days v_rows) H → va_D A (wd_X3 cI cZ cP a_this a_rows v_teams v_days v_rows) → va_S A s.heap H locs → lv_has ls 5 [(0, .ref a_this), (1, .int p1), (2, .int p2), (3, .int x3), (4, .int x4)] → W p l e { frames := 2, cells := 0, slots := 0, locals := 45 } s m args below meth c H locs 0 0 Q (F0 m 32 ls []) := fun x4 h => hself0 x4 h
    clear hself0
    intro H locs ls hP hD hS hl
    replace h : (if v_teams ≤ x4 then some (1 : Int32) else (f_X3_turn v_teams x4 p2).bind (fun r_2 => (f_X3_partner v_teams v_days v_rows x3 r_2).bind (fun r_4 => (f_X3_partner v_teams v_days v_rows p1 x4).bind (fun r_6 => (f_X3_turn v_teams r_6 p2).bind (fun r_8 => if r_4 = r_8 then bd (x4 + (1 : Int32)) (fun x4_11 => self x4_11) else some (0 : Int32)))))) = some r := h
    refine lv_iload hx hb dX3_isTurnedToDay_32 (lv_at hl 4 rfl) ?_
    refine lv_aload_n hx hb dX3_isTurnedToDay_34 rfl (lv_at hl 0 rfl) ?_
    refine va_get (D := D) (ci := 3) (v := .int v_teams) (C := RX3) (T := TX3) (N := 3) hx hb hts in_X3_isTurnedToDay_X3 hown hK hP 0 rfl rfl 0 (by decide) kw1 (fun _ h9 => h9) rfl dX3_isTurnedToDay_35 ?_
    refine lv_icmp_ge (tgt := 76) hx hb dX3_isTurnedToDay_38 (by decide) (fun c_1 => ?_) (fun c_1 => ?_)
    · replace h := it_pos h c_1
      refine lv_iconst (v := 1) hx hb dX3_isTurnedToDay_76 (by decide) ?_
      obtain rfl := inj1 h
      exact hret (by decide) dX3_isTurnedToDay_77 hP hD hS
    · replace h := it_neg h c_1
      refine lv_aload_n hx hb dX3_isTurnedToDay_41 rfl (lv_at hl 0 rfl) ?_
      refine lv_iload_n hx hb dX3_isTurnedToDay_42 rfl (lv_at hl 3 rfl) ?_
      refine lv_aload_n hx hb dX3_isTurnedToDay_43 rfl (lv_at hl 0 rfl) ?_
      refine lv_iload hx hb dX3_isTurnedToDay_44 (lv_at hl 4 rfl) ?_
      refine lv_iload_n hx hb dX3_isTurnedToDay_46 rfl (lv_at hl 2 rfl) ?_
      obtain ⟨r_2, hc_3, h⟩ := bi_some h
      refine rd_callVi [.int x4, .int p2] [.int x3, .ref a_this] (wr := []) (W1 := wd_X3 cI cZ cP a_this a_rows v_teams v_days v_rows) (ci := 3) ⟨hx, hb, hml, hown, hts⟩ (c_X3_turn l D cI cZ cP a_this a_rows v_teams v_days v_rows x4 p2 r_2 hc_3) (cwV 2 hts gX3_isTurnedToDay_X3_turn rfl rfl rfl (by decide +kernel) ⟨Nat.le_of_ble_eq_true rfl, Nat.le_of_ble_eq_true rfl⟩) rfl rfl hl.1 (Nat.le_of_ble_eq_true rfl) dX3_isTurnedToDay_47 ⟨Nat.zero_le _, Nat.zero_le _⟩ hK hP hD hS hA rfl rfl [0, 1] [] [0, 1] ⟨⟨rfl, rfl, rfl⟩, by decide⟩ (fun H locs hP hD hS => ?_)
      obtain ⟨r_4, hc_5, h⟩ := bi_some h
      refine rd_callVi [.int x3, .int r_2] [] (wr := []) (W1 := wd_X3 cI cZ cP a_this a_rows v_teams v_days v_rows) (ci := 3) ⟨hx, hb, hml, hown, hts⟩ (c_X3_partner l D cI cZ cP a_this a_rows v_teams v_days v_rows x3 r_2 r_4 hc_5) (cwV 2 hts gX3_isTurnedToDay_X3_partner rfl rfl rfl (by decide +kernel) ⟨Nat.le_of_ble_eq_true rfl, Nat.le_of_ble_eq_true rfl⟩) rfl rfl hl.1 (Nat.le_of_ble_eq_true rfl) dX3_isTurnedToDay_50 ⟨Nat.zero_le _, Nat.zero_le _⟩ hK hP hD hS hA rfl rfl [0, 1] [] [0, 1] ⟨⟨rfl, rfl, rfl⟩, by decide⟩ (fun H locs hP hD hS => ?_)
      refine lv_aload_n hx hb dX3_isTurnedToDay_53 rfl (lv_at hl 0 rfl) ?_
      refine lv_aload_n hx hb dX3_isTurnedToDay_54 rfl (lv_at hl 0 rfl) ?_
      refine lv_iload_n hx hb dX3_isTurnedToDay_55 rfl (lv_at hl 1 rfl) ?_
      refine lv_iload hx hb dX3_isTurnedToDay_56 (lv_at hl 4 rfl) ?_
      obtain ⟨r_6, hc_7, h⟩ := bi_some h
      refine rd_callVi [.int p1, .int x4] [.ref a_this, .int r_4] (wr := []) (W1 := wd_X3 cI cZ cP a_this a_rows v_teams v_days v_rows) (ci := 3) ⟨hx, hb, hml, hown, hts⟩ (c_X3_partner l D cI cZ cP a_this a_rows v_teams v_days v_rows p1 x4 r_6 hc_7) (cwV 2 hts gX3_isTurnedToDay_X3_partner rfl rfl rfl (by decide +kernel) ⟨Nat.le_of_ble_eq_true rfl, Nat.le_of_ble_eq_true rfl⟩) rfl rfl hl.1 (Nat.le_of_ble_eq_true rfl) dX3_isTurnedToDay_58 ⟨Nat.zero_le _, Nat.zero_le _⟩ hK hP hD hS hA rfl rfl [0, 1] [] [0, 1] ⟨⟨rfl, rfl, rfl⟩, by decide⟩ (fun H locs hP hD hS => ?_)
      refine lv_iload_n hx hb dX3_isTurnedToDay_61 rfl (lv_at hl 2 rfl) ?_
      obtain ⟨r_8, hc_9, h⟩ := bi_some h
      refine rd_callVi [.int r_6, .int p2] [.int r_4] (wr := []) (W1 := wd_X3 cI cZ cP a_this a_rows v_teams v_days v_rows) (ci := 3) ⟨hx, hb, hml, hown, hts⟩ (c_X3_turn l D cI cZ cP a_this a_rows v_teams v_days v_rows r_6 p2 r_8 hc_9) (cwV 2 hts gX3_isTurnedToDay_X3_turn rfl rfl rfl (by decide +kernel) ⟨Nat.le_of_ble_eq_true rfl, Nat.le_of_ble_eq_true rfl⟩) rfl rfl hl.1 (Nat.le_of_ble_eq_true rfl) dX3_isTurnedToDay_62 ⟨Nat.zero_le _, Nat.zero_le _⟩ hK hP hD hS hA rfl rfl [0, 1] [] [0, 1] ⟨⟨rfl, rfl, rfl⟩, by decide⟩ (fun H locs hP hD hS => ?_)
      refine lv_icmp_eq (tgt := 70) hx hb dX3_isTurnedToDay_65 (by decide) (fun c_10 => ?_) (fun c_10 => ?_)
      · replace h := it_pos h c_10
        obtain ⟨x4_11, ex4_11, h⟩ := bd_some h
        refine lv_iinc (v := x4_11) (lv' := [(4, .int x4_11), (0, .ref a_this), (1, .int p1), (2, .int p2), (3, .int x3)]) hx hb dX3_isTurnedToDay_70 hl (k := 4) rfl (by rw [ex4_11]; rfl) (by decide) rfl (fun ls hl => ?_)
        refine lv_goto (tgt := 32) hx hb dX3_isTurnedToDay_73 (by decide) ?_
        exact hself x4_11 h _ _ _ hP hD hS (lv_sub hl [1, 2, 3, 4, 0] rfl)
      · replace h := it_neg h c_10
        refine lv_iconst (v := 0) hx hb dX3_isTurnedToDay_68 (by decide) ?_
        obtain rfl := inj1 h
        exact hret (by decide) dX3_isTurnedToDay_69 hP hD hS
  refine lv_aload_n hx hb dX3_isTurnedToDay_0 rfl (lv_at hl 0 rfl) ?_
  refine lv_aload_n hx hb dX3_isTurnedToDay_1 rfl (lv_at hl 0 rfl) ?_
  refine lv_iconst (v := 0) hx hb dX3_isTurnedToDay_2 (by decide) ?_
  refine lv_iload_n hx hb dX3_isTurnedToDay_3 rfl (lv_at hl 2 rfl) ?_
  obtain ⟨r_12, hc_13, h⟩ := bi_some h
  refine rd_callVi [.int (0 : Int32), .int p2] [.ref a_this] (wr := []) (W1 := wd_X3 cI cZ cP a_this a_rows v_teams v_days v_rows) (ci := 3) ⟨hx, hb, hml, hown, hts⟩ (c_X3_turn l D cI cZ cP a_this a_rows v_teams v_days v_rows (0 : Int32) p2 r_12 hc_13) (cwV 2 hts gX3_isTurnedToDay_X3_turn rfl rfl rfl (by decide +kernel) ⟨Nat.le_of_ble_eq_true rfl, Nat.le_of_ble_eq_true rfl⟩) rfl rfl hl.1 (Nat.le_of_ble_eq_true rfl) dX3_isTurnedToDay_4 ⟨Nat.zero_le _, Nat.zero_le _⟩ hK hP hD hS hA rfl rfl [0, 1] [] [0, 1] ⟨⟨rfl, rfl, rfl⟩, by decide⟩ (fun H locs hP hD hS => ?_)
  refine lv_aload_n hx hb dX3_isTurnedToDay_7 rfl (lv_at hl 0 rfl) ?_
  refine lv_aload_n hx hb dX3_isTurnedToDay_8 rfl (lv_at hl 0 rfl) ?_
  refine lv_iload_n hx hb dX3_isTurnedToDay_9 rfl (lv_at hl 1 rfl) ?_
  refine lv_iconst (v := 0) hx hb dX3_isTurnedToDay_10 (by decide) ?_
  obtain ⟨r_14, hc_15, h⟩ := bi_some h
  refine rd_callVi [.int p1, .int (0 : Int32)] [.ref a_this, .int r_12, .ref a_this] (wr := []) (W1 := wd_X3 cI cZ cP a_this a_rows v_teams v_days v_rows) (ci := 3) ⟨hx, hb, hml, hown, hts⟩ (c_X3_partner l D cI cZ cP a_this a_rows v_teams v_days v_rows p1 (0 : Int32) r_14 hc_15) (cwV 2 hts gX3_isTurnedToDay_X3_partner rfl rfl rfl (by decide +kernel) ⟨Nat.le_of_ble_eq_true rfl, Nat.le_of_ble_eq_true rfl⟩) rfl rfl hl.1 (Nat.le_of_ble_eq_true rfl) dX3_isTurnedToDay_11 ⟨Nat.zero_le _, Nat.zero_le _⟩ hK hP hD hS hA rfl rfl [0, 1] [] [0, 1] ⟨⟨rfl, rfl, rfl⟩, by decide⟩ (fun H locs hP hD hS => ?_)
  refine lv_iload_n hx hb dX3_isTurnedToDay_14 rfl (lv_at hl 2 rfl) ?_
  obtain ⟨r_16, hc_17, h⟩ := bi_some h
  refine rd_callVi [.int r_14, .int p2] [.int r_12, .ref a_this] (wr := []) (W1 := wd_X3 cI cZ cP a_this a_rows v_teams v_days v_rows) (ci := 3) ⟨hx, hb, hml, hown, hts⟩ (c_X3_turn l D cI cZ cP a_this a_rows v_teams v_days v_rows r_14 p2 r_16 hc_17) (cwV 2 hts gX3_isTurnedToDay_X3_turn rfl rfl rfl (by decide +kernel) ⟨Nat.le_of_ble_eq_true rfl, Nat.le_of_ble_eq_true rfl⟩) rfl rfl hl.1 (Nat.le_of_ble_eq_true rfl) dX3_isTurnedToDay_15 ⟨Nat.zero_le _, Nat.zero_le _⟩ hK hP hD hS hA rfl rfl [0, 1] [] [0, 1] ⟨⟨rfl, rfl, rfl⟩, by decide⟩ (fun H locs hP hD hS => ?_)
  obtain ⟨r_18, hc_19, h⟩ := bi_some h
  refine rd_callVi [.int r_12, .int r_16] [] (wr := []) (W1 := wd_X3 cI cZ cP a_this a_rows v_teams v_days v_rows) (ci := 3) ⟨hx, hb, hml, hown, hts⟩ (c_X3_dayOf l D cI cZ cP a_this a_rows v_teams v_days v_rows r_12 r_16 r_18 hc_19) (cwV 2 hts gX3_isTurnedToDay_X3_dayOf rfl rfl rfl (by decide +kernel) ⟨Nat.le_of_ble_eq_true rfl, Nat.le_of_ble_eq_true rfl⟩) rfl rfl hl.1 (Nat.le_of_ble_eq_true rfl) dX3_isTurnedToDay_18 ⟨Nat.zero_le _, Nat.zero_le _⟩ hK hP hD hS hA rfl rfl [0, 1] [] [0, 1] ⟨⟨rfl, rfl, rfl⟩, by decide⟩ (fun H locs hP hD hS => ?_)
  refine lv_istore_n (lv' := [(3, .int r_18), (0, .ref a_this), (1, .int p1), (2, .int p2)]) hx hb dX3_isTurnedToDay_21 rfl hl (by decide) rfl (fun ls hl => ?_)
  refine lv_iload_n hx hb dX3_isTurnedToDay_22 rfl (lv_at hl 0 rfl) ?_
  refine lv_iconst (v := -1) hx hb dX3_isTurnedToDay_23 (by decide) ?_
  refine lv_icmp_ne (tgt := 29) hx hb dX3_isTurnedToDay_24 (by decide) (fun c_20 => ?_) (fun c_20 => ?_)
  · replace h := it_neg h c_20
    refine lv_iconst (v := 1) hx hb dX3_isTurnedToDay_29 (by decide) ?_
    refine lv_istore (lv' := [(4, .int (1 : Int32)), (3, .int r_18), (0, .ref a_this), (1, .int p1), (2, .int p2)]) hx hb dX3_isTurnedToDay_30 hl (by decide) rfl (fun ls hl => ?_)
    exact w32 r_18 20000 (1 : Int32) h _ _ _ hP hD hS (lv_sub hl [2, 3, 4, 1, 0] rfl)
  · replace h := it_pos h c_20
    refine lv_iconst (v := 0) hx hb dX3_isTurnedToDay_27 (by decide) ?_
    obtain rfl := inj1 h
    exact hret (by decide) dX3_isTurnedToDay_28 hP hD hS
theorem in_X3_turns_X3 : ∀ w ∈ wsX30, w ∈ wsX3_turns := by decide +kernel
def f_X3_turns_J46 (k4 : Int32 × Int32 → Option (Int32)) (v_teams : Int32) (v_days : Int32) (v_rows : Nat → Int32) : Int32 × Int32 × Int32 → Option (Int32) := fun st => match st with | (x1, x2, x3) => if x3 = 0 then bd (x2 + (1 : Int32)) (fun x2_2 => k4 (x1, x2_2)) else bd (x1 ||| ((1 : Int32) <<< (x2 &&& (31 : Int32)))) (fun x1_3 => bd (x2 + (1 : Int32)) (fun x2_4 => k4 (x1_3, x2_4)))
def f_X3_turns_L19 (k4 : Int32 × Int32 → Option (Int32)) (v_teams : Int32) (v_days : Int32) (v_rows : Nat → Int32) (x1 : Int32) (x2 : Int32) (self : Int32 × Int32 → Option (Int32)) : Int32 × Int32 → Option (Int32) := fun st => match st with | (x3, x4) => if v_days ≤ x4 then f_X3_turns_J46 k4 v_teams v_days v_rows (x1, x2, x3) else if x3 = 0 then f_X3_turns_J46 k4 v_teams v_days v_rows (x1, x2, x3) else (f_X3_isTurnedToDay v_teams v_days v_rows x4 x2).bind (fun r_7 => bd (x4 + (1 : Int32)) (fun x4_9 => self (r_7, x4_9)))
def f_X3_turns_L4 (v_teams : Int32) (v_days : Int32) (v_rows : Nat → Int32) (self : Int32 × Int32 → Option (Int32)) : Int32 × Int32 → Option (Int32) := fun st => match st with | (x1, x2) => if (v_teams - (1 : Int32)) ≤ x2 then some x1 else lp (f_X3_turns_L19 self v_teams v_days v_rows x1 x2) 20000 ((1 : Int32), (0 : Int32))
def f_X3_turns (v_teams : Int32) (v_days : Int32) (v_rows : Nat → Int32) : Option (Int32) := lp (f_X3_turns_L4 v_teams v_days v_rows) 20000 ((0 : Int32), (0 : Int32))
set_option maxHeartbeats 4000000 in
set_option maxRecDepth 100000 in
theorem c_X3_turns (l : Launch) (D : va_G) (cI cZ cP : ClassId) (a_this : Nat) (a_rows : Nat) (v_teams : Int32) (v_days : Int32) (v_rows : Nat → Int32) (r : Int32) (h : f_X3_turns v_teams v_days v_rows = some r) : rd_I l yX3_turns wsX3_turns { frames := 3, cells := 0, slots := 0, locals := 69 } [.ref a_this] D (tyA cI cZ cP) (wd_X3 cI cZ cP a_this a_rows v_teams v_days v_rows) (wd_X3 cI cZ cP a_this a_rows v_teams v_days v_rows) r := by
  unfold f_X3_turns at h
  refine rd_enterI (cc := cX3_turns) (maxL := 5) (by decide) rfl (Nat.le_of_ble_eq_true rfl) ?_
  intro p e s m args below meth c A Q ls hx hb hml hown hts hA hK hP hD hS hl hret
  have hl : lv_has ls 5 [(0, .ref a_this)] := hl
  have kw1 := hts (.fieldLink RX3 15 "RoundDays$Plan" "teams" "I") (List.mem_of_getElem? (i := 1) rfl)
  have kw2 := hts (.fieldLink RX3 19 "RoundDays$Plan" "days" "I") (List.mem_of_getElem? (i := 2) rfl)
  have w46 : ∀ k4 : Int32 × Int32 → Option (Int32), (∀ (x1 : Int32) (x2 : Int32), k4 (x1, x2) = some r → ∀ (H : Heap) (locs : List Loc) (ls : Array Slot), va_P D vwCl (wd_X3 cI cZ cP a_this a_rows v_teams v_days v_rows) H → va_D A (wd_X3 cI cZ cP a_this a_rows v_teams v_days v_rows) → va_S A s.heap H locs → lv_has ls 5 [(0, .ref a_this), (1, .int x1), (2, .int x2)] → W p l e { frames := 3, cells := 0, slots := 0, locals := 69 } s m args below meth c H locs 0 0 Q (F0 m 4 ls [])) → ∀ (x1 : Int32) (x2 : Int32) (x3 : Int32), f_X3_turns_J46 k4 v_teams v_days v_rows (x1, x2, x3) = some r → ∀ (H : Heap) (locs : List Loc) (ls : Array Slot), va_P D vwCl (wd_X3 cI cZ cP a_this a_rows v_teams v_days v_rows) H → va_D A (wd_X3 cI cZ cP a_this a_rows v_teams v_days v_rows) → va_S A s.heap H locs → lv_has ls 5 [(0, .ref a_this), (1, .int x1), (2, .int x2), (3, .int x3)] → W p l e { frames := 3, cells := 0, slots := 0, locals := 69 } s m args below meth c H locs 0 0 Q (F0 m 46 ls []) := by
    intro k4 hk4 x1 x2 x3 h H locs ls hP hD hS hl
    replace h : (if x3 = 0 then bd (x2 + (1 : Int32)) (fun x2_2 => k4 (x1, x2_2)) else bd (x1 ||| ((1 : Int32) <<< (x2 &&& (31 : Int32)))) (fun x1_3 => bd (x2 + (1 : Int32)) (fun x2_4 => k4 (x1_3, x2_4)))) = some r := h
    refine lv_iload_n hx hb dX3_turns_46 rfl (lv_at hl 3 rfl) ?_
    refine lv_if_eq (tgt := 56) hx hb dX3_turns_47 (by decide) (fun c_1 => ?_) (fun c_1 => ?_)
    · replace h := it_pos h c_1
      obtain ⟨x2_2, ex2_2, h⟩ := bd_some h
      refine lv_iinc (v := x2_2) (lv' := [(2, .int x2_2), (0, .ref a_this), (1, .int x1), (3, .int x3)]) hx hb dX3_turns_56 hl (k := 2) rfl (by rw [ex2_2]; rfl) (by decide) rfl (fun ls hl => ?_)
      refine lv_goto (tgt := 4) hx hb dX3_turns_59 (by decide) ?_
      exact hk4 x1 x2_2 h _ _ _ hP hD hS (lv_sub hl [1, 2, 0] rfl)
    · replace h := it_neg h c_1
      refine lv_iload_n hx hb dX3_turns_50 rfl (lv_at hl 1 rfl) ?_
      refine lv_iconst (v := 1) hx hb dX3_turns_51 (by decide) ?_
      refine lv_iload_n hx hb dX3_turns_52 rfl (lv_at hl 2 rfl) ?_
      refine lv_ishl hx hb dX3_turns_53 ?_
      refine lv_ior hx hb dX3_turns_54 ?_
      obtain ⟨x1_3, ex1_3, h⟩ := bd_some h
      refine rd_top ex1_3 ?_
      refine lv_istore_n (lv' := [(1, .int x1_3), (0, .ref a_this), (2, .int x2), (3, .int x3)]) hx hb dX3_turns_55 rfl hl (by decide) rfl (fun ls hl => ?_)
      obtain ⟨x2_4, ex2_4, h⟩ := bd_some h
      refine lv_iinc (v := x2_4) (lv' := [(2, .int x2_4), (1, .int x1_3), (0, .ref a_this), (3, .int x3)]) hx hb dX3_turns_56 hl (k := 2) rfl (by rw [ex2_4]; rfl) (by decide) rfl (fun ls hl => ?_)
      refine lv_goto (tgt := 4) hx hb dX3_turns_59 (by decide) ?_
      exact hk4 x1_3 x2_4 h _ _ _ hP hD hS (lv_sub hl [2, 1, 0] rfl)
  have w19 : ∀ x1 : Int32, ∀ x2 : Int32, ∀ k4 : Int32 × Int32 → Option (Int32), (∀ (x1 : Int32) (x2 : Int32), k4 (x1, x2) = some r → ∀ (H : Heap) (locs : List Loc) (ls : Array Slot), va_P D vwCl (wd_X3 cI cZ cP a_this a_rows v_teams v_days v_rows) H → va_D A (wd_X3 cI cZ cP a_this a_rows v_teams v_days v_rows) → va_S A s.heap H locs → lv_has ls 5 [(0, .ref a_this), (1, .int x1), (2, .int x2)] → W p l e { frames := 3, cells := 0, slots := 0, locals := 69 } s m args below meth c H locs 0 0 Q (F0 m 4 ls [])) → ∀ n : Nat, ∀ (x3 : Int32) (x4 : Int32), lp (f_X3_turns_L19 k4 v_teams v_days v_rows x1 x2) n (x3, x4) = some r → ∀ (H : Heap) (locs : List Loc) (ls : Array Slot), va_P D vwCl (wd_X3 cI cZ cP a_this a_rows v_teams v_days v_rows) H → va_D A (wd_X3 cI cZ cP a_this a_rows v_teams v_days v_rows) → va_S A s.heap H locs → lv_has ls 5 [(0, .ref a_this), (1, .int x1), (2, .int x2), (3, .int x3), (4, .int x4)] → W p l e { frames := 3, cells := 0, slots := 0, locals := 69 } s m args below meth c H locs 0 0 Q (F0 m 19 ls []) := by
    intro x1 x2 k4 hk4
    refine fun n x3 x4 h => lp_walk (b := f_X3_turns_L19 k4 v_teams v_days v_rows x1 x2) (r := r) (P := fun st => match st with | (x3, x4) => ∀ (H : Heap) (locs : List Loc) (ls : Array Slot), va_P D vwCl (wd_X3 cI cZ cP a_this a_rows v_teams v_days v_rows) H → va_D A (wd_X3 cI cZ cP a_this a_rows v_teams v_days v_rows) → va_S A s.heap H locs → lv_has ls 5 [(0, .ref a_this), (1, .int x1), (2, .int x2), (3, .int x3), (4, .int x4)] → W p l e { frames := 3, cells := 0, slots := 0, locals := 69 } s m args below meth c H locs 0 0 Q (F0 m 19 ls [])) (fun self hself0 st h => ?_) n (x3, x4) h
    obtain ⟨x3, x4⟩ := st
    have hself : ∀ (x3 : Int32) (x4 : Int32), self (x3, x4) = some r → ∀ (H : Heap) (locs : List Loc) (ls : Array Slot), va_P D vwCl (wd_X3 cI cZ cP a_this a_rows v_teams v_days v_rows) H → va_D A (wd_X3 cI cZ cP a_this a_rows v_teams v_days v_rows) → va_S A s.heap H locs → lv_has ls 5 [(0, .ref a_this), (1, .int x1), (2, .int x2), (3, .int x3), (4, .int x4)] → W p l e { frames := 3, cells := 0, slots := 0, locals := 69 } s m args below meth c H locs 0 0 Q (F0 m 19 ls []) := fun x3 x4 h => hself0 (x3, x4) h
    clear hself0
    intro H locs ls hP hD hS hl
    replace h : (if v_days ≤ x4 then f_X3_turns_J46 k4 v_teams v_days v_rows (x1, x2, x3) else if x3 = 0 then f_X3_turns_J46 k4 v_teams v_days v_rows (x1, x2, x3) else (f_X3_isTurnedToDay v_teams v_days v_rows x4 x2).bind (fun r_7 => bd (x4 + (1 : Int32)) (fun x4_9 => self (r_7, x4_9)))) = some r := h
    refine lv_iload hx hb dX3_turns_19 (lv_at hl 4 rfl) ?_
    refine lv_aload_n hx hb dX3_turns_21 rfl (lv_at hl 0 rfl) ?_
    refine va_get (D := D) (ci := 3) (v := .int v_days) (C := RX3) (T := TX3) (N := 3) hx hb hts in_X3_turns_X3 hown hK hP 0 rfl rfl 1 (by decide) kw2 (fun _ h9 => h9) rfl dX3_turns_22 ?_
    refine lv_icmp_ge (tgt := 46) hx hb dX3_turns_25 (by decide) (fun c_5 => ?_) (fun c_5 => ?_)
    · replace h := it_pos h c_5
      exact w46 _ hk4 x1 x2 x3 h _ _ _ hP hD hS (lv_sub hl [0, 1, 2, 3] rfl)
    · replace h := it_neg h c_5
      refine lv_iload_n hx hb dX3_turns_28 rfl (lv_at hl 3 rfl) ?_
      refine lv_if_eq (tgt := 46) hx hb dX3_turns_29 (by decide) (fun c_6 => ?_) (fun c_6 => ?_)
      · replace h := it_pos h c_6
        exact w46 _ hk4 x1 x2 x3 h _ _ _ hP hD hS (lv_sub hl [0, 1, 2, 3] rfl)
      · replace h := it_neg h c_6
        refine lv_aload_n hx hb dX3_turns_32 rfl (lv_at hl 0 rfl) ?_
        refine lv_iload hx hb dX3_turns_33 (lv_at hl 4 rfl) ?_
        refine lv_iload_n hx hb dX3_turns_35 rfl (lv_at hl 2 rfl) ?_
        obtain ⟨r_7, hc_8, h⟩ := bi_some h
        refine rd_callVi [.int x4, .int x2] [] (wr := []) (W1 := wd_X3 cI cZ cP a_this a_rows v_teams v_days v_rows) (ci := 3) ⟨hx, hb, hml, hown, hts⟩ (c_X3_isTurnedToDay l D cI cZ cP a_this a_rows v_teams v_days v_rows x4 x2 r_7 hc_8) (cwV 2 hts gX3_turns_X3_isTurnedToDay rfl rfl rfl (by decide +kernel) ⟨Nat.le_of_ble_eq_true rfl, Nat.le_of_ble_eq_true rfl⟩) rfl rfl hl.1 (Nat.le_of_ble_eq_true rfl) dX3_turns_36 ⟨Nat.zero_le _, Nat.zero_le _⟩ hK hP hD hS hA rfl rfl [0, 1] [] [0, 1] ⟨⟨rfl, rfl, rfl⟩, by decide⟩ (fun H locs hP hD hS => ?_)
        refine lv_istore_n (lv' := [(3, .int r_7), (0, .ref a_this), (1, .int x1), (2, .int x2), (4, .int x4)]) hx hb dX3_turns_39 rfl hl (by decide) rfl (fun ls hl => ?_)
        obtain ⟨x4_9, ex4_9, h⟩ := bd_some h
        refine lv_iinc (v := x4_9) (lv' := [(4, .int x4_9), (3, .int r_7), (0, .ref a_this), (1, .int x1), (2, .int x2)]) hx hb dX3_turns_40 hl (k := 4) rfl (by rw [ex4_9]; rfl) (by decide) rfl (fun ls hl => ?_)
        refine lv_goto (tgt := 19) hx hb dX3_turns_43 (by decide) ?_
        exact hself r_7 x4_9 h _ _ _ hP hD hS (lv_sub hl [2, 3, 4, 1, 0] rfl)
  have w4 : ∀ n : Nat, ∀ (x1 : Int32) (x2 : Int32), lp (f_X3_turns_L4 v_teams v_days v_rows) n (x1, x2) = some r → ∀ (H : Heap) (locs : List Loc) (ls : Array Slot), va_P D vwCl (wd_X3 cI cZ cP a_this a_rows v_teams v_days v_rows) H → va_D A (wd_X3 cI cZ cP a_this a_rows v_teams v_days v_rows) → va_S A s.heap H locs → lv_has ls 5 [(0, .ref a_this), (1, .int x1), (2, .int x2)] → W p l e { frames := 3, cells := 0, slots := 0, locals := 69 } s m args below meth c H locs 0 0 Q (F0 m 4 ls []) := by
    refine fun n x1 x2 h => lp_walk (b := f_X3_turns_L4 v_teams v_days v_rows) (r := r) (P := fun st => match st with | (x1, x2) => ∀ (H : Heap) (locs : List Loc) (ls : Array Slot), va_P D vwCl (wd_X3 cI cZ cP a_this a_rows v_teams v_days v_rows) H → va_D A (wd_X3 cI cZ cP a_this a_rows v_teams v_days v_rows) → va_S A s.heap H locs → lv_has ls 5 [(0, .ref a_this), (1, .int x1), (2, .int x2)] → W p l e { frames := 3, cells := 0, slots := 0, locals := 69 } s m args below meth c H locs 0 0 Q (F0 m 4 ls [])) (fun self hself0 st h => ?_) n (x1, x2) h
    obtain ⟨x1, x2⟩ := st
    have hself : ∀ (x1 : Int32) (x2 : Int32), self (x1, x2) = some r → ∀ (H : Heap) (locs : List Loc) (ls : Array Slot), va_P D vwCl (wd_X3 cI cZ cP a_this a_rows v_teams v_days v_rows) H → va_D A (wd_X3 cI cZ cP a_this a_rows v_teams v_days v_rows) → va_S A s.heap H locs → lv_has ls 5 [(0, .ref a_this), (1, .int x1), (2, .int x2)] → W p l e { frames := 3, cells := 0, slots := 0, locals := 69 } s m args below meth c H locs 0 0 Q (F0 m 4 ls []) := fun x1 x2 h => hself0 (x1, x2) h
    clear hself0
    intro H locs ls hP hD hS hl
    replace h : (if (v_teams - (1 : Int32)) ≤ x2 then some x1 else lp (f_X3_turns_L19 self v_teams v_days v_rows x1 x2) 20000 ((1 : Int32), (0 : Int32))) = some r := h
    refine lv_iload_n hx hb dX3_turns_4 rfl (lv_at hl 2 rfl) ?_
    refine lv_aload_n hx hb dX3_turns_5 rfl (lv_at hl 0 rfl) ?_
    refine va_get (D := D) (ci := 3) (v := .int v_teams) (C := RX3) (T := TX3) (N := 3) hx hb hts in_X3_turns_X3 hown hK hP 0 rfl rfl 0 (by decide) kw1 (fun _ h9 => h9) rfl dX3_turns_6 ?_
    refine lv_iconst (v := 1) hx hb dX3_turns_9 (by decide) ?_
    refine lv_isub hx hb dX3_turns_10 ?_
    refine lv_icmp_ge (tgt := 62) hx hb dX3_turns_11 (by decide) (fun c_10 => ?_) (fun c_10 => ?_)
    · replace h := it_pos h c_10
      refine lv_iload_n hx hb dX3_turns_62 rfl (lv_at hl 1 rfl) ?_
      obtain rfl := inj1 h
      exact hret dX3_turns_63 hP hD hS
    · replace h := it_neg h c_10
      refine lv_iconst (v := 1) hx hb dX3_turns_14 (by decide) ?_
      refine lv_istore_n (lv' := [(3, .int (1 : Int32)), (0, .ref a_this), (1, .int x1), (2, .int x2)]) hx hb dX3_turns_15 rfl hl (by decide) rfl (fun ls hl => ?_)
      refine lv_iconst (v := 0) hx hb dX3_turns_16 (by decide) ?_
      refine lv_istore (lv' := [(4, .int (0 : Int32)), (3, .int (1 : Int32)), (0, .ref a_this), (1, .int x1), (2, .int x2)]) hx hb dX3_turns_17 hl (by decide) rfl (fun ls hl => ?_)
      exact w19 x1 x2 _ hself 20000 (1 : Int32) (0 : Int32) h _ _ _ hP hD hS (lv_sub hl [2, 3, 4, 1, 0] rfl)
  refine lv_iconst (v := 0) hx hb dX3_turns_0 (by decide) ?_
  refine lv_istore_n (lv' := [(1, .int (0 : Int32)), (0, .ref a_this)]) hx hb dX3_turns_1 rfl hl (by decide) rfl (fun ls hl => ?_)
  refine lv_iconst (v := 0) hx hb dX3_turns_2 (by decide) ?_
  refine lv_istore_n (lv' := [(2, .int (0 : Int32)), (1, .int (0 : Int32)), (0, .ref a_this)]) hx hb dX3_turns_3 rfl hl (by decide) rfl (fun ls hl => ?_)
  exact w4 20000 (0 : Int32) (0 : Int32) h _ _ _ hP hD hS (lv_sub hl [2, 1, 0] rfl)
theorem in_X3_fillWheel_X3 : ∀ w ∈ wsX30, w ∈ wsX3_fillWheel := by decide +kernel
def f_X3_fillWheel_L43 (k28 : Int32 × (Nat → Int32) → Option (Int32 × Int32 × (Nat → Int32))) (p1 : Int32) (x2 : Int32) (x3 : Int32) (v_teams : Int32) (v_days : Int32) (self : Int32 × (Nat → Int32) → Option (Int32 × Int32 × (Nat → Int32))) : Int32 × (Nat → Int32) → Option (Int32 × Int32 × (Nat → Int32)) := fun st => match st with | (x4, v_rows) => if (p1 / (2 : Int32)) ≤ x4 then bd (x3 + (1 : Int32)) (fun x3_2 => k28 (x3_2, v_rows)) else if ¬ x2 = 0 then if ¬ x2 = 0 then (f_X3_pair v_teams v_days v_rows x3 ((x3 + x4) - (x3 + x4) / x2 * x2) (((x3 + x2) - x4) - ((x3 + x2) - x4) / x2 * x2)).bind (fun v_rows_5 => bd (x4 + (1 : Int32)) (fun x4_7 => self (x4_7, v_rows_5))) else none else none
def f_X3_fillWheel_L28 (p1 : Int32) (x2 : Int32) (v_teams : Int32) (v_days : Int32) (self : Int32 × (Nat → Int32) → Option (Int32 × Int32 × (Nat → Int32))) : Int32 × (Nat → Int32) → Option (Int32 × Int32 × (Nat → Int32)) := fun st => match st with | (x3, v_rows) => if x2 ≤ x3 then some (v_teams, v_days, v_rows) else (f_X3_pair v_teams v_days v_rows x3 x2 x3).bind (fun v_rows_9 => lp (f_X3_fillWheel_L43 self p1 x2 x3 v_teams v_days) 20000 ((1 : Int32), v_rows_9))
def f_X3_fillWheel (v_teams : Int32) (v_days : Int32) (v_rows : Nat → Int32) (p1 : Int32) : Option (Int32 × Int32 × (Nat → Int32)) := bd (p1 - (1 : Int32)) (fun x2_11 => if x2_11 < (1 : Int32) then some (v_teams, v_days, v_rows) else if x2_11 ≤ (13 : Int32) then (f_X3_clear v_teams v_days p1).bind (fun t => match t with | (v_teams_14, v_days_15) => lp (f_X3_fillWheel_L28 p1 x2_11 v_teams_14 x2_11) 20000 ((0 : Int32), v_rows)) else some (v_teams, v_days, v_rows))
set_option maxHeartbeats 4000000 in
set_option maxRecDepth 100000 in
theorem c_X3_fillWheel (l : Launch) (D : va_G) (cI cZ cP : ClassId) (a_this : Nat) (a_rows : Nat) (v_teams : Int32) (v_days : Int32) (v_rows : Nat → Int32) (p1 : Int32) (nv_teams : Int32) (nv_days : Int32) (nv_rows : Nat → Int32) (h : f_X3_fillWheel v_teams v_days v_rows p1 = some (nv_teams, nv_days, nv_rows)) : rd_V l yX3_fillWheel wsX3_fillWheel { frames := 2, cells := 0, slots := 0, locals := 45 } [.ref a_this, .int p1] D (tyA cI cZ cP) (wd_X3 cI cZ cP a_this a_rows v_teams v_days v_rows) (wd_X3 cI cZ cP a_this a_rows nv_teams nv_days nv_rows) := by
  unfold f_X3_fillWheel at h
  refine rd_enterV (cc := cX3_fillWheel) (maxL := 5) (by decide) rfl (Nat.le_of_ble_eq_true rfl) ?_
  intro p e s m args below meth c A Q ls hx hb hml hown hts hA hK hP hD hS hl hret
  have hl : lv_has ls 5 [(0, .ref a_this), (1, .int p1)] := hl
  have kw1 := hts (.fieldLink RX3 19 "RoundDays$Plan" "days" "I") (List.mem_of_getElem? (i := 1) rfl)
  have w43 : ∀ x2 : Int32, ∀ x3 : Int32, ∀ v_teams : Int32, ∀ v_days : Int32, ∀ k28 : Int32 × (Nat → Int32) → Option (Int32 × Int32 × (Nat → Int32)), (∀ (x3 : Int32) (v_rows : Nat → Int32), k28 (x3, v_rows) = some (nv_teams, nv_days, nv_rows) → ∀ (H : Heap) (locs : List Loc) (ls : Array Slot), va_P D vwCl (wd_X3 cI cZ cP a_this a_rows v_teams v_days v_rows) H → va_D A (wd_X3 cI cZ cP a_this a_rows v_teams v_days v_rows) → va_S A s.heap H locs → lv_has ls 5 [(0, .ref a_this), (1, .int p1), (2, .int x2), (3, .int x3)] → W p l e { frames := 2, cells := 0, slots := 0, locals := 45 } s m args below meth c H locs 0 0 Q (F0 m 28 ls [])) → ∀ n : Nat, ∀ (x4 : Int32) (v_rows : Nat → Int32), lp (f_X3_fillWheel_L43 k28 p1 x2 x3 v_teams v_days) n (x4, v_rows) = some (nv_teams, nv_days, nv_rows) → ∀ (H : Heap) (locs : List Loc) (ls : Array Slot), va_P D vwCl (wd_X3 cI cZ cP a_this a_rows v_teams v_days v_rows) H → va_D A (wd_X3 cI cZ cP a_this a_rows v_teams v_days v_rows) → va_S A s.heap H locs → lv_has ls 5 [(0, .ref a_this), (1, .int p1), (2, .int x2), (3, .int x3), (4, .int x4)] → W p l e { frames := 2, cells := 0, slots := 0, locals := 45 } s m args below meth c H locs 0 0 Q (F0 m 43 ls []) := by
    intro x2 x3 v_teams v_days k28 hk28
    refine fun n x4 v_rows h => lp_walk (b := f_X3_fillWheel_L43 k28 p1 x2 x3 v_teams v_days) (r := (nv_teams, nv_days, nv_rows)) (P := fun st => match st with | (x4, v_rows) => ∀ (H : Heap) (locs : List Loc) (ls : Array Slot), va_P D vwCl (wd_X3 cI cZ cP a_this a_rows v_teams v_days v_rows) H → va_D A (wd_X3 cI cZ cP a_this a_rows v_teams v_days v_rows) → va_S A s.heap H locs → lv_has ls 5 [(0, .ref a_this), (1, .int p1), (2, .int x2), (3, .int x3), (4, .int x4)] → W p l e { frames := 2, cells := 0, slots := 0, locals := 45 } s m args below meth c H locs 0 0 Q (F0 m 43 ls [])) (fun self hself0 st h => ?_) n (x4, v_rows) h
    obtain ⟨x4, v_rows⟩ := st
    have hself : ∀ (x4 : Int32) (v_rows : Nat → Int32), self (x4, v_rows) = some (nv_teams, nv_days, nv_rows) → ∀ (H : Heap) (locs : List Loc) (ls : Array Slot), va_P D vwCl (wd_X3 cI cZ cP a_this a_rows v_teams v_days v_rows) H → va_D A (wd_X3 cI cZ cP a_this a_rows v_teams v_days v_rows) → va_S A s.heap H locs → lv_has ls 5 [(0, .ref a_this), (1, .int p1), (2, .int x2), (3, .int x3), (4, .int x4)] → W p l e { frames := 2, cells := 0, slots := 0, locals := 45 } s m args below meth c H locs 0 0 Q (F0 m 43 ls []) := fun x4 v_rows h => hself0 (x4, v_rows) h
    clear hself0
    intro H locs ls hP hD hS hl
    replace h : (if (p1 / (2 : Int32)) ≤ x4 then bd (x3 + (1 : Int32)) (fun x3_2 => k28 (x3_2, v_rows)) else if ¬ x2 = 0 then if ¬ x2 = 0 then (f_X3_pair v_teams v_days v_rows x3 ((x3 + x4) - (x3 + x4) / x2 * x2) (((x3 + x2) - x4) - ((x3 + x2) - x4) / x2 * x2)).bind (fun v_rows_5 => bd (x4 + (1 : Int32)) (fun x4_7 => self (x4_7, v_rows_5))) else none else none) = some (nv_teams, nv_days, nv_rows) := h
    refine lv_iload hx hb dX3_fillWheel_43 (lv_at hl 4 rfl) ?_
    refine lv_iload_n hx hb dX3_fillWheel_45 rfl (lv_at hl 1 rfl) ?_
    refine lv_iconst (v := 2) hx hb dX3_fillWheel_46 (by decide) ?_
    refine lv_idiv hx hb dX3_fillWheel_47 (by decide) ?_
    refine lv_icmp_ge (tgt := 76) hx hb dX3_fillWheel_48 (by decide) (fun c_1 => ?_) (fun c_1 => ?_)
    · replace h := it_pos h c_1
      obtain ⟨x3_2, ex3_2, h⟩ := bd_some h
      refine lv_iinc (v := x3_2) (lv' := [(3, .int x3_2), (0, .ref a_this), (1, .int p1), (2, .int x2), (4, .int x4)]) hx hb dX3_fillWheel_76 hl (k := 3) rfl (by rw [ex3_2]; rfl) (by decide) rfl (fun ls hl => ?_)
      refine lv_goto (tgt := 28) hx hb dX3_fillWheel_79 (by decide) ?_
      exact hk28 x3_2 v_rows h _ _ _ hP hD hS (lv_sub hl [1, 2, 3, 0] rfl)
    · replace h := it_neg h c_1
      refine lv_aload_n hx hb dX3_fillWheel_51 rfl (lv_at hl 0 rfl) ?_
      refine lv_iload_n hx hb dX3_fillWheel_52 rfl (lv_at hl 3 rfl) ?_
      refine lv_iload_n hx hb dX3_fillWheel_53 rfl (lv_at hl 3 rfl) ?_
      refine lv_iload hx hb dX3_fillWheel_54 (lv_at hl 4 rfl) ?_
      refine lv_iadd hx hb dX3_fillWheel_56 ?_
      refine lv_iload_n hx hb dX3_fillWheel_57 rfl (lv_at hl 2 rfl) ?_
      obtain ⟨hz_3, h⟩ := gd_some h
      refine lv_irem hx hb dX3_fillWheel_58 hz_3 ?_
      refine lv_iload_n hx hb dX3_fillWheel_59 rfl (lv_at hl 3 rfl) ?_
      refine lv_iload_n hx hb dX3_fillWheel_60 rfl (lv_at hl 2 rfl) ?_
      refine lv_iadd hx hb dX3_fillWheel_61 ?_
      refine lv_iload hx hb dX3_fillWheel_62 (lv_at hl 4 rfl) ?_
      refine lv_isub hx hb dX3_fillWheel_64 ?_
      refine lv_iload_n hx hb dX3_fillWheel_65 rfl (lv_at hl 2 rfl) ?_
      obtain ⟨hz_4, h⟩ := gd_some h
      refine lv_irem hx hb dX3_fillWheel_66 hz_4 ?_
      obtain ⟨v_rows_5, hc_6, h⟩ := bi_some h
      refine rd_callVv [.int x3, .int ((x3 + x4) - (x3 + x4) / x2 * x2), .int (((x3 + x2) - x4) - ((x3 + x2) - x4) / x2 * x2)] [] (wr := []) (W1 := wd_X3 cI cZ cP a_this a_rows v_teams v_days v_rows_5) (ci := 3) ⟨hx, hb, hml, hown, hts⟩ (c_X3_pair l D cI cZ cP a_this a_rows v_teams v_days v_rows x3 ((x3 + x4) - (x3 + x4) / x2 * x2) (((x3 + x2) - x4) - ((x3 + x2) - x4) / x2 * x2) v_rows_5 hc_6) (cwV 3 hts gX3_fillWheel_X3_pair rfl rfl rfl (by decide +kernel) ⟨Nat.le_of_ble_eq_true rfl, Nat.le_of_ble_eq_true rfl⟩) rfl rfl hl.1 (Nat.le_of_ble_eq_true rfl) dX3_fillWheel_67 ⟨Nat.zero_le _, Nat.zero_le _⟩ hK hP hD hS hA rfl rfl [0, 1] [] [0, 1] ⟨⟨rfl, rfl, rfl⟩, by decide⟩ (fun H locs hP hD hS => ?_)
      obtain ⟨x4_7, ex4_7, h⟩ := bd_some h
      refine lv_iinc (v := x4_7) (lv' := [(4, .int x4_7), (0, .ref a_this), (1, .int p1), (2, .int x2), (3, .int x3)]) hx hb dX3_fillWheel_70 hl (k := 4) rfl (by rw [ex4_7]; rfl) (by decide) rfl (fun ls hl => ?_)
      refine lv_goto (tgt := 43) hx hb dX3_fillWheel_73 (by decide) ?_
      exact hself x4_7 v_rows_5 h _ _ _ hP hD hS (lv_sub hl [1, 2, 3, 4, 0] rfl)
  have w28 : ∀ x2 : Int32, ∀ v_teams : Int32, ∀ v_days : Int32, ∀ n : Nat, ∀ (x3 : Int32) (v_rows : Nat → Int32), lp (f_X3_fillWheel_L28 p1 x2 v_teams v_days) n (x3, v_rows) = some (nv_teams, nv_days, nv_rows) → ∀ (H : Heap) (locs : List Loc) (ls : Array Slot), va_P D vwCl (wd_X3 cI cZ cP a_this a_rows v_teams v_days v_rows) H → va_D A (wd_X3 cI cZ cP a_this a_rows v_teams v_days v_rows) → va_S A s.heap H locs → lv_has ls 5 [(0, .ref a_this), (1, .int p1), (2, .int x2), (3, .int x3)] → W p l e { frames := 2, cells := 0, slots := 0, locals := 45 } s m args below meth c H locs 0 0 Q (F0 m 28 ls []) := by
    intro x2 v_teams v_days
    refine fun n x3 v_rows h => lp_walk (b := f_X3_fillWheel_L28 p1 x2 v_teams v_days) (r := (nv_teams, nv_days, nv_rows)) (P := fun st => match st with | (x3, v_rows) => ∀ (H : Heap) (locs : List Loc) (ls : Array Slot), va_P D vwCl (wd_X3 cI cZ cP a_this a_rows v_teams v_days v_rows) H → va_D A (wd_X3 cI cZ cP a_this a_rows v_teams v_days v_rows) → va_S A s.heap H locs → lv_has ls 5 [(0, .ref a_this), (1, .int p1), (2, .int x2), (3, .int x3)] → W p l e { frames := 2, cells := 0, slots := 0, locals := 45 } s m args below meth c H locs 0 0 Q (F0 m 28 ls [])) (fun self hself0 st h => ?_) n (x3, v_rows) h
    obtain ⟨x3, v_rows⟩ := st
    have hself : ∀ (x3 : Int32) (v_rows : Nat → Int32), self (x3, v_rows) = some (nv_teams, nv_days, nv_rows) → ∀ (H : Heap) (locs : List Loc) (ls : Array Slot), va_P D vwCl (wd_X3 cI cZ cP a_this a_rows v_teams v_days v_rows) H → va_D A (wd_X3 cI cZ cP a_this a_rows v_teams v_days v_rows) → va_S A s.heap H locs → lv_has ls 5 [(0, .ref a_this), (1, .int p1), (2, .int x2), (3, .int x3)] → W p l e { frames := 2, cells := 0, slots := 0, locals := 45 } s m args below meth c H locs 0 0 Q (F0 m 28 ls []) := fun x3 v_rows h => hself0 (x3, v_rows) h
    clear hself0
    intro H locs ls hP hD hS hl
    replace h : (if x2 ≤ x3 then some (v_teams, v_days, v_rows) else (f_X3_pair v_teams v_days v_rows x3 x2 x3).bind (fun v_rows_9 => lp (f_X3_fillWheel_L43 self p1 x2 x3 v_teams v_days) 20000 ((1 : Int32), v_rows_9))) = some (nv_teams, nv_days, nv_rows) := h
    refine lv_iload_n hx hb dX3_fillWheel_28 rfl (lv_at hl 3 rfl) ?_
    refine lv_iload_n hx hb dX3_fillWheel_29 rfl (lv_at hl 2 rfl) ?_
    refine lv_icmp_ge (tgt := 82) hx hb dX3_fillWheel_30 (by decide) (fun c_8 => ?_) (fun c_8 => ?_)
    · replace h := it_pos h c_8
      obtain ⟨rfl, rfl, rfl⟩ := inj3 h
      exact hret dX3_fillWheel_82 hP hD hS
    · replace h := it_neg h c_8
      refine lv_aload_n hx hb dX3_fillWheel_33 rfl (lv_at hl 0 rfl) ?_
      refine lv_iload_n hx hb dX3_fillWheel_34 rfl (lv_at hl 3 rfl) ?_
      refine lv_iload_n hx hb dX3_fillWheel_35 rfl (lv_at hl 2 rfl) ?_
      refine lv_iload_n hx hb dX3_fillWheel_36 rfl (lv_at hl 3 rfl) ?_
      obtain ⟨v_rows_9, hc_10, h⟩ := bi_some h
      refine rd_callVv [.int x3, .int x2, .int x3] [] (wr := []) (W1 := wd_X3 cI cZ cP a_this a_rows v_teams v_days v_rows_9) (ci := 3) ⟨hx, hb, hml, hown, hts⟩ (c_X3_pair l D cI cZ cP a_this a_rows v_teams v_days v_rows x3 x2 x3 v_rows_9 hc_10) (cwV 3 hts gX3_fillWheel_X3_pair rfl rfl rfl (by decide +kernel) ⟨Nat.le_of_ble_eq_true rfl, Nat.le_of_ble_eq_true rfl⟩) rfl rfl hl.1 (Nat.le_of_ble_eq_true rfl) dX3_fillWheel_37 ⟨Nat.zero_le _, Nat.zero_le _⟩ hK hP hD hS hA rfl rfl [0, 1] [] [0, 1] ⟨⟨rfl, rfl, rfl⟩, by decide⟩ (fun H locs hP hD hS => ?_)
      refine lv_iconst (v := 1) hx hb dX3_fillWheel_40 (by decide) ?_
      refine lv_istore (lv' := [(4, .int (1 : Int32)), (0, .ref a_this), (1, .int p1), (2, .int x2), (3, .int x3)]) hx hb dX3_fillWheel_41 hl (by decide) rfl (fun ls hl => ?_)
      exact w43 x2 x3 v_teams v_days _ hself 20000 (1 : Int32) v_rows_9 h _ _ _ hP hD hS (lv_sub hl [1, 2, 3, 4, 0] rfl)
  refine lv_iload_n hx hb dX3_fillWheel_0 rfl (lv_at hl 1 rfl) ?_
  refine lv_iconst (v := 1) hx hb dX3_fillWheel_1 (by decide) ?_
  refine lv_isub hx hb dX3_fillWheel_2 ?_
  obtain ⟨x2_11, ex2_11, h⟩ := bd_some h
  refine rd_top ex2_11 ?_
  refine lv_istore_n (lv' := [(2, .int x2_11), (0, .ref a_this), (1, .int p1)]) hx hb dX3_fillWheel_3 rfl hl (by decide) rfl (fun ls hl => ?_)
  refine lv_iload_n hx hb dX3_fillWheel_4 rfl (lv_at hl 0 rfl) ?_
  refine lv_iconst (v := 1) hx hb dX3_fillWheel_5 (by decide) ?_
  refine lv_icmp_lt (tgt := 15) hx hb dX3_fillWheel_6 (by decide) (fun c_12 => ?_) (fun c_12 => ?_)
  · replace h := it_pos h c_12
    obtain ⟨rfl, rfl, rfl⟩ := inj3 h
    exact hret dX3_fillWheel_15 hP hD hS
  · replace h := it_neg h c_12
    refine lv_iload_n hx hb dX3_fillWheel_9 rfl (lv_at hl 0 rfl) ?_
    refine lv_bipush (v := 13) hx hb dX3_fillWheel_10 (by decide) ?_
    refine lv_icmp_le (tgt := 16) hx hb dX3_fillWheel_12 (by decide) (fun c_13 => ?_) (fun c_13 => ?_)
    · replace h := it_pos h c_13
      refine lv_aload_n hx hb dX3_fillWheel_16 rfl (lv_at hl 1 rfl) ?_
      refine lv_iload_n hx hb dX3_fillWheel_17 rfl (lv_at hl 2 rfl) ?_
      obtain ⟨⟨v_teams_14, v_days_15⟩, hc_16, h⟩ := bi_some h
      refine rd_callVv [.int p1] [] (wr := []) (W1 := wd_X3 cI cZ cP a_this a_rows v_teams_14 v_days_15 v_rows) (ci := 3) ⟨hx, hb, hml, hown, hts⟩ (c_X3_clear l D cI cZ cP a_this a_rows v_teams v_days v_rows p1 v_teams_14 v_days_15 hc_16) (cwV 1 hts gX3_fillWheel_X3_clear rfl rfl rfl (by decide +kernel) ⟨Nat.le_of_ble_eq_true rfl, Nat.le_of_ble_eq_true rfl⟩) rfl rfl hl.1 (Nat.le_of_ble_eq_true rfl) dX3_fillWheel_18 ⟨Nat.zero_le _, Nat.zero_le _⟩ hK hP hD hS hA rfl rfl [0, 1] [] [0, 1] ⟨⟨rfl, rfl, rfl⟩, by decide⟩ (fun H locs hP hD hS => ?_)
      refine lv_aload_n hx hb dX3_fillWheel_21 rfl (lv_at hl 1 rfl) ?_
      refine lv_iload_n hx hb dX3_fillWheel_22 rfl (lv_at hl 0 rfl) ?_
      refine rd_put (W1 := wd_X3 cI cZ cP a_this a_rows v_teams_14 x2_11 v_rows) (C := RX3) (T := TX3) (N := 3) (ci := 3) hx hb hts in_X3_fillWheel_X3 tyX3 tyX3_ok nmX3 hown hK hP hD hS 0 rfl rfl 1 (by decide) kw1 (fun _ h9 => h9) rfl rfl rfl (Nat.le_of_ble_eq_true rfl) rfl dX3_fillWheel_23 (fun H locs hP hD hS => ?_)
      refine lv_iconst (v := 0) hx hb dX3_fillWheel_26 (by decide) ?_
      refine lv_istore_n (lv' := [(3, .int (0 : Int32)), (2, .int x2_11), (0, .ref a_this), (1, .int p1)]) hx hb dX3_fillWheel_27 rfl hl (by decide) rfl (fun ls hl => ?_)
      exact w28 x2_11 v_teams_14 x2_11 20000 (0 : Int32) v_rows h _ _ _ hP hD hS (lv_sub hl [2, 3, 1, 0] rfl)
    · replace h := it_neg h c_13
      obtain ⟨rfl, rfl, rfl⟩ := inj3 h
      exact hret dX3_fillWheel_15 hP hD hS
theorem in_X3_fillTwins_X3 : ∀ w ∈ wsX30, w ∈ wsX3_fillTwins := by decide +kernel
def f_X3_fillTwins_L47 (k30 : Int32 × (Nat → Int32) → Option (Int32 × Int32 × (Nat → Int32))) (p1 : Int32) (x2 : Int32) (x3 : Int32) (v_teams : Int32) (v_days : Int32) (self : Int32 × (Nat → Int32) → Option (Int32 × Int32 × (Nat → Int32))) : Int32 × (Nat → Int32) → Option (Int32 × Int32 × (Nat → Int32)) := fun st => match st with | (x4, v_rows) => if p1 ≤ x4 then bd (x3 + (1 : Int32)) (fun x3_2 => k30 (x3_2, v_rows)) else if ¬ p1 = 0 then (f_X3_pair v_teams v_days v_rows x3 x4 (((((2 : Int32) * x3) + p1) - x4) - ((((2 : Int32) * x3) + p1) - x4) / p1 * p1)).bind (fun v_rows_4 => bd (x4 + (1 : Int32)) (fun x4_6 => self (x4_6, v_rows_4))) else none
def f_X3_fillTwins_L102 (k87 : Int32 × Int32 × (Nat → Int32) → Option (Int32 × Int32 × (Nat → Int32))) (p1 : Int32) (x2 : Int32) (x3 : Int32) (x4 : Int32) (v_teams : Int32) (v_days : Int32) (self : Int32 × (Nat → Int32) → Option (Int32 × Int32 × (Nat → Int32))) : Int32 × (Nat → Int32) → Option (Int32 × Int32 × (Nat → Int32)) := fun st => match st with | (x5, v_rows) => if p1 ≤ x5 then bd (x3 + (1 : Int32)) (fun x3_8 => bd (x4 + (2 : Int32)) (fun x4_9 => k87 (x3_8, x4_9, v_rows))) else if ¬ p1 = 0 then (f_X3_pair v_teams v_days v_rows x3 x5 ((x5 + x4) - (x5 + x4) / p1 * p1)).bind (fun v_rows_11 => bd (x5 + (2 : Int32)) (fun x5_13 => self (x5_13, v_rows_11))) else none
def f_X3_fillTwins_L87 (p1 : Int32) (x2 : Int32) (v_teams : Int32) (v_days : Int32) (self : Int32 × Int32 × (Nat → Int32) → Option (Int32 × Int32 × (Nat → Int32))) : Int32 × Int32 × (Nat → Int32) → Option (Int32 × Int32 × (Nat → Int32)) := fun st => match st with | (x3, x4, v_rows) => if p1 ≤ x4 then some (v_teams, v_days, v_rows) else if x4 = x2 then bd (x4 + (2 : Int32)) (fun x4_16 => self (x3, x4_16, v_rows)) else lp (f_X3_fillTwins_L102 self p1 x2 x3 x4 v_teams v_days) 20000 ((0 : Int32), v_rows)
def f_X3_fillTwins_L30 (p1 : Int32) (x2 : Int32) (v_teams : Int32) (v_days : Int32) (self : Int32 × (Nat → Int32) → Option (Int32 × Int32 × (Nat → Int32))) : Int32 × (Nat → Int32) → Option (Int32 × Int32 × (Nat → Int32)) := fun st => match st with | (x3, v_rows) => if x2 ≤ x3 then lp (f_X3_fillTwins_L87 p1 x2 v_teams v_days) 20000 (x2, (1 : Int32), v_rows) else (f_X3_pair v_teams v_days v_rows x3 x3 (x3 + x2)).bind (fun v_rows_18 => lp (f_X3_fillTwins_L47 self p1 x2 x3 v_teams v_days) 20000 ((0 : Int32), v_rows_18))
def f_X3_fillTwins (v_teams : Int32) (v_days : Int32) (v_rows : Nat → Int32) (p1 : Int32) : Option (Int32 × Int32 × (Nat → Int32)) := if p1 < (4 : Int32) then some (v_teams, v_days, v_rows) else if p1 ≤ (14 : Int32) then bd (p1 / (2 : Int32)) (fun x2_22 => (f_X3_clear v_teams v_days p1).bind (fun t => match t with | (v_teams_23, v_days_24) => bd (p1 - (1 : Int32)) (fun v_days_26 => lp (f_X3_fillTwins_L30 p1 x2_22 v_teams_23 v_days_26) 20000 ((0 : Int32), v_rows)))) else some (v_teams, v_days, v_rows)
set_option maxHeartbeats 4000000 in
set_option maxRecDepth 100000 in
theorem c_X3_fillTwins (l : Launch) (D : va_G) (cI cZ cP : ClassId) (a_this : Nat) (a_rows : Nat) (v_teams : Int32) (v_days : Int32) (v_rows : Nat → Int32) (p1 : Int32) (nv_teams : Int32) (nv_days : Int32) (nv_rows : Nat → Int32) (h : f_X3_fillTwins v_teams v_days v_rows p1 = some (nv_teams, nv_days, nv_rows)) : rd_V l yX3_fillTwins wsX3_fillTwins { frames := 2, cells := 0, slots := 0, locals := 45 } [.ref a_this, .int p1] D (tyA cI cZ cP) (wd_X3 cI cZ cP a_this a_rows v_teams v_days v_rows) (wd_X3 cI cZ cP a_this a_rows nv_teams nv_days nv_rows) := by
  unfold f_X3_fillTwins at h
  refine rd_enterV (cc := cX3_fillTwins) (maxL := 6) (by decide) rfl (Nat.le_of_ble_eq_true rfl) ?_
  intro p e s m args below meth c A Q ls hx hb hml hown hts hA hK hP hD hS hl hret
  have hl : lv_has ls 6 [(0, .ref a_this), (1, .int p1)] := hl
  have kw1 := hts (.fieldLink RX3 19 "RoundDays$Plan" "days" "I") (List.mem_of_getElem? (i := 1) rfl)
  have w47 : ∀ x2 : Int32, ∀ x3 : Int32, ∀ v_teams : Int32, ∀ v_days : Int32, ∀ k30 : Int32 × (Nat → Int32) → Option (Int32 × Int32 × (Nat → Int32)), (∀ (x3 : Int32) (v_rows : Nat → Int32), k30 (x3, v_rows) = some (nv_teams, nv_days, nv_rows) → ∀ (H : Heap) (locs : List Loc) (ls : Array Slot), va_P D vwCl (wd_X3 cI cZ cP a_this a_rows v_teams v_days v_rows) H → va_D A (wd_X3 cI cZ cP a_this a_rows v_teams v_days v_rows) → va_S A s.heap H locs → lv_has ls 6 [(0, .ref a_this), (1, .int p1), (2, .int x2), (3, .int x3)] → W p l e { frames := 2, cells := 0, slots := 0, locals := 45 } s m args below meth c H locs 0 0 Q (F0 m 30 ls [])) → ∀ n : Nat, ∀ (x4 : Int32) (v_rows : Nat → Int32), lp (f_X3_fillTwins_L47 k30 p1 x2 x3 v_teams v_days) n (x4, v_rows) = some (nv_teams, nv_days, nv_rows) → ∀ (H : Heap) (locs : List Loc) (ls : Array Slot), va_P D vwCl (wd_X3 cI cZ cP a_this a_rows v_teams v_days v_rows) H → va_D A (wd_X3 cI cZ cP a_this a_rows v_teams v_days v_rows) → va_S A s.heap H locs → lv_has ls 6 [(0, .ref a_this), (1, .int p1), (2, .int x2), (3, .int x3), (4, .int x4)] → W p l e { frames := 2, cells := 0, slots := 0, locals := 45 } s m args below meth c H locs 0 0 Q (F0 m 47 ls []) := by
    intro x2 x3 v_teams v_days k30 hk30
    refine fun n x4 v_rows h => lp_walk (b := f_X3_fillTwins_L47 k30 p1 x2 x3 v_teams v_days) (r := (nv_teams, nv_days, nv_rows)) (P := fun st => match st with | (x4, v_rows) => ∀ (H : Heap) (locs : List Loc) (ls : Array Slot), va_P D vwCl (wd_X3 cI cZ cP a_this a_rows v_teams v_days v_rows) H → va_D A (wd_X3 cI cZ cP a_this a_rows v_teams v_days v_rows) → va_S A s.heap H locs → lv_has ls 6 [(0, .ref a_this), (1, .int p1), (2, .int x2), (3, .int x3), (4, .int x4)] → W p l e { frames := 2, cells := 0, slots := 0, locals := 45 } s m args below meth c H locs 0 0 Q (F0 m 47 ls [])) (fun self hself0 st h => ?_) n (x4, v_rows) h
    obtain ⟨x4, v_rows⟩ := st
    have hself : ∀ (x4 : Int32) (v_rows : Nat → Int32), self (x4, v_rows) = some (nv_teams, nv_days, nv_rows) → ∀ (H : Heap) (locs : List Loc) (ls : Array Slot), va_P D vwCl (wd_X3 cI cZ cP a_this a_rows v_teams v_days v_rows) H → va_D A (wd_X3 cI cZ cP a_this a_rows v_teams v_days v_rows) → va_S A s.heap H locs → lv_has ls 6 [(0, .ref a_this), (1, .int p1), (2, .int x2), (3, .int x3), (4, .int x4)] → W p l e { frames := 2, cells := 0, slots := 0, locals := 45 } s m args below meth c H locs 0 0 Q (F0 m 47 ls []) := fun x4 v_rows h => hself0 (x4, v_rows) h
    clear hself0
    intro H locs ls hP hD hS hl
    replace h : (if p1 ≤ x4 then bd (x3 + (1 : Int32)) (fun x3_2 => k30 (x3_2, v_rows)) else if ¬ p1 = 0 then (f_X3_pair v_teams v_days v_rows x3 x4 (((((2 : Int32) * x3) + p1) - x4) - ((((2 : Int32) * x3) + p1) - x4) / p1 * p1)).bind (fun v_rows_4 => bd (x4 + (1 : Int32)) (fun x4_6 => self (x4_6, v_rows_4))) else none) = some (nv_teams, nv_days, nv_rows) := h
    refine lv_iload hx hb dX3_fillTwins_47 (lv_at hl 4 rfl) ?_
    refine lv_iload_n hx hb dX3_fillTwins_49 rfl (lv_at hl 1 rfl) ?_
    refine lv_icmp_ge (tgt := 76) hx hb dX3_fillTwins_50 (by decide) (fun c_1 => ?_) (fun c_1 => ?_)
    · replace h := it_pos h c_1
      obtain ⟨x3_2, ex3_2, h⟩ := bd_some h
      refine lv_iinc (v := x3_2) (lv' := [(3, .int x3_2), (0, .ref a_this), (1, .int p1), (2, .int x2), (4, .int x4)]) hx hb dX3_fillTwins_76 hl (k := 3) rfl (by rw [ex3_2]; rfl) (by decide) rfl (fun ls hl => ?_)
      refine lv_goto (tgt := 30) hx hb dX3_fillTwins_79 (by decide) ?_
      exact hk30 x3_2 v_rows h _ _ _ hP hD hS (lv_sub hl [1, 2, 3, 0] rfl)
    · replace h := it_neg h c_1
      refine lv_aload_n hx hb dX3_fillTwins_53 rfl (lv_at hl 0 rfl) ?_
      refine lv_iload_n hx hb dX3_fillTwins_54 rfl (lv_at hl 3 rfl) ?_
      refine lv_iload hx hb dX3_fillTwins_55 (lv_at hl 4 rfl) ?_
      refine lv_iconst (v := 2) hx hb dX3_fillTwins_57 (by decide) ?_
      refine lv_iload_n hx hb dX3_fillTwins_58 rfl (lv_at hl 3 rfl) ?_
      refine lv_imul hx hb dX3_fillTwins_59 ?_
      refine lv_iload_n hx hb dX3_fillTwins_60 rfl (lv_at hl 1 rfl) ?_
      refine lv_iadd hx hb dX3_fillTwins_61 ?_
      refine lv_iload hx hb dX3_fillTwins_62 (lv_at hl 4 rfl) ?_
      refine lv_isub hx hb dX3_fillTwins_64 ?_
      refine lv_iload_n hx hb dX3_fillTwins_65 rfl (lv_at hl 1 rfl) ?_
      obtain ⟨hz_3, h⟩ := gd_some h
      refine lv_irem hx hb dX3_fillTwins_66 hz_3 ?_
      obtain ⟨v_rows_4, hc_5, h⟩ := bi_some h
      refine rd_callVv [.int x3, .int x4, .int (((((2 : Int32) * x3) + p1) - x4) - ((((2 : Int32) * x3) + p1) - x4) / p1 * p1)] [] (wr := []) (W1 := wd_X3 cI cZ cP a_this a_rows v_teams v_days v_rows_4) (ci := 3) ⟨hx, hb, hml, hown, hts⟩ (c_X3_pair l D cI cZ cP a_this a_rows v_teams v_days v_rows x3 x4 (((((2 : Int32) * x3) + p1) - x4) - ((((2 : Int32) * x3) + p1) - x4) / p1 * p1) v_rows_4 hc_5) (cwV 3 hts gX3_fillTwins_X3_pair rfl rfl rfl (by decide +kernel) ⟨Nat.le_of_ble_eq_true rfl, Nat.le_of_ble_eq_true rfl⟩) rfl rfl hl.1 (Nat.le_of_ble_eq_true rfl) dX3_fillTwins_67 ⟨Nat.zero_le _, Nat.zero_le _⟩ hK hP hD hS hA rfl rfl [0, 1] [] [0, 1] ⟨⟨rfl, rfl, rfl⟩, by decide⟩ (fun H locs hP hD hS => ?_)
      obtain ⟨x4_6, ex4_6, h⟩ := bd_some h
      refine lv_iinc (v := x4_6) (lv' := [(4, .int x4_6), (0, .ref a_this), (1, .int p1), (2, .int x2), (3, .int x3)]) hx hb dX3_fillTwins_70 hl (k := 4) rfl (by rw [ex4_6]; rfl) (by decide) rfl (fun ls hl => ?_)
      refine lv_goto (tgt := 47) hx hb dX3_fillTwins_73 (by decide) ?_
      exact hself x4_6 v_rows_4 h _ _ _ hP hD hS (lv_sub hl [1, 2, 3, 4, 0] rfl)
  have w102 : ∀ x2 : Int32, ∀ x3 : Int32, ∀ x4 : Int32, ∀ v_teams : Int32, ∀ v_days : Int32, ∀ k87 : Int32 × Int32 × (Nat → Int32) → Option (Int32 × Int32 × (Nat → Int32)), (∀ (x3 : Int32) (x4 : Int32) (v_rows : Nat → Int32), k87 (x3, x4, v_rows) = some (nv_teams, nv_days, nv_rows) → ∀ (H : Heap) (locs : List Loc) (ls : Array Slot), va_P D vwCl (wd_X3 cI cZ cP a_this a_rows v_teams v_days v_rows) H → va_D A (wd_X3 cI cZ cP a_this a_rows v_teams v_days v_rows) → va_S A s.heap H locs → lv_has ls 6 [(0, .ref a_this), (1, .int p1), (2, .int x2), (3, .int x3), (4, .int x4)] → W p l e { frames := 2, cells := 0, slots := 0, locals := 45 } s m args below meth c H locs 0 0 Q (F0 m 87 ls [])) → ∀ n : Nat, ∀ (x5 : Int32) (v_rows : Nat → Int32), lp (f_X3_fillTwins_L102 k87 p1 x2 x3 x4 v_teams v_days) n (x5, v_rows) = some (nv_teams, nv_days, nv_rows) → ∀ (H : Heap) (locs : List Loc) (ls : Array Slot), va_P D vwCl (wd_X3 cI cZ cP a_this a_rows v_teams v_days v_rows) H → va_D A (wd_X3 cI cZ cP a_this a_rows v_teams v_days v_rows) → va_S A s.heap H locs → lv_has ls 6 [(0, .ref a_this), (1, .int p1), (2, .int x2), (3, .int x3), (4, .int x4), (5, .int x5)] → W p l e { frames := 2, cells := 0, slots := 0, locals := 45 } s m args below meth c H locs 0 0 Q (F0 m 102 ls []) := by
    intro x2 x3 x4 v_teams v_days k87 hk87
    refine fun n x5 v_rows h => lp_walk (b := f_X3_fillTwins_L102 k87 p1 x2 x3 x4 v_teams v_days) (r := (nv_teams, nv_days, nv_rows)) (P := fun st => match st with | (x5, v_rows) => ∀ (H : Heap) (locs : List Loc) (ls : Array Slot), va_P D vwCl (wd_X3 cI cZ cP a_this a_rows v_teams v_days v_rows) H → va_D A (wd_X3 cI cZ cP a_this a_rows v_teams v_days v_rows) → va_S A s.heap H locs → lv_has ls 6 [(0, .ref a_this), (1, .int p1), (2, .int x2), (3, .int x3), (4, .int x4), (5, .int x5)] → W p l e { frames := 2, cells := 0, slots := 0, locals := 45 } s m args below meth c H locs 0 0 Q (F0 m 102 ls [])) (fun self hself0 st h => ?_) n (x5, v_rows) h
    obtain ⟨x5, v_rows⟩ := st
    have hself : ∀ (x5 : Int32) (v_rows : Nat → Int32), self (x5, v_rows) = some (nv_teams, nv_days, nv_rows) → ∀ (H : Heap) (locs : List Loc) (ls : Array Slot), va_P D vwCl (wd_X3 cI cZ cP a_this a_rows v_teams v_days v_rows) H → va_D A (wd_X3 cI cZ cP a_this a_rows v_teams v_days v_rows) → va_S A s.heap H locs → lv_has ls 6 [(0, .ref a_this), (1, .int p1), (2, .int x2), (3, .int x3), (4, .int x4), (5, .int x5)] → W p l e { frames := 2, cells := 0, slots := 0, locals := 45 } s m args below meth c H locs 0 0 Q (F0 m 102 ls []) := fun x5 v_rows h => hself0 (x5, v_rows) h
    clear hself0
    intro H locs ls hP hD hS hl
    replace h : (if p1 ≤ x5 then bd (x3 + (1 : Int32)) (fun x3_8 => bd (x4 + (2 : Int32)) (fun x4_9 => k87 (x3_8, x4_9, v_rows))) else if ¬ p1 = 0 then (f_X3_pair v_teams v_days v_rows x3 x5 ((x5 + x4) - (x5 + x4) / p1 * p1)).bind (fun v_rows_11 => bd (x5 + (2 : Int32)) (fun x5_13 => self (x5_13, v_rows_11))) else none) = some (nv_teams, nv_days, nv_rows) := h
    refine lv_iload hx hb dX3_fillTwins_102 (lv_at hl 5 rfl) ?_
    refine lv_iload_n hx hb dX3_fillTwins_104 rfl (lv_at hl 1 rfl) ?_
    refine lv_icmp_ge (tgt := 128) hx hb dX3_fillTwins_105 (by decide) (fun c_7 => ?_) (fun c_7 => ?_)
    · replace h := it_pos h c_7
      obtain ⟨x3_8, ex3_8, h⟩ := bd_some h
      refine lv_iinc (v := x3_8) (lv' := [(3, .int x3_8), (0, .ref a_this), (1, .int p1), (2, .int x2), (4, .int x4), (5, .int x5)]) hx hb dX3_fillTwins_128 hl (k := 3) rfl (by rw [ex3_8]; rfl) (by decide) rfl (fun ls hl => ?_)
      obtain ⟨x4_9, ex4_9, h⟩ := bd_some h
      refine lv_iinc (v := x4_9) (lv' := [(4, .int x4_9), (3, .int x3_8), (0, .ref a_this), (1, .int p1), (2, .int x2), (5, .int x5)]) hx hb dX3_fillTwins_131 hl (k := 4) rfl (by rw [ex4_9]; rfl) (by decide) rfl (fun ls hl => ?_)
      refine lv_goto (tgt := 87) hx hb dX3_fillTwins_134 (by decide) ?_
      exact hk87 x3_8 x4_9 v_rows h _ _ _ hP hD hS (lv_sub hl [2, 3, 4, 1, 0] rfl)
    · replace h := it_neg h c_7
      refine lv_aload_n hx hb dX3_fillTwins_108 rfl (lv_at hl 0 rfl) ?_
      refine lv_iload_n hx hb dX3_fillTwins_109 rfl (lv_at hl 3 rfl) ?_
      refine lv_iload hx hb dX3_fillTwins_110 (lv_at hl 5 rfl) ?_
      refine lv_iload hx hb dX3_fillTwins_112 (lv_at hl 5 rfl) ?_
      refine lv_iload hx hb dX3_fillTwins_114 (lv_at hl 4 rfl) ?_
      refine lv_iadd hx hb dX3_fillTwins_116 ?_
      refine lv_iload_n hx hb dX3_fillTwins_117 rfl (lv_at hl 1 rfl) ?_
      obtain ⟨hz_10, h⟩ := gd_some h
      refine lv_irem hx hb dX3_fillTwins_118 hz_10 ?_
      obtain ⟨v_rows_11, hc_12, h⟩ := bi_some h
      refine rd_callVv [.int x3, .int x5, .int ((x5 + x4) - (x5 + x4) / p1 * p1)] [] (wr := []) (W1 := wd_X3 cI cZ cP a_this a_rows v_teams v_days v_rows_11) (ci := 3) ⟨hx, hb, hml, hown, hts⟩ (c_X3_pair l D cI cZ cP a_this a_rows v_teams v_days v_rows x3 x5 ((x5 + x4) - (x5 + x4) / p1 * p1) v_rows_11 hc_12) (cwV 3 hts gX3_fillTwins_X3_pair rfl rfl rfl (by decide +kernel) ⟨Nat.le_of_ble_eq_true rfl, Nat.le_of_ble_eq_true rfl⟩) rfl rfl hl.1 (Nat.le_of_ble_eq_true rfl) dX3_fillTwins_119 ⟨Nat.zero_le _, Nat.zero_le _⟩ hK hP hD hS hA rfl rfl [0, 1] [] [0, 1] ⟨⟨rfl, rfl, rfl⟩, by decide⟩ (fun H locs hP hD hS => ?_)
      obtain ⟨x5_13, ex5_13, h⟩ := bd_some h
      refine lv_iinc (v := x5_13) (lv' := [(5, .int x5_13), (0, .ref a_this), (1, .int p1), (2, .int x2), (3, .int x3), (4, .int x4)]) hx hb dX3_fillTwins_122 hl (k := 5) rfl (by rw [ex5_13]; rfl) (by decide) rfl (fun ls hl => ?_)
      refine lv_goto (tgt := 102) hx hb dX3_fillTwins_125 (by decide) ?_
      exact hself x5_13 v_rows_11 h _ _ _ hP hD hS (lv_sub hl [1, 2, 3, 4, 5, 0] rfl)
  have w87 : ∀ x2 : Int32, ∀ v_teams : Int32, ∀ v_days : Int32, ∀ n : Nat, ∀ (x3 : Int32) (x4 : Int32) (v_rows : Nat → Int32), lp (f_X3_fillTwins_L87 p1 x2 v_teams v_days) n (x3, x4, v_rows) = some (nv_teams, nv_days, nv_rows) → ∀ (H : Heap) (locs : List Loc) (ls : Array Slot), va_P D vwCl (wd_X3 cI cZ cP a_this a_rows v_teams v_days v_rows) H → va_D A (wd_X3 cI cZ cP a_this a_rows v_teams v_days v_rows) → va_S A s.heap H locs → lv_has ls 6 [(0, .ref a_this), (1, .int p1), (2, .int x2), (3, .int x3), (4, .int x4)] → W p l e { frames := 2, cells := 0, slots := 0, locals := 45 } s m args below meth c H locs 0 0 Q (F0 m 87 ls []) := by
    intro x2 v_teams v_days
    refine fun n x3 x4 v_rows h => lp_walk (b := f_X3_fillTwins_L87 p1 x2 v_teams v_days) (r := (nv_teams, nv_days, nv_rows)) (P := fun st => match st with | (x3, x4, v_rows) => ∀ (H : Heap) (locs : List Loc) (ls : Array Slot), va_P D vwCl (wd_X3 cI cZ cP a_this a_rows v_teams v_days v_rows) H → va_D A (wd_X3 cI cZ cP a_this a_rows v_teams v_days v_rows) → va_S A s.heap H locs → lv_has ls 6 [(0, .ref a_this), (1, .int p1), (2, .int x2), (3, .int x3), (4, .int x4)] → W p l e { frames := 2, cells := 0, slots := 0, locals := 45 } s m args below meth c H locs 0 0 Q (F0 m 87 ls [])) (fun self hself0 st h => ?_) n (x3, x4, v_rows) h
    obtain ⟨x3, x4, v_rows⟩ := st
    have hself : ∀ (x3 : Int32) (x4 : Int32) (v_rows : Nat → Int32), self (x3, x4, v_rows) = some (nv_teams, nv_days, nv_rows) → ∀ (H : Heap) (locs : List Loc) (ls : Array Slot), va_P D vwCl (wd_X3 cI cZ cP a_this a_rows v_teams v_days v_rows) H → va_D A (wd_X3 cI cZ cP a_this a_rows v_teams v_days v_rows) → va_S A s.heap H locs → lv_has ls 6 [(0, .ref a_this), (1, .int p1), (2, .int x2), (3, .int x3), (4, .int x4)] → W p l e { frames := 2, cells := 0, slots := 0, locals := 45 } s m args below meth c H locs 0 0 Q (F0 m 87 ls []) := fun x3 x4 v_rows h => hself0 (x3, x4, v_rows) h
    clear hself0
    intro H locs ls hP hD hS hl
    replace h : (if p1 ≤ x4 then some (v_teams, v_days, v_rows) else if x4 = x2 then bd (x4 + (2 : Int32)) (fun x4_16 => self (x3, x4_16, v_rows)) else lp (f_X3_fillTwins_L102 self p1 x2 x3 x4 v_teams v_days) 20000 ((0 : Int32), v_rows)) = some (nv_teams, nv_days, nv_rows) := h
    refine lv_iload hx hb dX3_fillTwins_87 (lv_at hl 4 rfl) ?_
    refine lv_iload_n hx hb dX3_fillTwins_89 rfl (lv_at hl 1 rfl) ?_
    refine lv_icmp_ge (tgt := 137) hx hb dX3_fillTwins_90 (by decide) (fun c_14 => ?_) (fun c_14 => ?_)
    · replace h := it_pos h c_14
      obtain ⟨rfl, rfl, rfl⟩ := inj3 h
      exact hret dX3_fillTwins_137 hP hD hS
    · replace h := it_neg h c_14
      refine lv_iload hx hb dX3_fillTwins_93 (lv_at hl 4 rfl) ?_
      refine lv_iload_n hx hb dX3_fillTwins_95 rfl (lv_at hl 2 rfl) ?_
      refine lv_icmp_eq (tgt := 131) hx hb dX3_fillTwins_96 (by decide) (fun c_15 => ?_) (fun c_15 => ?_)
      · replace h := it_pos h c_15
        obtain ⟨x4_16, ex4_16, h⟩ := bd_some h
        refine lv_iinc (v := x4_16) (lv' := [(4, .int x4_16), (0, .ref a_this), (1, .int p1), (2, .int x2), (3, .int x3)]) hx hb dX3_fillTwins_131 hl (k := 4) rfl (by rw [ex4_16]; rfl) (by decide) rfl (fun ls hl => ?_)
        refine lv_goto (tgt := 87) hx hb dX3_fillTwins_134 (by decide) ?_
        exact hself x3 x4_16 v_rows h _ _ _ hP hD hS (lv_sub hl [1, 2, 3, 4, 0] rfl)
      · replace h := it_neg h c_15
        refine lv_iconst (v := 0) hx hb dX3_fillTwins_99 (by decide) ?_
        refine lv_istore (lv' := [(5, .int (0 : Int32)), (0, .ref a_this), (1, .int p1), (2, .int x2), (3, .int x3), (4, .int x4)]) hx hb dX3_fillTwins_100 hl (by decide) rfl (fun ls hl => ?_)
        exact w102 x2 x3 x4 v_teams v_days _ hself 20000 (0 : Int32) v_rows h _ _ _ hP hD hS (lv_sub hl [1, 2, 3, 4, 5, 0] rfl)
  have w30 : ∀ x2 : Int32, ∀ v_teams : Int32, ∀ v_days : Int32, ∀ n : Nat, ∀ (x3 : Int32) (v_rows : Nat → Int32), lp (f_X3_fillTwins_L30 p1 x2 v_teams v_days) n (x3, v_rows) = some (nv_teams, nv_days, nv_rows) → ∀ (H : Heap) (locs : List Loc) (ls : Array Slot), va_P D vwCl (wd_X3 cI cZ cP a_this a_rows v_teams v_days v_rows) H → va_D A (wd_X3 cI cZ cP a_this a_rows v_teams v_days v_rows) → va_S A s.heap H locs → lv_has ls 6 [(0, .ref a_this), (1, .int p1), (2, .int x2), (3, .int x3)] → W p l e { frames := 2, cells := 0, slots := 0, locals := 45 } s m args below meth c H locs 0 0 Q (F0 m 30 ls []) := by
    intro x2 v_teams v_days
    refine fun n x3 v_rows h => lp_walk (b := f_X3_fillTwins_L30 p1 x2 v_teams v_days) (r := (nv_teams, nv_days, nv_rows)) (P := fun st => match st with | (x3, v_rows) => ∀ (H : Heap) (locs : List Loc) (ls : Array Slot), va_P D vwCl (wd_X3 cI cZ cP a_this a_rows v_teams v_days v_rows) H → va_D A (wd_X3 cI cZ cP a_this a_rows v_teams v_days v_rows) → va_S A s.heap H locs → lv_has ls 6 [(0, .ref a_this), (1, .int p1), (2, .int x2), (3, .int x3)] → W p l e { frames := 2, cells := 0, slots := 0, locals := 45 } s m args below meth c H locs 0 0 Q (F0 m 30 ls [])) (fun self hself0 st h => ?_) n (x3, v_rows) h
    obtain ⟨x3, v_rows⟩ := st
    have hself : ∀ (x3 : Int32) (v_rows : Nat → Int32), self (x3, v_rows) = some (nv_teams, nv_days, nv_rows) → ∀ (H : Heap) (locs : List Loc) (ls : Array Slot), va_P D vwCl (wd_X3 cI cZ cP a_this a_rows v_teams v_days v_rows) H → va_D A (wd_X3 cI cZ cP a_this a_rows v_teams v_days v_rows) → va_S A s.heap H locs → lv_has ls 6 [(0, .ref a_this), (1, .int p1), (2, .int x2), (3, .int x3)] → W p l e { frames := 2, cells := 0, slots := 0, locals := 45 } s m args below meth c H locs 0 0 Q (F0 m 30 ls []) := fun x3 v_rows h => hself0 (x3, v_rows) h
    clear hself0
    intro H locs ls hP hD hS hl
    replace h : (if x2 ≤ x3 then lp (f_X3_fillTwins_L87 p1 x2 v_teams v_days) 20000 (x2, (1 : Int32), v_rows) else (f_X3_pair v_teams v_days v_rows x3 x3 (x3 + x2)).bind (fun v_rows_18 => lp (f_X3_fillTwins_L47 self p1 x2 x3 v_teams v_days) 20000 ((0 : Int32), v_rows_18))) = some (nv_teams, nv_days, nv_rows) := h
    refine lv_iload_n hx hb dX3_fillTwins_30 rfl (lv_at hl 3 rfl) ?_
    refine lv_iload_n hx hb dX3_fillTwins_31 rfl (lv_at hl 2 rfl) ?_
    refine lv_icmp_ge (tgt := 82) hx hb dX3_fillTwins_32 (by decide) (fun c_17 => ?_) (fun c_17 => ?_)
    · replace h := it_pos h c_17
      refine lv_iload_n hx hb dX3_fillTwins_82 rfl (lv_at hl 2 rfl) ?_
      refine lv_istore_n (lv' := [(3, .int x2), (0, .ref a_this), (1, .int p1), (2, .int x2)]) hx hb dX3_fillTwins_83 rfl hl (by decide) rfl (fun ls hl => ?_)
      refine lv_iconst (v := 1) hx hb dX3_fillTwins_84 (by decide) ?_
      refine lv_istore (lv' := [(4, .int (1 : Int32)), (3, .int x2), (0, .ref a_this), (1, .int p1), (2, .int x2)]) hx hb dX3_fillTwins_85 hl (by decide) rfl (fun ls hl => ?_)
      exact w87 x2 v_teams v_days 20000 x2 (1 : Int32) v_rows h _ _ _ hP hD hS (lv_sub hl [2, 3, 4, 1, 0] rfl)
    · replace h := it_neg h c_17
      refine lv_aload_n hx hb dX3_fillTwins_35 rfl (lv_at hl 0 rfl) ?_
      refine lv_iload_n hx hb dX3_fillTwins_36 rfl (lv_at hl 3 rfl) ?_
      refine lv_iload_n hx hb dX3_fillTwins_37 rfl (lv_at hl 3 rfl) ?_
      refine lv_iload_n hx hb dX3_fillTwins_38 rfl (lv_at hl 3 rfl) ?_
      refine lv_iload_n hx hb dX3_fillTwins_39 rfl (lv_at hl 2 rfl) ?_
      refine lv_iadd hx hb dX3_fillTwins_40 ?_
      obtain ⟨v_rows_18, hc_19, h⟩ := bi_some h
      refine rd_callVv [.int x3, .int x3, .int (x3 + x2)] [] (wr := []) (W1 := wd_X3 cI cZ cP a_this a_rows v_teams v_days v_rows_18) (ci := 3) ⟨hx, hb, hml, hown, hts⟩ (c_X3_pair l D cI cZ cP a_this a_rows v_teams v_days v_rows x3 x3 (x3 + x2) v_rows_18 hc_19) (cwV 3 hts gX3_fillTwins_X3_pair rfl rfl rfl (by decide +kernel) ⟨Nat.le_of_ble_eq_true rfl, Nat.le_of_ble_eq_true rfl⟩) rfl rfl hl.1 (Nat.le_of_ble_eq_true rfl) dX3_fillTwins_41 ⟨Nat.zero_le _, Nat.zero_le _⟩ hK hP hD hS hA rfl rfl [0, 1] [] [0, 1] ⟨⟨rfl, rfl, rfl⟩, by decide⟩ (fun H locs hP hD hS => ?_)
      refine lv_iconst (v := 0) hx hb dX3_fillTwins_44 (by decide) ?_
      refine lv_istore (lv' := [(4, .int (0 : Int32)), (0, .ref a_this), (1, .int p1), (2, .int x2), (3, .int x3)]) hx hb dX3_fillTwins_45 hl (by decide) rfl (fun ls hl => ?_)
      exact w47 x2 x3 v_teams v_days _ hself 20000 (0 : Int32) v_rows_18 h _ _ _ hP hD hS (lv_sub hl [1, 2, 3, 4, 0] rfl)
  refine lv_iload_n hx hb dX3_fillTwins_0 rfl (lv_at hl 1 rfl) ?_
  refine lv_iconst (v := 4) hx hb dX3_fillTwins_1 (by decide) ?_
  refine lv_icmp_lt (tgt := 11) hx hb dX3_fillTwins_2 (by decide) (fun c_20 => ?_) (fun c_20 => ?_)
  · replace h := it_pos h c_20
    obtain ⟨rfl, rfl, rfl⟩ := inj3 h
    exact hret dX3_fillTwins_11 hP hD hS
  · replace h := it_neg h c_20
    refine lv_iload_n hx hb dX3_fillTwins_5 rfl (lv_at hl 1 rfl) ?_
    refine lv_bipush (v := 14) hx hb dX3_fillTwins_6 (by decide) ?_
    refine lv_icmp_le (tgt := 12) hx hb dX3_fillTwins_8 (by decide) (fun c_21 => ?_) (fun c_21 => ?_)
    · replace h := it_pos h c_21
      refine lv_iload_n hx hb dX3_fillTwins_12 rfl (lv_at hl 1 rfl) ?_
      refine lv_iconst (v := 2) hx hb dX3_fillTwins_13 (by decide) ?_
      refine lv_idiv hx hb dX3_fillTwins_14 (by decide) ?_
      obtain ⟨x2_22, ex2_22, h⟩ := bd_some h
      refine rd_top ex2_22 ?_
      refine lv_istore_n (lv' := [(2, .int x2_22), (0, .ref a_this), (1, .int p1)]) hx hb dX3_fillTwins_15 rfl hl (by decide) rfl (fun ls hl => ?_)
      refine lv_aload_n hx hb dX3_fillTwins_16 rfl (lv_at hl 1 rfl) ?_
      refine lv_iload_n hx hb dX3_fillTwins_17 rfl (lv_at hl 2 rfl) ?_
      obtain ⟨⟨v_teams_23, v_days_24⟩, hc_25, h⟩ := bi_some h
      refine rd_callVv [.int p1] [] (wr := []) (W1 := wd_X3 cI cZ cP a_this a_rows v_teams_23 v_days_24 v_rows) (ci := 3) ⟨hx, hb, hml, hown, hts⟩ (c_X3_clear l D cI cZ cP a_this a_rows v_teams v_days v_rows p1 v_teams_23 v_days_24 hc_25) (cwV 1 hts gX3_fillTwins_X3_clear rfl rfl rfl (by decide +kernel) ⟨Nat.le_of_ble_eq_true rfl, Nat.le_of_ble_eq_true rfl⟩) rfl rfl hl.1 (Nat.le_of_ble_eq_true rfl) dX3_fillTwins_18 ⟨Nat.zero_le _, Nat.zero_le _⟩ hK hP hD hS hA rfl rfl [0, 1] [] [0, 1] ⟨⟨rfl, rfl, rfl⟩, by decide⟩ (fun H locs hP hD hS => ?_)
      refine lv_aload_n hx hb dX3_fillTwins_21 rfl (lv_at hl 1 rfl) ?_
      refine lv_iload_n hx hb dX3_fillTwins_22 rfl (lv_at hl 2 rfl) ?_
      refine lv_iconst (v := 1) hx hb dX3_fillTwins_23 (by decide) ?_
      refine lv_isub hx hb dX3_fillTwins_24 ?_
      obtain ⟨v_days_26, ev_days_26, h⟩ := bd_some h
      refine rd_top ev_days_26 ?_
      refine rd_put (W1 := wd_X3 cI cZ cP a_this a_rows v_teams_23 v_days_26 v_rows) (C := RX3) (T := TX3) (N := 3) (ci := 3) hx hb hts in_X3_fillTwins_X3 tyX3 tyX3_ok nmX3 hown hK hP hD hS 0 rfl rfl 1 (by decide) kw1 (fun _ h9 => h9) rfl rfl rfl (Nat.le_of_ble_eq_true rfl) rfl dX3_fillTwins_25 (fun H locs hP hD hS => ?_)
      refine lv_iconst (v := 0) hx hb dX3_fillTwins_28 (by decide) ?_
      refine lv_istore_n (lv' := [(3, .int (0 : Int32)), (2, .int x2_22), (0, .ref a_this), (1, .int p1)]) hx hb dX3_fillTwins_29 rfl hl (by decide) rfl (fun ls hl => ?_)
      exact w30 x2_22 v_teams_23 v_days_26 20000 (0 : Int32) v_rows h _ _ _ hP hD hS (lv_sub hl [2, 3, 1, 0] rfl)
    · replace h := it_neg h c_21
      obtain ⟨rfl, rfl, rfl⟩ := inj3 h
      exact hret dX3_fillTwins_11 hP hD hS
theorem in_X3_fillBy_X3 : ∀ w ∈ wsX30, w ∈ wsX3_fillBy := by decide +kernel
def f_X3_fillBy_L47 (k32 : Int32 × (Nat → Int32) → Option (Int32 × Int32 × (Nat → Int32))) (n_p2 : Nat) (v_p2 : Nat → Int32) (p1 : Int32) (x3 : Int32) (v_teams : Int32) (v_days : Int32) (self : Int32 × (Nat → Int32) → Option (Int32 × Int32 × (Nat → Int32))) : Int32 × (Nat → Int32) → Option (Int32 × Int32 × (Nat → Int32)) := fun st => match st with | (x4, v_rows) => if p1 ≤ x4 then bd (x3 + (1 : Int32)) (fun x3_2 => k32 (x3_2, v_rows)) else if ¬ p1 = 0 then if inb x4 n_p2 then if ¬ p1 = 0 then (f_X3_pair v_teams v_days v_rows x3 ((x4 + x3) - (x4 + x3) / p1 * p1) (((v_p2 x4.toNatClampNeg) + x3) - ((v_p2 x4.toNatClampNeg) + x3) / p1 * p1)).bind (fun v_rows_6 => bd (x4 + (1 : Int32)) (fun x4_8 => self (x4_8, v_rows_6))) else none else none else none
def f_X3_fillBy_L32 (n_p2 : Nat) (v_p2 : Nat → Int32) (p1 : Int32) (v_teams : Int32) (v_days : Int32) (self : Int32 × (Nat → Int32) → Option (Int32 × Int32 × (Nat → Int32))) : Int32 × (Nat → Int32) → Option (Int32 × Int32 × (Nat → Int32)) := fun st => match st with | (x3, v_rows) => if p1 ≤ x3 then some (v_teams, v_days, v_rows) else (f_X3_pair v_teams v_days v_rows x3 p1 x3).bind (fun v_rows_10 => lp (f_X3_fillBy_L47 self n_p2 v_p2 p1 x3 v_teams v_days) 20000 ((1 : Int32), v_rows_10))
def f_X3_fillBy (n_p2 : Nat) (v_teams : Int32) (v_days : Int32) (v_rows : Nat → Int32) (v_p2 : Nat → Int32) (p1 : Int32) : Option (Int32 × Int32 × (Nat → Int32)) := if p1 < (1 : Int32) then some (v_teams, v_days, v_rows) else if (13 : Int32) < p1 then some (v_teams, v_days, v_rows) else if p1 ≤ (Int32.ofNat n_p2) then (f_X3_clear v_teams v_days (p1 + (1 : Int32))).bind (fun t => match t with | (v_teams_15, v_days_16) => lp (f_X3_fillBy_L32 n_p2 v_p2 p1 v_teams_15 p1) 20000 ((0 : Int32), v_rows)) else some (v_teams, v_days, v_rows)
set_option maxHeartbeats 4000000 in
set_option maxRecDepth 100000 in
theorem c_X3_fillBy (l : Launch) (D : va_G) (cI cZ cP : ClassId) (a_this : Nat) (a_rows : Nat) (a_p2 : Nat) (n_p2 : Nat) (v_teams : Int32) (v_days : Int32) (v_rows : Nat → Int32) (v_p2 : Nat → Int32) (p1 : Int32) (nv_teams : Int32) (nv_days : Int32) (nv_rows : Nat → Int32) (h : f_X3_fillBy n_p2 v_teams v_days v_rows v_p2 p1 = some (nv_teams, nv_days, nv_rows)) : rd_V l yX3_fillBy wsX3_fillBy { frames := 2, cells := 0, slots := 0, locals := 45 } [.ref a_this, .int p1, .ref a_p2] D (tyA cI cZ cP) ((wd_X3 cI cZ cP a_this a_rows v_teams v_days v_rows) ++ (wd_I cI cZ cP a_p2 n_p2 v_p2)) ((wd_X3 cI cZ cP a_this a_rows nv_teams nv_days nv_rows) ++ (wd_I cI cZ cP a_p2 n_p2 v_p2)) := by
  unfold f_X3_fillBy at h
  refine rd_enterV (cc := cX3_fillBy) (maxL := 5) (by decide) rfl (Nat.le_of_ble_eq_true rfl) ?_
  intro p e s m args below meth c A Q ls hx hb hml hown hts hA hK hP hD hS hl hret
  have hl : lv_has ls 5 [(0, .ref a_this), (1, .int p1), (2, .ref a_p2)] := hl
  have kw1 := hts (.fieldLink RX3 19 "RoundDays$Plan" "days" "I") (List.mem_of_getElem? (i := 1) rfl)
  have w47 : ∀ x3 : Int32, ∀ v_teams : Int32, ∀ v_days : Int32, ∀ k32 : Int32 × (Nat → Int32) → Option (Int32 × Int32 × (Nat → Int32)), (∀ (x3 : Int32) (v_rows : Nat → Int32), k32 (x3, v_rows) = some (nv_teams, nv_days, nv_rows) → ∀ (H : Heap) (locs : List Loc) (ls : Array Slot), va_P D vwCl ((wd_X3 cI cZ cP a_this a_rows v_teams v_days v_rows) ++ (wd_I cI cZ cP a_p2 n_p2 v_p2)) H → va_D A ((wd_X3 cI cZ cP a_this a_rows v_teams v_days v_rows) ++ (wd_I cI cZ cP a_p2 n_p2 v_p2)) → va_S A s.heap H locs → lv_has ls 5 [(0, .ref a_this), (1, .int p1), (2, .ref a_p2), (3, .int x3)] → W p l e { frames := 2, cells := 0, slots := 0, locals := 45 } s m args below meth c H locs 0 0 Q (F0 m 32 ls [])) → ∀ n : Nat, ∀ (x4 : Int32) (v_rows : Nat → Int32), lp (f_X3_fillBy_L47 k32 n_p2 v_p2 p1 x3 v_teams v_days) n (x4, v_rows) = some (nv_teams, nv_days, nv_rows) → ∀ (H : Heap) (locs : List Loc) (ls : Array Slot), va_P D vwCl ((wd_X3 cI cZ cP a_this a_rows v_teams v_days v_rows) ++ (wd_I cI cZ cP a_p2 n_p2 v_p2)) H → va_D A ((wd_X3 cI cZ cP a_this a_rows v_teams v_days v_rows) ++ (wd_I cI cZ cP a_p2 n_p2 v_p2)) → va_S A s.heap H locs → lv_has ls 5 [(0, .ref a_this), (1, .int p1), (2, .ref a_p2), (3, .int x3), (4, .int x4)] → W p l e { frames := 2, cells := 0, slots := 0, locals := 45 } s m args below meth c H locs 0 0 Q (F0 m 47 ls []) := by
    intro x3 v_teams v_days k32 hk32
    refine fun n x4 v_rows h => lp_walk (b := f_X3_fillBy_L47 k32 n_p2 v_p2 p1 x3 v_teams v_days) (r := (nv_teams, nv_days, nv_rows)) (P := fun st => match st with | (x4, v_rows) => ∀ (H : Heap) (locs : List Loc) (ls : Array Slot), va_P D vwCl ((wd_X3 cI cZ cP a_this a_rows v_teams v_days v_rows) ++ (wd_I cI cZ cP a_p2 n_p2 v_p2)) H → va_D A ((wd_X3 cI cZ cP a_this a_rows v_teams v_days v_rows) ++ (wd_I cI cZ cP a_p2 n_p2 v_p2)) → va_S A s.heap H locs → lv_has ls 5 [(0, .ref a_this), (1, .int p1), (2, .ref a_p2), (3, .int x3), (4, .int x4)] → W p l e { frames := 2, cells := 0, slots := 0, locals := 45 } s m args below meth c H locs 0 0 Q (F0 m 47 ls [])) (fun self hself0 st h => ?_) n (x4, v_rows) h
    obtain ⟨x4, v_rows⟩ := st
    have hself : ∀ (x4 : Int32) (v_rows : Nat → Int32), self (x4, v_rows) = some (nv_teams, nv_days, nv_rows) → ∀ (H : Heap) (locs : List Loc) (ls : Array Slot), va_P D vwCl ((wd_X3 cI cZ cP a_this a_rows v_teams v_days v_rows) ++ (wd_I cI cZ cP a_p2 n_p2 v_p2)) H → va_D A ((wd_X3 cI cZ cP a_this a_rows v_teams v_days v_rows) ++ (wd_I cI cZ cP a_p2 n_p2 v_p2)) → va_S A s.heap H locs → lv_has ls 5 [(0, .ref a_this), (1, .int p1), (2, .ref a_p2), (3, .int x3), (4, .int x4)] → W p l e { frames := 2, cells := 0, slots := 0, locals := 45 } s m args below meth c H locs 0 0 Q (F0 m 47 ls []) := fun x4 v_rows h => hself0 (x4, v_rows) h
    clear hself0
    intro H locs ls hP hD hS hl
    replace h : (if p1 ≤ x4 then bd (x3 + (1 : Int32)) (fun x3_2 => k32 (x3_2, v_rows)) else if ¬ p1 = 0 then if inb x4 n_p2 then if ¬ p1 = 0 then (f_X3_pair v_teams v_days v_rows x3 ((x4 + x3) - (x4 + x3) / p1 * p1) (((v_p2 x4.toNatClampNeg) + x3) - ((v_p2 x4.toNatClampNeg) + x3) / p1 * p1)).bind (fun v_rows_6 => bd (x4 + (1 : Int32)) (fun x4_8 => self (x4_8, v_rows_6))) else none else none else none) = some (nv_teams, nv_days, nv_rows) := h
    refine lv_iload hx hb dX3_fillBy_47 (lv_at hl 4 rfl) ?_
    refine lv_iload_n hx hb dX3_fillBy_49 rfl (lv_at hl 1 rfl) ?_
    refine lv_icmp_ge (tgt := 78) hx hb dX3_fillBy_50 (by decide) (fun c_1 => ?_) (fun c_1 => ?_)
    · replace h := it_pos h c_1
      obtain ⟨x3_2, ex3_2, h⟩ := bd_some h
      refine lv_iinc (v := x3_2) (lv' := [(3, .int x3_2), (0, .ref a_this), (1, .int p1), (2, .ref a_p2), (4, .int x4)]) hx hb dX3_fillBy_78 hl (k := 3) rfl (by rw [ex3_2]; rfl) (by decide) rfl (fun ls hl => ?_)
      refine lv_goto (tgt := 32) hx hb dX3_fillBy_81 (by decide) ?_
      exact hk32 x3_2 v_rows h _ _ _ hP hD hS (lv_sub hl [1, 2, 3, 0] rfl)
    · replace h := it_neg h c_1
      refine lv_aload_n hx hb dX3_fillBy_53 rfl (lv_at hl 0 rfl) ?_
      refine lv_iload_n hx hb dX3_fillBy_54 rfl (lv_at hl 3 rfl) ?_
      refine lv_iload hx hb dX3_fillBy_55 (lv_at hl 4 rfl) ?_
      refine lv_iload_n hx hb dX3_fillBy_57 rfl (lv_at hl 3 rfl) ?_
      refine lv_iadd hx hb dX3_fillBy_58 ?_
      refine lv_iload_n hx hb dX3_fillBy_59 rfl (lv_at hl 1 rfl) ?_
      obtain ⟨hz_3, h⟩ := gd_some h
      refine lv_irem hx hb dX3_fillBy_60 hz_3 ?_
      refine lv_aload_n hx hb dX3_fillBy_61 rfl (lv_at hl 2 rfl) ?_
      refine lv_iload hx hb dX3_fillBy_62 (lv_at hl 4 rfl) ?_
      obtain ⟨hi_4, h⟩ := gd_some h
      refine va_iald hx hb hK hP 2 0 rfl rfl (inb_in hi_4) dX3_fillBy_64 ?_
      refine lv_iload_n hx hb dX3_fillBy_65 rfl (lv_at hl 3 rfl) ?_
      refine lv_iadd hx hb dX3_fillBy_66 ?_
      refine lv_iload_n hx hb dX3_fillBy_67 rfl (lv_at hl 1 rfl) ?_
      obtain ⟨hz_5, h⟩ := gd_some h
      refine lv_irem hx hb dX3_fillBy_68 hz_5 ?_
      obtain ⟨v_rows_6, hc_7, h⟩ := bi_some h
      refine rd_callVv [.int x3, .int ((x4 + x3) - (x4 + x3) / p1 * p1), .int (((v_p2 x4.toNatClampNeg) + x3) - ((v_p2 x4.toNatClampNeg) + x3) / p1 * p1)] [] (wr := [(a_p2, .inl (cI, n_p2, .inl v_p2))]) (W1 := (wd_X3 cI cZ cP a_this a_rows v_teams v_days v_rows_6) ++ (wd_I cI cZ cP a_p2 n_p2 v_p2)) (ci := 3) ⟨hx, hb, hml, hown, hts⟩ (c_X3_pair l D cI cZ cP a_this a_rows v_teams v_days v_rows x3 ((x4 + x3) - (x4 + x3) / p1 * p1) (((v_p2 x4.toNatClampNeg) + x3) - ((v_p2 x4.toNatClampNeg) + x3) / p1 * p1) v_rows_6 hc_7) (cwV 3 hts gX3_fillBy_X3_pair rfl rfl rfl (by decide +kernel) ⟨Nat.le_of_ble_eq_true rfl, Nat.le_of_ble_eq_true rfl⟩) rfl rfl hl.1 (Nat.le_of_ble_eq_true rfl) dX3_fillBy_69 ⟨Nat.zero_le _, Nat.zero_le _⟩ hK hP hD hS hA rfl rfl [0, 1] [2] [1, 2, 0] ⟨⟨rfl, rfl, rfl⟩, by decide⟩ (fun H locs hP hD hS => ?_)
      obtain ⟨x4_8, ex4_8, h⟩ := bd_some h
      refine lv_iinc (v := x4_8) (lv' := [(4, .int x4_8), (0, .ref a_this), (1, .int p1), (2, .ref a_p2), (3, .int x3)]) hx hb dX3_fillBy_72 hl (k := 4) rfl (by rw [ex4_8]; rfl) (by decide) rfl (fun ls hl => ?_)
      refine lv_goto (tgt := 47) hx hb dX3_fillBy_75 (by decide) ?_
      exact hself x4_8 v_rows_6 h _ _ _ hP hD hS (lv_sub hl [1, 2, 3, 4, 0] rfl)
  have w32 : ∀ v_teams : Int32, ∀ v_days : Int32, ∀ n : Nat, ∀ (x3 : Int32) (v_rows : Nat → Int32), lp (f_X3_fillBy_L32 n_p2 v_p2 p1 v_teams v_days) n (x3, v_rows) = some (nv_teams, nv_days, nv_rows) → ∀ (H : Heap) (locs : List Loc) (ls : Array Slot), va_P D vwCl ((wd_X3 cI cZ cP a_this a_rows v_teams v_days v_rows) ++ (wd_I cI cZ cP a_p2 n_p2 v_p2)) H → va_D A ((wd_X3 cI cZ cP a_this a_rows v_teams v_days v_rows) ++ (wd_I cI cZ cP a_p2 n_p2 v_p2)) → va_S A s.heap H locs → lv_has ls 5 [(0, .ref a_this), (1, .int p1), (2, .ref a_p2), (3, .int x3)] → W p l e { frames := 2, cells := 0, slots := 0, locals := 45 } s m args below meth c H locs 0 0 Q (F0 m 32 ls []) := by
    intro v_teams v_days
    refine fun n x3 v_rows h => lp_walk (b := f_X3_fillBy_L32 n_p2 v_p2 p1 v_teams v_days) (r := (nv_teams, nv_days, nv_rows)) (P := fun st => match st with | (x3, v_rows) => ∀ (H : Heap) (locs : List Loc) (ls : Array Slot), va_P D vwCl ((wd_X3 cI cZ cP a_this a_rows v_teams v_days v_rows) ++ (wd_I cI cZ cP a_p2 n_p2 v_p2)) H → va_D A ((wd_X3 cI cZ cP a_this a_rows v_teams v_days v_rows) ++ (wd_I cI cZ cP a_p2 n_p2 v_p2)) → va_S A s.heap H locs → lv_has ls 5 [(0, .ref a_this), (1, .int p1), (2, .ref a_p2), (3, .int x3)] → W p l e { frames := 2, cells := 0, slots := 0, locals := 45 } s m args below meth c H locs 0 0 Q (F0 m 32 ls [])) (fun self hself0 st h => ?_) n (x3, v_rows) h
    obtain ⟨x3, v_rows⟩ := st
    have hself : ∀ (x3 : Int32) (v_rows : Nat → Int32), self (x3, v_rows) = some (nv_teams, nv_days, nv_rows) → ∀ (H : Heap) (locs : List Loc) (ls : Array Slot), va_P D vwCl ((wd_X3 cI cZ cP a_this a_rows v_teams v_days v_rows) ++ (wd_I cI cZ cP a_p2 n_p2 v_p2)) H → va_D A ((wd_X3 cI cZ cP a_this a_rows v_teams v_days v_rows) ++ (wd_I cI cZ cP a_p2 n_p2 v_p2)) → va_S A s.heap H locs → lv_has ls 5 [(0, .ref a_this), (1, .int p1), (2, .ref a_p2), (3, .int x3)] → W p l e { frames := 2, cells := 0, slots := 0, locals := 45 } s m args below meth c H locs 0 0 Q (F0 m 32 ls []) := fun x3 v_rows h => hself0 (x3, v_rows) h
    clear hself0
    intro H locs ls hP hD hS hl
    replace h : (if p1 ≤ x3 then some (v_teams, v_days, v_rows) else (f_X3_pair v_teams v_days v_rows x3 p1 x3).bind (fun v_rows_10 => lp (f_X3_fillBy_L47 self n_p2 v_p2 p1 x3 v_teams v_days) 20000 ((1 : Int32), v_rows_10))) = some (nv_teams, nv_days, nv_rows) := h
    refine lv_iload_n hx hb dX3_fillBy_32 rfl (lv_at hl 3 rfl) ?_
    refine lv_iload_n hx hb dX3_fillBy_33 rfl (lv_at hl 1 rfl) ?_
    refine lv_icmp_ge (tgt := 84) hx hb dX3_fillBy_34 (by decide) (fun c_9 => ?_) (fun c_9 => ?_)
    · replace h := it_pos h c_9
      obtain ⟨rfl, rfl, rfl⟩ := inj3 h
      exact hret dX3_fillBy_84 hP hD hS
    · replace h := it_neg h c_9
      refine lv_aload_n hx hb dX3_fillBy_37 rfl (lv_at hl 0 rfl) ?_
      refine lv_iload_n hx hb dX3_fillBy_38 rfl (lv_at hl 3 rfl) ?_
      refine lv_iload_n hx hb dX3_fillBy_39 rfl (lv_at hl 1 rfl) ?_
      refine lv_iload_n hx hb dX3_fillBy_40 rfl (lv_at hl 3 rfl) ?_
      obtain ⟨v_rows_10, hc_11, h⟩ := bi_some h
      refine rd_callVv [.int x3, .int p1, .int x3] [] (wr := [(a_p2, .inl (cI, n_p2, .inl v_p2))]) (W1 := (wd_X3 cI cZ cP a_this a_rows v_teams v_days v_rows_10) ++ (wd_I cI cZ cP a_p2 n_p2 v_p2)) (ci := 3) ⟨hx, hb, hml, hown, hts⟩ (c_X3_pair l D cI cZ cP a_this a_rows v_teams v_days v_rows x3 p1 x3 v_rows_10 hc_11) (cwV 3 hts gX3_fillBy_X3_pair rfl rfl rfl (by decide +kernel) ⟨Nat.le_of_ble_eq_true rfl, Nat.le_of_ble_eq_true rfl⟩) rfl rfl hl.1 (Nat.le_of_ble_eq_true rfl) dX3_fillBy_41 ⟨Nat.zero_le _, Nat.zero_le _⟩ hK hP hD hS hA rfl rfl [0, 1] [2] [1, 2, 0] ⟨⟨rfl, rfl, rfl⟩, by decide⟩ (fun H locs hP hD hS => ?_)
      refine lv_iconst (v := 1) hx hb dX3_fillBy_44 (by decide) ?_
      refine lv_istore (lv' := [(4, .int (1 : Int32)), (0, .ref a_this), (1, .int p1), (2, .ref a_p2), (3, .int x3)]) hx hb dX3_fillBy_45 hl (by decide) rfl (fun ls hl => ?_)
      exact w47 x3 v_teams v_days _ hself 20000 (1 : Int32) v_rows_10 h _ _ _ hP hD hS (lv_sub hl [1, 2, 3, 4, 0] rfl)
  refine lv_iload_n hx hb dX3_fillBy_0 rfl (lv_at hl 1 rfl) ?_
  refine lv_iconst (v := 1) hx hb dX3_fillBy_1 (by decide) ?_
  refine lv_icmp_lt (tgt := 17) hx hb dX3_fillBy_2 (by decide) (fun c_12 => ?_) (fun c_12 => ?_)
  · replace h := it_pos h c_12
    obtain ⟨rfl, rfl, rfl⟩ := inj3 h
    exact hret dX3_fillBy_17 hP hD hS
  · replace h := it_neg h c_12
    refine lv_iload_n hx hb dX3_fillBy_5 rfl (lv_at hl 1 rfl) ?_
    refine lv_bipush (v := 13) hx hb dX3_fillBy_6 (by decide) ?_
    refine lv_icmp_gt (tgt := 17) hx hb dX3_fillBy_8 (by decide) (fun c_13 => ?_) (fun c_13 => ?_)
    · replace h := it_pos h c_13
      obtain ⟨rfl, rfl, rfl⟩ := inj3 h
      exact hret dX3_fillBy_17 hP hD hS
    · replace h := it_neg h c_13
      refine lv_aload_n hx hb dX3_fillBy_11 rfl (lv_at hl 2 rfl) ?_
      refine va_alen (ty := .int) (v := Int32.ofNat n_p2) hx hb hK hP 2 0 rfl rfl rfl dX3_fillBy_12 ?_
      refine lv_iload_n hx hb dX3_fillBy_13 rfl (lv_at hl 1 rfl) ?_
      refine lv_icmp_ge (tgt := 18) hx hb dX3_fillBy_14 (by decide) (fun c_14 => ?_) (fun c_14 => ?_)
      · replace h := it_pos h c_14
        refine lv_aload_n hx hb dX3_fillBy_18 rfl (lv_at hl 0 rfl) ?_
        refine lv_iload_n hx hb dX3_fillBy_19 rfl (lv_at hl 1 rfl) ?_
        refine lv_iconst (v := 1) hx hb dX3_fillBy_20 (by decide) ?_
        refine lv_iadd hx hb dX3_fillBy_21 ?_
        obtain ⟨⟨v_teams_15, v_days_16⟩, hc_17, h⟩ := bi_some h
        refine rd_callVv [.int (p1 + (1 : Int32))] [] (wr := [(a_p2, .inl (cI, n_p2, .inl v_p2))]) (W1 := (wd_X3 cI cZ cP a_this a_rows v_teams_15 v_days_16 v_rows) ++ (wd_I cI cZ cP a_p2 n_p2 v_p2)) (ci := 3) ⟨hx, hb, hml, hown, hts⟩ (c_X3_clear l D cI cZ cP a_this a_rows v_teams v_days v_rows (p1 + (1 : Int32)) v_teams_15 v_days_16 hc_17) (cwV 1 hts gX3_fillBy_X3_clear rfl rfl rfl (by decide +kernel) ⟨Nat.le_of_ble_eq_true rfl, Nat.le_of_ble_eq_true rfl⟩) rfl rfl hl.1 (Nat.le_of_ble_eq_true rfl) dX3_fillBy_22 ⟨Nat.zero_le _, Nat.zero_le _⟩ hK hP hD hS hA rfl rfl [0, 1] [2] [1, 2, 0] ⟨⟨rfl, rfl, rfl⟩, by decide⟩ (fun H locs hP hD hS => ?_)
        refine lv_aload_n hx hb dX3_fillBy_25 rfl (lv_at hl 0 rfl) ?_
        refine lv_iload_n hx hb dX3_fillBy_26 rfl (lv_at hl 1 rfl) ?_
        refine rd_put (W1 := (wd_X3 cI cZ cP a_this a_rows v_teams_15 p1 v_rows) ++ (wd_I cI cZ cP a_p2 n_p2 v_p2)) (C := RX3) (T := TX3) (N := 3) (ci := 3) hx hb hts in_X3_fillBy_X3 tyX3 tyX3_ok nmX3 hown hK hP hD hS 0 rfl rfl 1 (by decide) kw1 (fun _ h9 => h9) rfl rfl rfl (Nat.le_of_ble_eq_true rfl) rfl dX3_fillBy_27 (fun H locs hP hD hS => ?_)
        refine lv_iconst (v := 0) hx hb dX3_fillBy_30 (by decide) ?_
        refine lv_istore_n (lv' := [(3, .int (0 : Int32)), (0, .ref a_this), (1, .int p1), (2, .ref a_p2)]) hx hb dX3_fillBy_31 rfl hl (by decide) rfl (fun ls hl => ?_)
        exact w32 v_teams_15 p1 20000 (0 : Int32) v_rows h _ _ _ hP hD hS (lv_sub hl [1, 2, 3, 0] rfl)
      · replace h := it_neg h c_14
        obtain ⟨rfl, rfl, rfl⟩ := inj3 h
        exact hret dX3_fillBy_17 hP hD hS
