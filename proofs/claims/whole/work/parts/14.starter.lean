theorem in_X6_begin_X6 : ∀ w ∈ wsX60, w ∈ wsX6_begin := by decide +kernel
def f_X6_begin (v_counted : Int32) (v_perfect : Int32) (v_m : Int32) (v_wanted : Int32) (v_judging : Int32) (p1 : Int32) (p2 : Int32) (p3 : Int32) : Option (Int32 × Int32 × Int32 × Int32 × Int32) := if (p3 = 0 ∨ p3 = 1) then some ((0 : Int32), (0 : Int32), p1, p2, p3) else none
set_option maxHeartbeats 4000000 in
set_option maxRecDepth 100000 in
theorem c_X6_begin (l : Launch) (D : va_G) (cI cZ cP : ClassId) (a_this : Nat) (a_row : Nat) (a_plan : Nat) (a_plan_rows : Nat) (v_counted : Int32) (v_perfect : Int32) (v_m : Int32) (v_wanted : Int32) (v_judging : Int32) (v_row : Nat → Int32) (v_plan_teams : Int32) (v_plan_days : Int32) (v_plan_rows : Nat → Int32) (p1 : Int32) (p2 : Int32) (p3 : Int32) (nv_counted : Int32) (nv_perfect : Int32) (nv_m : Int32) (nv_wanted : Int32) (nv_judging : Int32) (h : f_X6_begin v_counted v_perfect v_m v_wanted v_judging p1 p2 p3 = some (nv_counted, nv_perfect, nv_m, nv_wanted, nv_judging)) : rd_V l yX6_begin wsX6_begin { frames := 0, cells := 0, slots := 0, locals := 0 } [.ref a_this, .int p1, .int p2, .int p3] D (tyA cI cZ cP) (wd_X6 cI cZ cP a_this a_row a_plan a_plan_rows v_counted v_perfect v_m v_wanted v_judging v_row v_plan_teams v_plan_days v_plan_rows) (wd_X6 cI cZ cP a_this a_row a_plan a_plan_rows nv_counted nv_perfect nv_m nv_wanted nv_judging v_row v_plan_teams v_plan_days v_plan_rows) := by
  unfold f_X6_begin at h
  refine rd_enterV (cc := cX6_begin) (maxL := 4) (by decide) rfl (Nat.le_of_ble_eq_true rfl) ?_
  intro p e s m args below meth c A Q ls hx hb hml hown hts hA hK hP hD hS hl hret
  have hl : lv_has ls 4 [(0, .ref a_this), (1, .int p1), (2, .int p2), (3, .int p3)] := hl
  have kw1 := hts (.fieldLink RX6 34 "RoundDays$StarterList" "m" "I") (List.mem_of_getElem? (i := 1) rfl)
  have kw2 := hts (.fieldLink RX6 38 "RoundDays$StarterList" "wanted" "I") (List.mem_of_getElem? (i := 2) rfl)
  have kw3 := hts (.fieldLink RX6 41 "RoundDays$StarterList" "judging" "Z") (List.mem_of_getElem? (i := 3) rfl)
  have kw4 := hts (.fieldLink RX6 45 "RoundDays$StarterList" "counted" "I") (List.mem_of_getElem? (i := 4) rfl)
  have kw5 := hts (.fieldLink RX6 48 "RoundDays$StarterList" "perfect" "I") (List.mem_of_getElem? (i := 5) rfl)
  refine lv_aload_n hx hb dX6_begin_0 rfl (lv_at hl 0 rfl) ?_
  refine lv_iload_n hx hb dX6_begin_1 rfl (lv_at hl 1 rfl) ?_
  refine rd_put (W1 := wd_X6 cI cZ cP a_this a_row a_plan a_plan_rows v_counted v_perfect p1 v_wanted v_judging v_row v_plan_teams v_plan_days v_plan_rows) (C := RX6) (T := TX6) (N := 7) (ci := 6) hx hb hts in_X6_begin_X6 tyX6 tyX6_ok nmX6 hown hK hP hD hS 0 rfl rfl 4 (by decide) kw1 (fun _ h9 => h9) rfl rfl rfl (Nat.le_of_ble_eq_true rfl) rfl dX6_begin_2 (fun H locs hP hD hS => ?_)
  refine lv_aload_n hx hb dX6_begin_5 rfl (lv_at hl 0 rfl) ?_
  refine lv_iload_n hx hb dX6_begin_6 rfl (lv_at hl 2 rfl) ?_
  refine rd_put (W1 := wd_X6 cI cZ cP a_this a_row a_plan a_plan_rows v_counted v_perfect p1 p2 v_judging v_row v_plan_teams v_plan_days v_plan_rows) (C := RX6) (T := TX6) (N := 7) (ci := 6) hx hb hts in_X6_begin_X6 tyX6 tyX6_ok nmX6 hown hK hP hD hS 0 rfl rfl 5 (by decide) kw2 (fun _ h9 => h9) rfl rfl rfl (Nat.le_of_ble_eq_true rfl) rfl dX6_begin_7 (fun H locs hP hD hS => ?_)
  refine lv_aload_n hx hb dX6_begin_10 rfl (lv_at hl 0 rfl) ?_
  refine lv_iload_n hx hb dX6_begin_11 rfl (lv_at hl 3 rfl) ?_
  obtain ⟨hz_1, h⟩ := gd_some h
  refine rd_put (W1 := wd_X6 cI cZ cP a_this a_row a_plan a_plan_rows v_counted v_perfect p1 p2 p3 v_row v_plan_teams v_plan_days v_plan_rows) (C := RX6) (T := TX6) (N := 7) (ci := 6) hx hb hts in_X6_begin_X6 tyX6 tyX6_ok nmX6 hown hK hP hD hS 0 rfl rfl 6 (by decide) kw3 (fun _ h9 => h9) rfl (rd_b01 hz_1) (rd_f01 hz_1) (Nat.le_of_ble_eq_true rfl) rfl dX6_begin_12 (fun H locs hP hD hS => ?_)
  refine lv_aload_n hx hb dX6_begin_15 rfl (lv_at hl 0 rfl) ?_
  refine lv_iconst (v := 0) hx hb dX6_begin_16 (by decide) ?_
  refine rd_put (W1 := wd_X6 cI cZ cP a_this a_row a_plan a_plan_rows (0 : Int32) v_perfect p1 p2 p3 v_row v_plan_teams v_plan_days v_plan_rows) (C := RX6) (T := TX6) (N := 7) (ci := 6) hx hb hts in_X6_begin_X6 tyX6 tyX6_ok nmX6 hown hK hP hD hS 0 rfl rfl 1 (by decide) kw4 (fun _ h9 => h9) rfl rfl rfl (Nat.le_of_ble_eq_true rfl) rfl dX6_begin_17 (fun H locs hP hD hS => ?_)
  refine lv_aload_n hx hb dX6_begin_20 rfl (lv_at hl 0 rfl) ?_
  refine lv_iconst (v := 0) hx hb dX6_begin_21 (by decide) ?_
  refine rd_put (W1 := wd_X6 cI cZ cP a_this a_row a_plan a_plan_rows (0 : Int32) (0 : Int32) p1 p2 p3 v_row v_plan_teams v_plan_days v_plan_rows) (C := RX6) (T := TX6) (N := 7) (ci := 6) hx hb hts in_X6_begin_X6 tyX6 tyX6_ok nmX6 hown hK hP hD hS 0 rfl rfl 2 (by decide) kw5 (fun _ h9 => h9) rfl rfl rfl (Nat.le_of_ble_eq_true rfl) rfl dX6_begin_22 (fun H locs hP hD hS => ?_)
  obtain ⟨rfl, rfl, rfl, rfl, rfl⟩ := inj5 h
  exact hret dX6_begin_25 hP hD hS
theorem in_X6_numbers_X6 : ∀ w ∈ wsX60, w ∈ wsX6_numbers := by decide +kernel
def f_X6_numbers (v_m : Int32) : Option (Int32) := some (((1 : Int32) <<< (v_m &&& (31 : Int32))) - (2 : Int32))
set_option maxHeartbeats 4000000 in
set_option maxRecDepth 100000 in
theorem c_X6_numbers (l : Launch) (D : va_G) (cI cZ cP : ClassId) (a_this : Nat) (a_row : Nat) (a_plan : Nat) (a_plan_rows : Nat) (v_counted : Int32) (v_perfect : Int32) (v_m : Int32) (v_wanted : Int32) (v_judging : Int32) (v_row : Nat → Int32) (v_plan_teams : Int32) (v_plan_days : Int32) (v_plan_rows : Nat → Int32) (r : Int32) (h : f_X6_numbers v_m = some r) : rd_I l yX6_numbers wsX6_numbers { frames := 0, cells := 0, slots := 0, locals := 0 } [.ref a_this] D (tyA cI cZ cP) (wd_X6 cI cZ cP a_this a_row a_plan a_plan_rows v_counted v_perfect v_m v_wanted v_judging v_row v_plan_teams v_plan_days v_plan_rows) (wd_X6 cI cZ cP a_this a_row a_plan a_plan_rows v_counted v_perfect v_m v_wanted v_judging v_row v_plan_teams v_plan_days v_plan_rows) r := by
  unfold f_X6_numbers at h
  refine rd_enterI (cc := cX6_numbers) (maxL := 1) (by decide) rfl (Nat.le_of_ble_eq_true rfl) ?_
  intro p e s m args below meth c A Q ls hx hb hml hown hts hA hK hP hD hS hl hret
  have hl : lv_has ls 1 [(0, .ref a_this)] := hl
  have kw1 := hts (.fieldLink RX6 34 "RoundDays$StarterList" "m" "I") (List.mem_of_getElem? (i := 1) rfl)
  refine lv_iconst (v := 1) hx hb dX6_numbers_0 (by decide) ?_
  refine lv_aload_n hx hb dX6_numbers_1 rfl (lv_at hl 0 rfl) ?_
  refine va_get (D := D) (ci := 6) (v := .int v_m) (C := RX6) (T := TX6) (N := 7) hx hb hts in_X6_numbers_X6 hown hK hP 0 rfl rfl 4 (by decide) kw1 (fun _ h9 => h9) rfl dX6_numbers_2 ?_
  refine lv_ishl hx hb dX6_numbers_5 ?_
  refine lv_iconst (v := 2) hx hb dX6_numbers_6 (by decide) ?_
  refine lv_isub hx hb dX6_numbers_7 ?_
  obtain rfl := inj1 h
  exact hret dX6_numbers_8 hP hD hS
theorem in_X6_isWanted_X6 : ∀ w ∈ wsX60, w ∈ wsX6_isWanted := by decide +kernel
def f_X6_isWanted (v_counted : Int32) (v_perfect : Int32) (v_m : Int32) (v_wanted : Int32) (v_judging : Int32) (v_row : Nat → Int32) (v_plan_teams : Int32) (v_plan_days : Int32) (v_plan_rows : Nat → Int32) : Option (Int32 × Int32 × Int32 × Int32 × Int32 × (Nat → Int32)) := if v_counted = v_wanted then some ((1 : Int32), v_counted, v_perfect, v_plan_teams, v_plan_days, v_plan_rows) else bd (v_counted + (1 : Int32)) (fun v_counted_2 => if v_judging = 0 then some ((0 : Int32), v_counted_2, v_perfect, v_plan_teams, v_plan_days, v_plan_rows) else (f_X3_fillBy 13 v_plan_teams v_plan_days v_plan_rows v_row v_m).bind (fun t => match t with | (v_teams_4, v_days_5, v_rows_6) => (f_X3_isFirstOneWithAll v_teams_4 v_days_5 v_rows_6).bind (fun r_8 => if r_8 = 0 then some ((0 : Int32), v_counted_2, v_perfect, v_teams_4, v_days_5, v_rows_6) else bd (v_perfect + (1 : Int32)) (fun v_perfect_11 => some ((0 : Int32), v_counted_2, v_perfect_11, v_teams_4, v_days_5, v_rows_6)))))
set_option maxHeartbeats 4000000 in
set_option maxRecDepth 100000 in
theorem c_X6_isWanted (l : Launch) (D : va_G) (cI cZ cP : ClassId) (a_this : Nat) (a_row : Nat) (a_plan : Nat) (a_plan_rows : Nat) (v_counted : Int32) (v_perfect : Int32) (v_m : Int32) (v_wanted : Int32) (v_judging : Int32) (v_row : Nat → Int32) (v_plan_teams : Int32) (v_plan_days : Int32) (v_plan_rows : Nat → Int32) (r : Int32) (nv_counted : Int32) (nv_perfect : Int32) (nv_plan_teams : Int32) (nv_plan_days : Int32) (nv_plan_rows : Nat → Int32) (h : f_X6_isWanted v_counted v_perfect v_m v_wanted v_judging v_row v_plan_teams v_plan_days v_plan_rows = some (r, nv_counted, nv_perfect, nv_plan_teams, nv_plan_days, nv_plan_rows)) : rd_I l yX6_isWanted wsX6_isWanted { frames := 3, cells := 0, slots := 0, locals := 71 } [.ref a_this] D (tyA cI cZ cP) (wd_X6 cI cZ cP a_this a_row a_plan a_plan_rows v_counted v_perfect v_m v_wanted v_judging v_row v_plan_teams v_plan_days v_plan_rows) (wd_X6 cI cZ cP a_this a_row a_plan a_plan_rows nv_counted nv_perfect v_m v_wanted v_judging v_row nv_plan_teams nv_plan_days nv_plan_rows) r := by
  unfold f_X6_isWanted at h
  refine rd_enterZ (cc := cX6_isWanted) (maxL := 1) (by decide) rfl (Nat.le_of_ble_eq_true rfl) ?_
  intro p e s m args below meth c A Q ls hx hb hml hown hts hA hK hP hD hS hl hret
  have hl : lv_has ls 1 [(0, .ref a_this)] := hl
  have kw1 := hts (.fieldLink RX6 45 "RoundDays$StarterList" "counted" "I") (List.mem_of_getElem? (i := 1) rfl)
  have kw2 := hts (.fieldLink RX6 38 "RoundDays$StarterList" "wanted" "I") (List.mem_of_getElem? (i := 2) rfl)
  have kw3 := hts (.fieldLink RX6 41 "RoundDays$StarterList" "judging" "Z") (List.mem_of_getElem? (i := 3) rfl)
  have kw4 := hts (.fieldLink RX6 18 "RoundDays$StarterList" "plan" "LRoundDays$Plan;") (List.mem_of_getElem? (i := 4) rfl)
  have kw5 := hts (.fieldLink RX6 34 "RoundDays$StarterList" "m" "I") (List.mem_of_getElem? (i := 5) rfl)
  have kw6 := hts (.fieldLink RX6 9 "RoundDays$StarterList" "row" "[I") (List.mem_of_getElem? (i := 6) rfl)
  have kw7 := hts (.fieldLink RX6 48 "RoundDays$StarterList" "perfect" "I") (List.mem_of_getElem? (i := 7) rfl)
  refine lv_aload_n hx hb dX6_isWanted_0 rfl (lv_at hl 0 rfl) ?_
  refine va_get (D := D) (ci := 6) (v := .int v_counted) (C := RX6) (T := TX6) (N := 7) hx hb hts in_X6_isWanted_X6 hown hK hP 0 rfl rfl 1 (by decide) kw1 (fun _ h9 => h9) rfl dX6_isWanted_1 ?_
  refine lv_aload_n hx hb dX6_isWanted_4 rfl (lv_at hl 0 rfl) ?_
  refine va_get (D := D) (ci := 6) (v := .int v_wanted) (C := RX6) (T := TX6) (N := 7) hx hb hts in_X6_isWanted_X6 hown hK hP 0 rfl rfl 5 (by decide) kw2 (fun _ h9 => h9) rfl dX6_isWanted_5 ?_
  refine lv_icmp_ne (tgt := 13) hx hb dX6_isWanted_8 (by decide) (fun c_1 => ?_) (fun c_1 => ?_)
  · replace h := it_neg h c_1
    refine lv_aload_n hx hb dX6_isWanted_13 rfl (lv_at hl 0 rfl) ?_
    refine lv_dup hx hb dX6_isWanted_14 rfl ?_
    refine va_get (D := D) (ci := 6) (v := .int v_counted) (C := RX6) (T := TX6) (N := 7) hx hb hts in_X6_isWanted_X6 hown hK hP 0 rfl rfl 1 (by decide) kw1 (fun _ h9 => h9) rfl dX6_isWanted_15 ?_
    refine lv_iconst (v := 1) hx hb dX6_isWanted_18 (by decide) ?_
    refine lv_iadd hx hb dX6_isWanted_19 ?_
    obtain ⟨v_counted_2, ev_counted_2, h⟩ := bd_some h
    refine rd_top ev_counted_2 ?_
    refine rd_put (W1 := wd_X6 cI cZ cP a_this a_row a_plan a_plan_rows v_counted_2 v_perfect v_m v_wanted v_judging v_row v_plan_teams v_plan_days v_plan_rows) (C := RX6) (T := TX6) (N := 7) (ci := 6) hx hb hts in_X6_isWanted_X6 tyX6 tyX6_ok nmX6 hown hK hP hD hS 0 rfl rfl 1 (by decide) kw1 (fun _ h9 => h9) rfl rfl rfl (Nat.le_of_ble_eq_true rfl) rfl dX6_isWanted_20 (fun H locs hP hD hS => ?_)
    refine lv_aload_n hx hb dX6_isWanted_23 rfl (lv_at hl 0 rfl) ?_
    refine va_get (D := D) (ci := 6) (v := .int v_judging) (C := RX6) (T := TX6) (N := 7) hx hb hts in_X6_isWanted_X6 hown hK hP 0 rfl rfl 6 (by decide) kw3 (fun _ h9 => h9) rfl dX6_isWanted_24 ?_
    refine lv_if_eq (tgt := 65) hx hb dX6_isWanted_27 (by decide) (fun c_3 => ?_) (fun c_3 => ?_)
    · replace h := it_pos h c_3
      refine lv_iconst (v := 0) hx hb dX6_isWanted_65 (by decide) ?_
      obtain ⟨rfl, rfl, rfl, rfl, rfl, rfl⟩ := inj6 h
      exact hret (by decide) dX6_isWanted_66 hP hD hS
    · replace h := it_neg h c_3
      refine lv_aload_n hx hb dX6_isWanted_30 rfl (lv_at hl 0 rfl) ?_
      refine va_get (D := D) (ci := 6) (v := .ref a_plan) (C := RX6) (T := TX6) (N := 7) hx hb hts in_X6_isWanted_X6 hown hK hP 0 rfl rfl 3 (by decide) kw4 (fun _ h9 => h9) rfl dX6_isWanted_31 ?_
      refine lv_aload_n hx hb dX6_isWanted_34 rfl (lv_at hl 0 rfl) ?_
      refine va_get (D := D) (ci := 6) (v := .int v_m) (C := RX6) (T := TX6) (N := 7) hx hb hts in_X6_isWanted_X6 hown hK hP 0 rfl rfl 4 (by decide) kw5 (fun _ h9 => h9) rfl dX6_isWanted_35 ?_
      refine lv_aload_n hx hb dX6_isWanted_38 rfl (lv_at hl 0 rfl) ?_
      refine va_get (D := D) (ci := 6) (v := .ref a_row) (C := RX6) (T := TX6) (N := 7) hx hb hts in_X6_isWanted_X6 hown hK hP 0 rfl rfl 0 (by decide) kw6 (fun _ h9 => h9) rfl dX6_isWanted_39 ?_
      obtain ⟨⟨v_teams_4, v_days_5, v_rows_6⟩, hc_7, h⟩ := bi_some h
      refine rd_callVv [.int v_m, .ref a_row] [] (wr := [(a_this, .inr (6, [.ref a_row, .int v_counted_2, .int v_perfect, .ref a_plan, .int v_m, .int v_wanted, .int v_judging]))]) (W1 := wd_X6 cI cZ cP a_this a_row a_plan a_plan_rows v_counted_2 v_perfect v_m v_wanted v_judging v_row v_teams_4 v_days_5 v_rows_6) (ci := 3) ⟨hx, hb, hml, hown, hts⟩ (c_X3_fillBy l D cI cZ cP a_plan a_plan_rows a_row 13 v_plan_teams v_plan_days v_plan_rows v_row v_m v_teams_4 v_days_5 v_rows_6 hc_7) (cwV 2 hts gX6_isWanted_X3_fillBy rfl rfl rfl (by decide +kernel) ⟨Nat.le_of_ble_eq_true rfl, Nat.le_of_ble_eq_true rfl⟩) rfl rfl hl.1 (Nat.le_of_ble_eq_true rfl) dX6_isWanted_42 ⟨Nat.zero_le _, Nat.zero_le _⟩ hK hP hD hS hA rfl rfl [2, 3, 1] [0] [0, 3, 1, 2] ⟨⟨rfl, rfl, rfl⟩, by decide⟩ (fun H locs hP hD hS => ?_)
      refine lv_aload_n hx hb dX6_isWanted_45 rfl (lv_at hl 0 rfl) ?_
      refine va_get (D := D) (ci := 6) (v := .ref a_plan) (C := RX6) (T := TX6) (N := 7) hx hb hts in_X6_isWanted_X6 hown hK hP 0 rfl rfl 3 (by decide) kw4 (fun _ h9 => h9) rfl dX6_isWanted_46 ?_
      obtain ⟨r_8, hc_9, h⟩ := bi_some h
      refine rd_callVi [] [] (wr := [(a_this, .inr (6, [.ref a_row, .int v_counted_2, .int v_perfect, .ref a_plan, .int v_m, .int v_wanted, .int v_judging])), (a_row, .inl (cI, 13, .inl v_row))]) (W1 := wd_X6 cI cZ cP a_this a_row a_plan a_plan_rows v_counted_2 v_perfect v_m v_wanted v_judging v_row v_teams_4 v_days_5 v_rows_6) (ci := 3) ⟨hx, hb, hml, hown, hts⟩ (c_X3_isFirstOneWithAll l D cI cZ cP a_plan a_plan_rows v_teams_4 v_days_5 v_rows_6 r_8 hc_9) (cwV 0 hts gX6_isWanted_X3_isFirstOneWithAll rfl rfl rfl (by decide +kernel) ⟨Nat.le_of_ble_eq_true rfl, Nat.le_of_ble_eq_true rfl⟩) rfl rfl hl.1 (Nat.le_of_ble_eq_true rfl) dX6_isWanted_49 ⟨Nat.zero_le _, Nat.zero_le _⟩ hK hP hD hS hA rfl rfl [2, 3] [0, 1] [0, 1, 2, 3] ⟨⟨rfl, rfl, rfl⟩, by decide⟩ (fun H locs hP hD hS => ?_)
      refine lv_if_eq (tgt := 65) hx hb dX6_isWanted_52 (by decide) (fun c_10 => ?_) (fun c_10 => ?_)
      · replace h := it_pos h c_10
        refine lv_iconst (v := 0) hx hb dX6_isWanted_65 (by decide) ?_
        obtain ⟨rfl, rfl, rfl, rfl, rfl, rfl⟩ := inj6 h
        exact hret (by decide) dX6_isWanted_66 hP hD hS
      · replace h := it_neg h c_10
        refine lv_aload_n hx hb dX6_isWanted_55 rfl (lv_at hl 0 rfl) ?_
        refine lv_dup hx hb dX6_isWanted_56 rfl ?_
        refine va_get (D := D) (ci := 6) (v := .int v_perfect) (C := RX6) (T := TX6) (N := 7) hx hb hts in_X6_isWanted_X6 hown hK hP 0 rfl rfl 2 (by decide) kw7 (fun _ h9 => h9) rfl dX6_isWanted_57 ?_
        refine lv_iconst (v := 1) hx hb dX6_isWanted_60 (by decide) ?_
        refine lv_iadd hx hb dX6_isWanted_61 ?_
        obtain ⟨v_perfect_11, ev_perfect_11, h⟩ := bd_some h
        refine rd_top ev_perfect_11 ?_
        refine rd_put (W1 := wd_X6 cI cZ cP a_this a_row a_plan a_plan_rows v_counted_2 v_perfect_11 v_m v_wanted v_judging v_row v_teams_4 v_days_5 v_rows_6) (C := RX6) (T := TX6) (N := 7) (ci := 6) hx hb hts in_X6_isWanted_X6 tyX6 tyX6_ok nmX6 hown hK hP hD hS 0 rfl rfl 2 (by decide) kw7 (fun _ h9 => h9) rfl rfl rfl (Nat.le_of_ble_eq_true rfl) rfl dX6_isWanted_62 (fun H locs hP hD hS => ?_)
        refine lv_iconst (v := 0) hx hb dX6_isWanted_65 (by decide) ?_
        obtain ⟨rfl, rfl, rfl, rfl, rfl, rfl⟩ := inj6 h
        exact hret (by decide) dX6_isWanted_66 hP hD hS
  · replace h := it_pos h c_1
    refine lv_iconst (v := 1) hx hb dX6_isWanted_11 (by decide) ?_
    obtain ⟨rfl, rfl, rfl, rfl, rfl, rfl⟩ := inj6 h
    exact hret (by decide) dX6_isWanted_12 hP hD hS
theorem in_X6_seek_X6 : ∀ w ∈ wsX60, w ∈ wsX6_seek := by decide +kernel
def f_X6_seek_L60 (self_ : Int32 × Int32 × (Nat → Int32) × Int32 × Int32 × (Nat → Int32) × Int32 × Int32 × Int32 → Option (Int32 × Int32 × Int32 × (Nat → Int32) × Int32 × Int32 × (Nat → Int32))) (v_m : Int32) (v_wanted : Int32) (v_judging : Int32) (p1 : Int32) (p2 : Int32) (p3 : Int32) (x4 : Int32) (self : Int32 × Int32 × Int32 × (Nat → Int32) × Int32 × Int32 × (Nat → Int32) → Option (Int32 × Int32 × Int32 × (Nat → Int32) × Int32 × Int32 × (Nat → Int32))) : Int32 × Int32 × Int32 × (Nat → Int32) × Int32 × Int32 × (Nat → Int32) → Option (Int32 × Int32 × Int32 × (Nat → Int32) × Int32 × Int32 × (Nat → Int32)) := fun st => match st with | (x5, v_counted, v_perfect, v_row, v_plan_teams, v_plan_days, v_plan_rows) => if v_m ≤ x5 then some ((0 : Int32), v_counted, v_perfect, v_row, v_plan_teams, v_plan_days, v_plan_rows) else if (13 : Int32) ≤ x5 then some ((0 : Int32), v_counted, v_perfect, v_row, v_plan_teams, v_plan_days, v_plan_rows) else bd (x5 - x4) (fun x6_3 => if ((p1 >>> (x5 &&& (31 : Int32))) &&& (1 : Int32)) = (1 : Int32) then if ((p2 >>> (x6_3 &&& (31 : Int32))) &&& (1 : Int32)) = 0 then if inb x4 13 then bd (upd v_row x4.toNatClampNeg x5) (fun v_row_9 => if inb x5 13 then bd (upd v_row_9 x5.toNatClampNeg x4) (fun v_row_11 => bd (((1 : Int32) <<< (x6_3 &&& (31 : Int32))) ||| ((1 : Int32) <<< ((v_m - x6_3) &&& (31 : Int32)))) (fun x7_12 => (self_ (v_counted, v_perfect, v_row_11, v_plan_teams, v_plan_days, v_plan_rows, (p1 &&& ((((1 : Int32) <<< (x4 &&& (31 : Int32))) ||| ((1 : Int32) <<< (x5 &&& (31 : Int32)))) ^^^ (-1 : Int32))), (p2 ||| x7_12), (x4 + (1 : Int32)))).bind (fun t => match t with | (r_13, v_counted_14, v_perfect_15, v_row_16, v_plan_teams_17, v_plan_days_18, v_plan_rows_19) => if r_13 = 0 then bd (x5 + (1 : Int32)) (fun x5_22 => self (x5_22, v_counted_14, v_perfect_15, v_row_16, v_plan_teams_17, v_plan_days_18, v_plan_rows_19)) else some ((1 : Int32), v_counted_14, v_perfect_15, v_row_16, v_plan_teams_17, v_plan_days_18, v_plan_rows_19)))) else none) else none else bd (x5 + (1 : Int32)) (fun x5_7 => self (x5_7, v_counted, v_perfect, v_row, v_plan_teams, v_plan_days, v_plan_rows)) else bd (x5 + (1 : Int32)) (fun x5_5 => self (x5_5, v_counted, v_perfect, v_row, v_plan_teams, v_plan_days, v_plan_rows)))
def f_X6_seek_J36 (self_ : Int32 × Int32 × (Nat → Int32) × Int32 × Int32 × (Nat → Int32) × Int32 × Int32 × Int32 → Option (Int32 × Int32 × Int32 × (Nat → Int32) × Int32 × Int32 × (Nat → Int32))) (v_m : Int32) (v_wanted : Int32) (v_judging : Int32) (p1 : Int32) (p2 : Int32) (p3 : Int32) : Int32 × Int32 × Int32 × (Nat → Int32) × Int32 × Int32 × (Nat → Int32) → Option (Int32 × Int32 × Int32 × (Nat → Int32) × Int32 × Int32 × (Nat → Int32)) := fun st => match st with | (x4, v_counted, v_perfect, v_row, v_plan_teams, v_plan_days, v_plan_rows) => if v_m ≤ x4 then some ((0 : Int32), v_counted, v_perfect, v_row, v_plan_teams, v_plan_days, v_plan_rows) else if x4 < (13 : Int32) then bd (x4 + (1 : Int32)) (fun x5_25 => lp (f_X6_seek_L60 self_ v_m v_wanted v_judging p1 p2 p3 x4) 20000 (x5_25, v_counted, v_perfect, v_row, v_plan_teams, v_plan_days, v_plan_rows)) else some ((0 : Int32), v_counted, v_perfect, v_row, v_plan_teams, v_plan_days, v_plan_rows)
def f_X6_seek_L12 (self_ : Int32 × Int32 × (Nat → Int32) × Int32 × Int32 × (Nat → Int32) × Int32 × Int32 × Int32 → Option (Int32 × Int32 × Int32 × (Nat → Int32) × Int32 × Int32 × (Nat → Int32))) (v_m : Int32) (v_wanted : Int32) (v_judging : Int32) (p1 : Int32) (p2 : Int32) (p3 : Int32) (v_counted : Int32) (v_perfect : Int32) (v_row : Nat → Int32) (v_plan_teams : Int32) (v_plan_days : Int32) (v_plan_rows : Nat → Int32) (self : Int32 → Option (Int32 × Int32 × Int32 × (Nat → Int32) × Int32 × Int32 × (Nat → Int32))) : Int32 → Option (Int32 × Int32 × Int32 × (Nat → Int32) × Int32 × Int32 × (Nat → Int32)) := fun x4 => if v_m ≤ x4 then f_X6_seek_J36 self_ v_m v_wanted v_judging p1 p2 p3 (x4, v_counted, v_perfect, v_row, v_plan_teams, v_plan_days, v_plan_rows) else if ((p1 >>> (x4 &&& (31 : Int32))) &&& (1 : Int32)) = 0 then bd (x4 + (1 : Int32)) (fun x4_28 => self x4_28) else f_X6_seek_J36 self_ v_m v_wanted v_judging p1 p2 p3 (x4, v_counted, v_perfect, v_row, v_plan_teams, v_plan_days, v_plan_rows)
def f_X6_seek_B (v_m : Int32) (v_wanted : Int32) (v_judging : Int32) (self_ : Int32 × Int32 × (Nat → Int32) × Int32 × Int32 × (Nat → Int32) × Int32 × Int32 × Int32 → Option (Int32 × Int32 × Int32 × (Nat → Int32) × Int32 × Int32 × (Nat → Int32))) : Int32 × Int32 × (Nat → Int32) × Int32 × Int32 × (Nat → Int32) × Int32 × Int32 × Int32 → Option (Int32 × Int32 × Int32 × (Nat → Int32) × Int32 × Int32 × (Nat → Int32)) := fun st => match st with | (v_counted, v_perfect, v_row, v_plan_teams, v_plan_days, v_plan_rows, p1, p2, p3) => if p1 = 0 then (f_X6_isWanted v_counted v_perfect v_m v_wanted v_judging v_row v_plan_teams v_plan_days v_plan_rows).bind (fun t => match t with | (r_30, v_counted_31, v_perfect_32, v_plan_teams_33, v_plan_days_34, v_plan_rows_35) => if (r_30 = 0 ∨ r_30 = 1) then some (r_30, v_counted_31, v_perfect_32, v_row, v_plan_teams_33, v_plan_days_34, v_plan_rows_35) else none) else lp (f_X6_seek_L12 self_ v_m v_wanted v_judging p1 p2 p3 v_counted v_perfect v_row v_plan_teams v_plan_days v_plan_rows) 20000 p3
def f_X6_seek (v_m : Int32) (v_wanted : Int32) (v_judging : Int32) : Nat → Int32 × Int32 × (Nat → Int32) × Int32 × Int32 × (Nat → Int32) × Int32 × Int32 × Int32 → Option (Int32 × Int32 × Int32 × (Nat → Int32) × Int32 × Int32 × (Nat → Int32)) := lp (f_X6_seek_B v_m v_wanted v_judging)
set_option maxHeartbeats 4000000 in
set_option maxRecDepth 100000 in
theorem c_X6_seek (dp : Nat) (l : Launch) (D : va_G) (cI cZ cP : ClassId) (a_this : Nat) (a_row : Nat) (a_plan : Nat) (a_plan_rows : Nat) (v_counted : Int32) (v_perfect : Int32) (v_m : Int32) (v_wanted : Int32) (v_judging : Int32) (v_row : Nat → Int32) (v_plan_teams : Int32) (v_plan_days : Int32) (v_plan_rows : Nat → Int32) (p1 : Int32) (p2 : Int32) (p3 : Int32) (r : Int32) (nv_counted : Int32) (nv_perfect : Int32) (nv_row : Nat → Int32) (nv_plan_teams : Int32) (nv_plan_days : Int32) (nv_plan_rows : Nat → Int32) (h : f_X6_seek v_m v_wanted v_judging dp (v_counted, v_perfect, v_row, v_plan_teams, v_plan_days, v_plan_rows, p1, p2, p3) = some (r, nv_counted, nv_perfect, nv_row, nv_plan_teams, nv_plan_days, nv_plan_rows)) : rd_I l yX6_seek wsX6_seek { frames := dp + 4, cells := 0, slots := 0, locals := 27 * dp + 91 } [.ref a_this, .int p1, .int p2, .int p3] D (tyA cI cZ cP) (wd_X6 cI cZ cP a_this a_row a_plan a_plan_rows v_counted v_perfect v_m v_wanted v_judging v_row v_plan_teams v_plan_days v_plan_rows) (wd_X6 cI cZ cP a_this a_row a_plan a_plan_rows nv_counted nv_perfect v_m v_wanted v_judging nv_row nv_plan_teams nv_plan_days nv_plan_rows) r := by
  induction dp generalizing v_counted v_perfect v_row v_plan_teams v_plan_days v_plan_rows p1 p2 p3 r nv_counted nv_perfect nv_row nv_plan_teams nv_plan_days nv_plan_rows with
  | zero => cases h
  | succ dp ih =>
    replace h : f_X6_seek_B v_m v_wanted v_judging (f_X6_seek v_m v_wanted v_judging dp) (v_counted, v_perfect, v_row, v_plan_teams, v_plan_days, v_plan_rows, p1, p2, p3) = some (r, nv_counted, nv_perfect, nv_row, nv_plan_teams, nv_plan_days, nv_plan_rows) := h
    have hself_ := ih
    generalize f_X6_seek v_m v_wanted v_judging dp = self_ at h hself_
    clear ih
    unfold f_X6_seek_B at h
    refine rd_enterZ (cc := cX6_seek) (maxL := 8) (by decide) rfl (Nat.le_of_ble_eq_true rfl) ?_
    intro p e s m args below meth c A Q ls hx hb hml hown hts hA hK hP hD hS hl hret
    have hl : lv_has ls 8 [(0, .ref a_this), (1, .int p1), (2, .int p2), (3, .int p3)] := hl
    have kw1 := hts (.fieldLink RX6 34 "RoundDays$StarterList" "m" "I") (List.mem_of_getElem? (i := 1) rfl)
    have kw2 := hts (.fieldLink RX6 9 "RoundDays$StarterList" "row" "[I") (List.mem_of_getElem? (i := 2) rfl)
    have w60 : ∀ x4 : Int32, ∀ n : Nat, ∀ (x5 : Int32) (v_counted : Int32) (v_perfect : Int32) (v_row : Nat → Int32) (v_plan_teams : Int32) (v_plan_days : Int32) (v_plan_rows : Nat → Int32), lp (f_X6_seek_L60 self_ v_m v_wanted v_judging p1 p2 p3 x4) n (x5, v_counted, v_perfect, v_row, v_plan_teams, v_plan_days, v_plan_rows) = some (r, nv_counted, nv_perfect, nv_row, nv_plan_teams, nv_plan_days, nv_plan_rows) → ∀ (H : Heap) (locs : List Loc) (ls : Array Slot), va_P D vwCl (wd_X6 cI cZ cP a_this a_row a_plan a_plan_rows v_counted v_perfect v_m v_wanted v_judging v_row v_plan_teams v_plan_days v_plan_rows) H → va_D A (wd_X6 cI cZ cP a_this a_row a_plan a_plan_rows v_counted v_perfect v_m v_wanted v_judging v_row v_plan_teams v_plan_days v_plan_rows) → va_S A s.heap H locs → lv_has ls 8 [(0, .ref a_this), (1, .int p1), (2, .int p2), (4, .int x4), (5, .int x5)] → W p l e { frames := dp + 1 + 4, cells := 0, slots := 0, locals := 27 * (dp + 1) + 91 } s m args below meth c H locs 0 0 Q (F0 m 60 ls []) := by
      intro x4
      refine fun n x5 v_counted v_perfect v_row v_plan_teams v_plan_days v_plan_rows h => lp_walk (b := f_X6_seek_L60 self_ v_m v_wanted v_judging p1 p2 p3 x4) (r := (r, nv_counted, nv_perfect, nv_row, nv_plan_teams, nv_plan_days, nv_plan_rows)) (P := fun st => match st with | (x5, v_counted, v_perfect, v_row, v_plan_teams, v_plan_days, v_plan_rows) => ∀ (H : Heap) (locs : List Loc) (ls : Array Slot), va_P D vwCl (wd_X6 cI cZ cP a_this a_row a_plan a_plan_rows v_counted v_perfect v_m v_wanted v_judging v_row v_plan_teams v_plan_days v_plan_rows) H → va_D A (wd_X6 cI cZ cP a_this a_row a_plan a_plan_rows v_counted v_perfect v_m v_wanted v_judging v_row v_plan_teams v_plan_days v_plan_rows) → va_S A s.heap H locs → lv_has ls 8 [(0, .ref a_this), (1, .int p1), (2, .int p2), (4, .int x4), (5, .int x5)] → W p l e { frames := dp + 1 + 4, cells := 0, slots := 0, locals := 27 * (dp + 1) + 91 } s m args below meth c H locs 0 0 Q (F0 m 60 ls [])) (fun self hself0 st h => ?_) n (x5, v_counted, v_perfect, v_row, v_plan_teams, v_plan_days, v_plan_rows) h
      obtain ⟨x5, v_counted, v_perfect, v_row, v_plan_teams, v_plan_days, v_plan_rows⟩ := st
      have hself : ∀ (x5 : Int32) (v_counted : Int32) (v_perfect : Int32) (v_row : Nat → Int32) (v_plan_teams : Int32) (v_plan_days : Int32) (v_plan_rows : Nat → Int32), self (x5, v_counted, v_perfect, v_row, v_plan_teams, v_plan_days, v_plan_rows) = some (r, nv_counted, nv_perfect, nv_row, nv_plan_teams, nv_plan_days, nv_plan_rows) → ∀ (H : Heap) (locs : List Loc) (ls : Array Slot), va_P D vwCl (wd_X6 cI cZ cP a_this a_row a_plan a_plan_rows v_counted v_perfect v_m v_wanted v_judging v_row v_plan_teams v_plan_days v_plan_rows) H → va_D A (wd_X6 cI cZ cP a_this a_row a_plan a_plan_rows v_counted v_perfect v_m v_wanted v_judging v_row v_plan_teams v_plan_days v_plan_rows) → va_S A s.heap H locs → lv_has ls 8 [(0, .ref a_this), (1, .int p1), (2, .int p2), (4, .int x4), (5, .int x5)] → W p l e { frames := dp + 1 + 4, cells := 0, slots := 0, locals := 27 * (dp + 1) + 91 } s m args below meth c H locs 0 0 Q (F0 m 60 ls []) := fun x5 v_counted v_perfect v_row v_plan_teams v_plan_days v_plan_rows h => hself0 (x5, v_counted, v_perfect, v_row, v_plan_teams, v_plan_days, v_plan_rows) h
      clear hself0
      intro H locs ls hP hD hS hl
      replace h : (if v_m ≤ x5 then some ((0 : Int32), v_counted, v_perfect, v_row, v_plan_teams, v_plan_days, v_plan_rows) else if (13 : Int32) ≤ x5 then some ((0 : Int32), v_counted, v_perfect, v_row, v_plan_teams, v_plan_days, v_plan_rows) else bd (x5 - x4) (fun x6_3 => if ((p1 >>> (x5 &&& (31 : Int32))) &&& (1 : Int32)) = (1 : Int32) then if ((p2 >>> (x6_3 &&& (31 : Int32))) &&& (1 : Int32)) = 0 then if inb x4 13 then bd (upd v_row x4.toNatClampNeg x5) (fun v_row_9 => if inb x5 13 then bd (upd v_row_9 x5.toNatClampNeg x4) (fun v_row_11 => bd (((1 : Int32) <<< (x6_3 &&& (31 : Int32))) ||| ((1 : Int32) <<< ((v_m - x6_3) &&& (31 : Int32)))) (fun x7_12 => (self_ (v_counted, v_perfect, v_row_11, v_plan_teams, v_plan_days, v_plan_rows, (p1 &&& ((((1 : Int32) <<< (x4 &&& (31 : Int32))) ||| ((1 : Int32) <<< (x5 &&& (31 : Int32)))) ^^^ (-1 : Int32))), (p2 ||| x7_12), (x4 + (1 : Int32)))).bind (fun t => match t with | (r_13, v_counted_14, v_perfect_15, v_row_16, v_plan_teams_17, v_plan_days_18, v_plan_rows_19) => if r_13 = 0 then bd (x5 + (1 : Int32)) (fun x5_22 => self (x5_22, v_counted_14, v_perfect_15, v_row_16, v_plan_teams_17, v_plan_days_18, v_plan_rows_19)) else some ((1 : Int32), v_counted_14, v_perfect_15, v_row_16, v_plan_teams_17, v_plan_days_18, v_plan_rows_19)))) else none) else none else bd (x5 + (1 : Int32)) (fun x5_7 => self (x5_7, v_counted, v_perfect, v_row, v_plan_teams, v_plan_days, v_plan_rows)) else bd (x5 + (1 : Int32)) (fun x5_5 => self (x5_5, v_counted, v_perfect, v_row, v_plan_teams, v_plan_days, v_plan_rows)))) = some (r, nv_counted, nv_perfect, nv_row, nv_plan_teams, nv_plan_days, nv_plan_rows) := h
      refine lv_iload hx hb dX6_seek_60 (lv_at hl 4 rfl) ?_
      refine lv_aload_n hx hb dX6_seek_62 rfl (lv_at hl 0 rfl) ?_
      refine va_get (D := D) (ci := 6) (v := .int v_m) (C := RX6) (T := TX6) (N := 7) hx hb hts in_X6_seek_X6 hown hK hP 0 rfl rfl 4 (by decide) kw1 (fun _ h9 => h9) rfl dX6_seek_63 ?_
      refine lv_icmp_ge (tgt := 172) hx hb dX6_seek_66 (by decide) (fun c_1 => ?_) (fun c_1 => ?_)
      · replace h := it_pos h c_1
        refine lv_iconst (v := 0) hx hb dX6_seek_172 (by decide) ?_
        obtain ⟨rfl, rfl, rfl, rfl, rfl, rfl, rfl⟩ := inj7 h
        exact hret (by decide) dX6_seek_173 hP hD hS
      · replace h := it_neg h c_1
        refine lv_iload hx hb dX6_seek_69 (lv_at hl 4 rfl) ?_
        refine lv_bipush (v := 13) hx hb dX6_seek_71 (by decide) ?_
        refine lv_icmp_ge (tgt := 172) hx hb dX6_seek_73 (by decide) (fun c_2 => ?_) (fun c_2 => ?_)
        · replace h := it_pos h c_2
          refine lv_iconst (v := 0) hx hb dX6_seek_172 (by decide) ?_
          obtain ⟨rfl, rfl, rfl, rfl, rfl, rfl, rfl⟩ := inj7 h
          exact hret (by decide) dX6_seek_173 hP hD hS
        · replace h := it_neg h c_2
          refine lv_iload hx hb dX6_seek_76 (lv_at hl 4 rfl) ?_
          refine lv_iload hx hb dX6_seek_78 (lv_at hl 3 rfl) ?_
          refine lv_isub hx hb dX6_seek_80 ?_
          obtain ⟨x6_3, ex6_3, h⟩ := bd_some h
          refine rd_top ex6_3 ?_
          refine lv_istore (lv' := [(6, .int x6_3), (0, .ref a_this), (1, .int p1), (2, .int p2), (4, .int x4), (5, .int x5)]) hx hb dX6_seek_81 hl (by decide) rfl (fun ls hl => ?_)
          refine lv_iload_n hx hb dX6_seek_83 rfl (lv_at hl 2 rfl) ?_
          refine lv_iload hx hb dX6_seek_84 (lv_at hl 5 rfl) ?_
          refine lv_ishr hx hb dX6_seek_86 ?_
          refine lv_iconst (v := 1) hx hb dX6_seek_87 (by decide) ?_
          refine lv_iand hx hb dX6_seek_88 ?_
          refine lv_iconst (v := 1) hx hb dX6_seek_89 (by decide) ?_
          refine lv_icmp_ne (tgt := 166) hx hb dX6_seek_90 (by decide) (fun c_4 => ?_) (fun c_4 => ?_)
          · replace h := it_neg h c_4
            obtain ⟨x5_5, ex5_5, h⟩ := bd_some h
            refine lv_iinc (v := x5_5) (lv' := [(5, .int x5_5), (6, .int x6_3), (0, .ref a_this), (1, .int p1), (2, .int p2), (4, .int x4)]) hx hb dX6_seek_166 hl (k := 5) rfl (by rw [ex5_5]; rfl) (by decide) rfl (fun ls hl => ?_)
            refine lv_goto (tgt := 60) hx hb dX6_seek_169 (by decide) ?_
            exact hself x5_5 v_counted v_perfect v_row v_plan_teams v_plan_days v_plan_rows h _ _ _ hP hD hS (lv_sub hl [2, 3, 4, 5, 0] rfl)
          · replace h := it_pos h c_4
            refine lv_iload_n hx hb dX6_seek_93 rfl (lv_at hl 3 rfl) ?_
            refine lv_iload hx hb dX6_seek_94 (lv_at hl 0 rfl) ?_
            refine lv_ishr hx hb dX6_seek_96 ?_
            refine lv_iconst (v := 1) hx hb dX6_seek_97 (by decide) ?_
            refine lv_iand hx hb dX6_seek_98 ?_
            refine lv_if_ne (tgt := 166) hx hb dX6_seek_99 (by decide) (fun c_6 => ?_) (fun c_6 => ?_)
            · replace h := it_neg h c_6
              obtain ⟨x5_7, ex5_7, h⟩ := bd_some h
              refine lv_iinc (v := x5_7) (lv' := [(5, .int x5_7), (6, .int x6_3), (0, .ref a_this), (1, .int p1), (2, .int p2), (4, .int x4)]) hx hb dX6_seek_166 hl (k := 5) rfl (by rw [ex5_7]; rfl) (by decide) rfl (fun ls hl => ?_)
              refine lv_goto (tgt := 60) hx hb dX6_seek_169 (by decide) ?_
              exact hself x5_7 v_counted v_perfect v_row v_plan_teams v_plan_days v_plan_rows h _ _ _ hP hD hS (lv_sub hl [2, 3, 4, 5, 0] rfl)
            · replace h := it_pos h c_6
              refine lv_aload_n hx hb dX6_seek_102 rfl (lv_at hl 1 rfl) ?_
              refine va_get (D := D) (ci := 6) (v := .ref a_row) (C := RX6) (T := TX6) (N := 7) hx hb hts in_X6_seek_X6 hown hK hP 0 rfl rfl 0 (by decide) kw2 (fun _ h9 => h9) rfl dX6_seek_103 ?_
              refine lv_iload hx hb dX6_seek_106 (lv_at hl 4 rfl) ?_
              refine lv_iload hx hb dX6_seek_108 (lv_at hl 5 rfl) ?_
              obtain ⟨hi_8, h⟩ := gd_some h
              obtain ⟨v_row_9, ev_row_9, h⟩ := bd_some h
              refine rd_iast (W1 := wd_X6 cI cZ cP a_this a_row a_plan a_plan_rows v_counted v_perfect v_m v_wanted v_judging v_row_9 v_plan_teams v_plan_days v_plan_rows) hx hb hK hP hD hS 1 0 rfl rfl hi_8 ev_row_9 rfl dX6_seek_110 (fun H locs hP hD hS => ?_)
              refine lv_aload_n hx hb dX6_seek_111 rfl (lv_at hl 1 rfl) ?_
              refine va_get (D := D) (ci := 6) (v := .ref a_row) (C := RX6) (T := TX6) (N := 7) hx hb hts in_X6_seek_X6 hown hK hP 0 rfl rfl 0 (by decide) kw2 (fun _ h9 => h9) rfl dX6_seek_112 ?_
              refine lv_iload hx hb dX6_seek_115 (lv_at hl 5 rfl) ?_
              refine lv_iload hx hb dX6_seek_117 (lv_at hl 4 rfl) ?_
              obtain ⟨hi_10, h⟩ := gd_some h
              obtain ⟨v_row_11, ev_row_11, h⟩ := bd_some h
              refine rd_iast (W1 := wd_X6 cI cZ cP a_this a_row a_plan a_plan_rows v_counted v_perfect v_m v_wanted v_judging v_row_11 v_plan_teams v_plan_days v_plan_rows) hx hb hK hP hD hS 1 0 rfl rfl hi_10 ev_row_11 rfl dX6_seek_119 (fun H locs hP hD hS => ?_)
              refine lv_iconst (v := 1) hx hb dX6_seek_120 (by decide) ?_
              refine lv_iload hx hb dX6_seek_121 (lv_at hl 0 rfl) ?_
              refine lv_ishl hx hb dX6_seek_123 ?_
              refine lv_iconst (v := 1) hx hb dX6_seek_124 (by decide) ?_
              refine lv_aload_n hx hb dX6_seek_125 rfl (lv_at hl 1 rfl) ?_
              refine va_get (D := D) (ci := 6) (v := .int v_m) (C := RX6) (T := TX6) (N := 7) hx hb hts in_X6_seek_X6 hown hK hP 0 rfl rfl 4 (by decide) kw1 (fun _ h9 => h9) rfl dX6_seek_126 ?_
              refine lv_iload hx hb dX6_seek_129 (lv_at hl 0 rfl) ?_
              refine lv_isub hx hb dX6_seek_131 ?_
              refine lv_ishl hx hb dX6_seek_132 ?_
              refine lv_ior hx hb dX6_seek_133 ?_
              obtain ⟨x7_12, ex7_12, h⟩ := bd_some h
              refine rd_top ex7_12 ?_
              refine lv_istore (lv' := [(7, .int x7_12), (6, .int x6_3), (0, .ref a_this), (1, .int p1), (2, .int p2), (4, .int x4), (5, .int x5)]) hx hb dX6_seek_134 hl (by decide) rfl (fun ls hl => ?_)
              refine lv_aload_n hx hb dX6_seek_136 rfl (lv_at hl 2 rfl) ?_
              refine lv_iload_n hx hb dX6_seek_137 rfl (lv_at hl 3 rfl) ?_
              refine lv_iconst (v := 1) hx hb dX6_seek_138 (by decide) ?_
              refine lv_iload hx hb dX6_seek_139 (lv_at hl 5 rfl) ?_
              refine lv_ishl hx hb dX6_seek_141 ?_
              refine lv_iconst (v := 1) hx hb dX6_seek_142 (by decide) ?_
              refine lv_iload hx hb dX6_seek_143 (lv_at hl 6 rfl) ?_
              refine lv_ishl hx hb dX6_seek_145 ?_
              refine lv_ior hx hb dX6_seek_146 ?_
              refine lv_iconst (v := -1) hx hb dX6_seek_147 (by decide) ?_
              refine lv_ixor hx hb dX6_seek_148 ?_
              refine lv_iand hx hb dX6_seek_149 ?_
              refine lv_iload_n hx hb dX6_seek_150 rfl (lv_at hl 4 rfl) ?_
              refine lv_iload hx hb dX6_seek_151 (lv_at hl 0 rfl) ?_
              refine lv_ior hx hb dX6_seek_153 ?_
              refine lv_iload hx hb dX6_seek_154 (lv_at hl 5 rfl) ?_
              refine lv_iconst (v := 1) hx hb dX6_seek_156 (by decide) ?_
              refine lv_iadd hx hb dX6_seek_157 ?_
              obtain ⟨⟨r_13, v_counted_14, v_perfect_15, v_row_16, v_plan_teams_17, v_plan_days_18, v_plan_rows_19⟩, hc_20, h⟩ := bi_some h
              refine rd_callVi [.int (p1 &&& ((((1 : Int32) <<< (x4 &&& (31 : Int32))) ||| ((1 : Int32) <<< (x5 &&& (31 : Int32)))) ^^^ (-1 : Int32))), .int (p2 ||| x7_12), .int (x4 + (1 : Int32))] [] (wr := []) (W1 := wd_X6 cI cZ cP a_this a_row a_plan a_plan_rows v_counted_14 v_perfect_15 v_m v_wanted v_judging v_row_16 v_plan_teams_17 v_plan_days_18 v_plan_rows_19) (ci := 6) ⟨hx, hb, hml, hown, hts⟩ (hself_  v_counted v_perfect v_row_11 v_plan_teams v_plan_days v_plan_rows (p1 &&& ((((1 : Int32) <<< (x4 &&& (31 : Int32))) ||| ((1 : Int32) <<< (x5 &&& (31 : Int32)))) ^^^ (-1 : Int32))) (p2 ||| x7_12) (x4 + (1 : Int32)) r_13 v_counted_14 v_perfect_15 v_row_16 v_plan_teams_17 v_plan_days_18 v_plan_rows_19 hc_20) (cwV 3 hts gX6_seek_X6_seek rfl rfl rfl (by decide +kernel) ⟨by show _ ≤ _; dsimp only; omega, by show _ ≤ _; dsimp only; omega⟩) rfl rfl hl.1 (Nat.le_of_ble_eq_true rfl) dX6_seek_158 ⟨Nat.zero_le _, Nat.zero_le _⟩ hK hP hD hS hA rfl rfl [0, 1, 2, 3] [] [0, 1, 2, 3] ⟨⟨rfl, rfl, rfl⟩, by decide⟩ (fun H locs hP hD hS => ?_)
              refine lv_if_eq (tgt := 166) hx hb dX6_seek_161 (by decide) (fun c_21 => ?_) (fun c_21 => ?_)
              · replace h := it_pos h c_21
                obtain ⟨x5_22, ex5_22, h⟩ := bd_some h
                refine lv_iinc (v := x5_22) (lv' := [(5, .int x5_22), (7, .int x7_12), (6, .int x6_3), (0, .ref a_this), (1, .int p1), (2, .int p2), (4, .int x4)]) hx hb dX6_seek_166 hl (k := 6) rfl (by rw [ex5_22]; rfl) (by decide) rfl (fun ls hl => ?_)
                refine lv_goto (tgt := 60) hx hb dX6_seek_169 (by decide) ?_
                exact hself x5_22 v_counted_14 v_perfect_15 v_row_16 v_plan_teams_17 v_plan_days_18 v_plan_rows_19 h _ _ _ hP hD hS (lv_sub hl [3, 4, 5, 6, 0] rfl)
              · replace h := it_neg h c_21
                refine lv_iconst (v := 1) hx hb dX6_seek_164 (by decide) ?_
                obtain ⟨rfl, rfl, rfl, rfl, rfl, rfl, rfl⟩ := inj7 h
                exact hret (by decide) dX6_seek_165 hP hD hS
    have w36 : ∀ (x4 : Int32) (v_counted : Int32) (v_perfect : Int32) (v_row : Nat → Int32) (v_plan_teams : Int32) (v_plan_days : Int32) (v_plan_rows : Nat → Int32), f_X6_seek_J36 self_ v_m v_wanted v_judging p1 p2 p3 (x4, v_counted, v_perfect, v_row, v_plan_teams, v_plan_days, v_plan_rows) = some (r, nv_counted, nv_perfect, nv_row, nv_plan_teams, nv_plan_days, nv_plan_rows) → ∀ (H : Heap) (locs : List Loc) (ls : Array Slot), va_P D vwCl (wd_X6 cI cZ cP a_this a_row a_plan a_plan_rows v_counted v_perfect v_m v_wanted v_judging v_row v_plan_teams v_plan_days v_plan_rows) H → va_D A (wd_X6 cI cZ cP a_this a_row a_plan a_plan_rows v_counted v_perfect v_m v_wanted v_judging v_row v_plan_teams v_plan_days v_plan_rows) → va_S A s.heap H locs → lv_has ls 8 [(0, .ref a_this), (1, .int p1), (2, .int p2), (4, .int x4)] → W p l e { frames := dp + 1 + 4, cells := 0, slots := 0, locals := 27 * (dp + 1) + 91 } s m args below meth c H locs 0 0 Q (F0 m 36 ls []) := by
      intro  x4 v_counted v_perfect v_row v_plan_teams v_plan_days v_plan_rows h H locs ls hP hD hS hl
      replace h : (if v_m ≤ x4 then some ((0 : Int32), v_counted, v_perfect, v_row, v_plan_teams, v_plan_days, v_plan_rows) else if x4 < (13 : Int32) then bd (x4 + (1 : Int32)) (fun x5_25 => lp (f_X6_seek_L60 self_ v_m v_wanted v_judging p1 p2 p3 x4) 20000 (x5_25, v_counted, v_perfect, v_row, v_plan_teams, v_plan_days, v_plan_rows)) else some ((0 : Int32), v_counted, v_perfect, v_row, v_plan_teams, v_plan_days, v_plan_rows)) = some (r, nv_counted, nv_perfect, nv_row, nv_plan_teams, nv_plan_days, nv_plan_rows) := h
      refine lv_iload hx hb dX6_seek_36 (lv_at hl 3 rfl) ?_
      refine lv_aload_n hx hb dX6_seek_38 rfl (lv_at hl 0 rfl) ?_
      refine va_get (D := D) (ci := 6) (v := .int v_m) (C := RX6) (T := TX6) (N := 7) hx hb hts in_X6_seek_X6 hown hK hP 0 rfl rfl 4 (by decide) kw1 (fun _ h9 => h9) rfl dX6_seek_39 ?_
      refine lv_icmp_ge (tgt := 52) hx hb dX6_seek_42 (by decide) (fun c_23 => ?_) (fun c_23 => ?_)
      · replace h := it_pos h c_23
        refine lv_iconst (v := 0) hx hb dX6_seek_52 (by decide) ?_
        obtain ⟨rfl, rfl, rfl, rfl, rfl, rfl, rfl⟩ := inj7 h
        exact hret (by decide) dX6_seek_53 hP hD hS
      · replace h := it_neg h c_23
        refine lv_iload hx hb dX6_seek_45 (lv_at hl 3 rfl) ?_
        refine lv_bipush (v := 13) hx hb dX6_seek_47 (by decide) ?_
        refine lv_icmp_lt (tgt := 54) hx hb dX6_seek_49 (by decide) (fun c_24 => ?_) (fun c_24 => ?_)
        · replace h := it_pos h c_24
          refine lv_iload hx hb dX6_seek_54 (lv_at hl 3 rfl) ?_
          refine lv_iconst (v := 1) hx hb dX6_seek_56 (by decide) ?_
          refine lv_iadd hx hb dX6_seek_57 ?_
          obtain ⟨x5_25, ex5_25, h⟩ := bd_some h
          refine rd_top ex5_25 ?_
          refine lv_istore (lv' := [(5, .int x5_25), (0, .ref a_this), (1, .int p1), (2, .int p2), (4, .int x4)]) hx hb dX6_seek_58 hl (by decide) rfl (fun ls hl => ?_)
          exact w60 x4 20000 x5_25 v_counted v_perfect v_row v_plan_teams v_plan_days v_plan_rows h _ _ _ hP hD hS (lv_sub hl [1, 2, 3, 4, 0] rfl)
        · replace h := it_neg h c_24
          refine lv_iconst (v := 0) hx hb dX6_seek_52 (by decide) ?_
          obtain ⟨rfl, rfl, rfl, rfl, rfl, rfl, rfl⟩ := inj7 h
          exact hret (by decide) dX6_seek_53 hP hD hS
    have w12 : ∀ v_counted : Int32, ∀ v_perfect : Int32, ∀ v_row : Nat → Int32, ∀ v_plan_teams : Int32, ∀ v_plan_days : Int32, ∀ v_plan_rows : Nat → Int32, ∀ n : Nat, ∀ (x4 : Int32), lp (f_X6_seek_L12 self_ v_m v_wanted v_judging p1 p2 p3 v_counted v_perfect v_row v_plan_teams v_plan_days v_plan_rows) n x4 = some (r, nv_counted, nv_perfect, nv_row, nv_plan_teams, nv_plan_days, nv_plan_rows) → ∀ (H : Heap) (locs : List Loc) (ls : Array Slot), va_P D vwCl (wd_X6 cI cZ cP a_this a_row a_plan a_plan_rows v_counted v_perfect v_m v_wanted v_judging v_row v_plan_teams v_plan_days v_plan_rows) H → va_D A (wd_X6 cI cZ cP a_this a_row a_plan a_plan_rows v_counted v_perfect v_m v_wanted v_judging v_row v_plan_teams v_plan_days v_plan_rows) → va_S A s.heap H locs → lv_has ls 8 [(0, .ref a_this), (1, .int p1), (2, .int p2), (4, .int x4)] → W p l e { frames := dp + 1 + 4, cells := 0, slots := 0, locals := 27 * (dp + 1) + 91 } s m args below meth c H locs 0 0 Q (F0 m 12 ls []) := by
      intro v_counted v_perfect v_row v_plan_teams v_plan_days v_plan_rows
      refine fun n x4 h => lp_walk (b := f_X6_seek_L12 self_ v_m v_wanted v_judging p1 p2 p3 v_counted v_perfect v_row v_plan_teams v_plan_days v_plan_rows) (r := (r, nv_counted, nv_perfect, nv_row, nv_plan_teams, nv_plan_days, nv_plan_rows)) (P := fun x4 => ∀ (H : Heap) (locs : List Loc) (ls : Array Slot), va_P D vwCl (wd_X6 cI cZ cP a_this a_row a_plan a_plan_rows v_counted v_perfect v_m v_wanted v_judging v_row v_plan_teams v_plan_days v_plan_rows) H → va_D A (wd_X6 cI cZ cP a_this a_row a_plan a_plan_rows v_counted v_perfect v_m v_wanted v_judging v_row v_plan_teams v_plan_days v_plan_rows) → va_S A s.heap H locs → lv_has ls 8 [(0, .ref a_this), (1, .int p1), (2, .int p2), (4, .int x4)] → W p l e { frames := dp + 1 + 4, cells := 0, slots := 0, locals := 27 * (dp + 1) + 91 } s m args below meth c H locs 0 0 Q (F0 m 12 ls [])) (fun self hself0 st h => ?_) n x4 h
      revert h; revert st; intro x4 h
      have hself : ∀ (x4 : Int32), self x4 = some (r, nv_counted, nv_perfect, nv_row, nv_plan_teams, nv_plan_days, nv_plan_rows) → ∀ (H : Heap) (locs : List Loc) (ls : Array Slot), va_P D vwCl (wd_X6 cI cZ cP a_this a_row a_plan a_plan_rows v_counted v_perfect v_m v_wanted v_judging v_row v_plan_teams v_plan_days v_plan_rows) H → va_D A (wd_X6 cI cZ cP a_this a_row a_plan a_plan_rows v_counted v_perfect v_m v_wanted v_judging v_row v_plan_teams v_plan_days v_plan_rows) → va_S A s.heap H locs → lv_has ls 8 [(0, .ref a_this), (1, .int p1), (2, .int p2), (4, .int x4)] → W p l e { frames := dp + 1 + 4, cells := 0, slots := 0, locals := 27 * (dp + 1) + 91 } s m args below meth c H locs 0 0 Q (F0 m 12 ls []) := fun x4 h => hself0 x4 h
      clear hself0
      intro H locs ls hP hD hS hl
      replace h : (if v_m ≤ x4 then f_X6_seek_J36 self_ v_m v_wanted v_judging p1 p2 p3 (x4, v_counted, v_perfect, v_row, v_plan_teams, v_plan_days, v_plan_rows) else if ((p1 >>> (x4 &&& (31 : Int32))) &&& (1 : Int32)) = 0 then bd (x4 + (1 : Int32)) (fun x4_28 => self x4_28) else f_X6_seek_J36 self_ v_m v_wanted v_judging p1 p2 p3 (x4, v_counted, v_perfect, v_row, v_plan_teams, v_plan_days, v_plan_rows)) = some (r, nv_counted, nv_perfect, nv_row, nv_plan_teams, nv_plan_days, nv_plan_rows) := h
      refine lv_iload hx hb dX6_seek_12 (lv_at hl 3 rfl) ?_
      refine lv_aload_n hx hb dX6_seek_14 rfl (lv_at hl 0 rfl) ?_
      refine va_get (D := D) (ci := 6) (v := .int v_m) (C := RX6) (T := TX6) (N := 7) hx hb hts in_X6_seek_X6 hown hK hP 0 rfl rfl 4 (by decide) kw1 (fun _ h9 => h9) rfl dX6_seek_15 ?_
      refine lv_icmp_ge (tgt := 36) hx hb dX6_seek_18 (by decide) (fun c_26 => ?_) (fun c_26 => ?_)
      · replace h := it_pos h c_26
        exact w36 x4 v_counted v_perfect v_row v_plan_teams v_plan_days v_plan_rows h _ _ _ hP hD hS (lv_sub hl [0, 1, 2, 3] rfl)
      · replace h := it_neg h c_26
        refine lv_iload_n hx hb dX6_seek_21 rfl (lv_at hl 1 rfl) ?_
        refine lv_iload hx hb dX6_seek_22 (lv_at hl 3 rfl) ?_
        refine lv_ishr hx hb dX6_seek_24 ?_
        refine lv_iconst (v := 1) hx hb dX6_seek_25 (by decide) ?_
        refine lv_iand hx hb dX6_seek_26 ?_
        refine lv_if_ne (tgt := 36) hx hb dX6_seek_27 (by decide) (fun c_27 => ?_) (fun c_27 => ?_)
        · replace h := it_neg h c_27
          exact w36 x4 v_counted v_perfect v_row v_plan_teams v_plan_days v_plan_rows h _ _ _ hP hD hS (lv_sub hl [0, 1, 2, 3] rfl)
        · replace h := it_pos h c_27
          obtain ⟨x4_28, ex4_28, h⟩ := bd_some h
          refine lv_iinc (v := x4_28) (lv' := [(4, .int x4_28), (0, .ref a_this), (1, .int p1), (2, .int p2)]) hx hb dX6_seek_30 hl (k := 3) rfl (by rw [ex4_28]; rfl) (by decide) rfl (fun ls hl => ?_)
          refine lv_goto (tgt := 12) hx hb dX6_seek_33 (by decide) ?_
          exact hself x4_28 h _ _ _ hP hD hS (lv_sub hl [1, 2, 3, 0] rfl)
    refine lv_iload_n hx hb dX6_seek_0 rfl (lv_at hl 1 rfl) ?_
    refine lv_if_ne (tgt := 9) hx hb dX6_seek_1 (by decide) (fun c_29 => ?_) (fun c_29 => ?_)
    · replace h := it_neg h c_29
      refine lv_iload_n hx hb dX6_seek_9 rfl (lv_at hl 3 rfl) ?_
      refine lv_istore (lv' := [(4, .int p3), (0, .ref a_this), (1, .int p1), (2, .int p2), (3, .int p3)]) hx hb dX6_seek_10 hl (by decide) rfl (fun ls hl => ?_)
      exact w12 v_counted v_perfect v_row v_plan_teams v_plan_days v_plan_rows 20000 p3 h _ _ _ hP hD hS (lv_sub hl [1, 2, 3, 0] rfl)
    · replace h := it_pos h c_29
      refine lv_aload_n hx hb dX6_seek_4 rfl (lv_at hl 0 rfl) ?_
      obtain ⟨⟨r_30, v_counted_31, v_perfect_32, v_plan_teams_33, v_plan_days_34, v_plan_rows_35⟩, hc_36, h⟩ := bi_some h
      refine rd_callVi [] [] (wr := []) (W1 := wd_X6 cI cZ cP a_this a_row a_plan a_plan_rows v_counted_31 v_perfect_32 v_m v_wanted v_judging v_row v_plan_teams_33 v_plan_days_34 v_plan_rows_35) (ci := 6) ⟨hx, hb, hml, hown, hts⟩ (c_X6_isWanted l D cI cZ cP a_this a_row a_plan a_plan_rows v_counted v_perfect v_m v_wanted v_judging v_row v_plan_teams v_plan_days v_plan_rows r_30 v_counted_31 v_perfect_32 v_plan_teams_33 v_plan_days_34 v_plan_rows_35 hc_36) (cwV 0 hts gX6_seek_X6_isWanted rfl rfl rfl (by decide +kernel) ⟨by show _ ≤ _; dsimp only; omega, by show _ ≤ _; dsimp only; omega⟩) rfl rfl hl.1 (Nat.le_of_ble_eq_true rfl) dX6_seek_5 ⟨Nat.zero_le _, Nat.zero_le _⟩ hK hP hD hS hA rfl rfl [0, 1, 2, 3] [] [0, 1, 2, 3] ⟨⟨rfl, rfl, rfl⟩, by decide⟩ (fun H locs hP hD hS => ?_)
      obtain ⟨hz_37, h⟩ := gd_some h
      obtain ⟨rfl, rfl, rfl, rfl, rfl, rfl, rfl⟩ := inj7 h
      exact hret hz_37 dX6_seek_8 hP hD hS
def f_X6_countAll (v_counted : Int32) (v_perfect : Int32) (v_m : Int32) (v_wanted : Int32) (v_judging : Int32) (v_row : Nat → Int32) (v_plan_teams : Int32) (v_plan_days : Int32) (v_plan_rows : Nat → Int32) (p1 : Int32) (p2 : Int32) : Option (Int32 × Int32 × Int32 × Int32 × Int32 × (Nat → Int32) × Int32 × Int32 × (Nat → Int32)) := (f_X6_begin v_counted v_perfect v_m v_wanted v_judging p1 (-1 : Int32) p2).bind (fun t => match t with | (v_counted_1, v_perfect_2, v_m_3, v_wanted_4, v_judging_5) => (f_X6_numbers v_m_3).bind (fun r_7 => (f_X6_seek v_m_3 v_wanted_4 v_judging_5 9 (v_counted_1, v_perfect_2, v_row, v_plan_teams, v_plan_days, v_plan_rows, r_7, (0 : Int32), (1 : Int32))).bind (fun t => match t with | (r_9, v_counted_10, v_perfect_11, v_row_12, v_plan_teams_13, v_plan_days_14, v_plan_rows_15) => some (v_counted_10, v_perfect_11, v_m_3, v_wanted_4, v_judging_5, v_row_12, v_plan_teams_13, v_plan_days_14, v_plan_rows_15))))
set_option maxHeartbeats 4000000 in
set_option maxRecDepth 100000 in
theorem c_X6_countAll (l : Launch) (D : va_G) (cI cZ cP : ClassId) (a_this : Nat) (a_row : Nat) (a_plan : Nat) (a_plan_rows : Nat) (v_counted : Int32) (v_perfect : Int32) (v_m : Int32) (v_wanted : Int32) (v_judging : Int32) (v_row : Nat → Int32) (v_plan_teams : Int32) (v_plan_days : Int32) (v_plan_rows : Nat → Int32) (p1 : Int32) (p2 : Int32) (nv_counted : Int32) (nv_perfect : Int32) (nv_m : Int32) (nv_wanted : Int32) (nv_judging : Int32) (nv_row : Nat → Int32) (nv_plan_teams : Int32) (nv_plan_days : Int32) (nv_plan_rows : Nat → Int32) (h : f_X6_countAll v_counted v_perfect v_m v_wanted v_judging v_row v_plan_teams v_plan_days v_plan_rows p1 p2 = some (nv_counted, nv_perfect, nv_m, nv_wanted, nv_judging, nv_row, nv_plan_teams, nv_plan_days, nv_plan_rows)) : rd_V l yX6_countAll wsX6_countAll { frames := 14, cells := 0, slots := 0, locals := 361 } [.ref a_this, .int p1, .int p2] D (tyA cI cZ cP) (wd_X6 cI cZ cP a_this a_row a_plan a_plan_rows v_counted v_perfect v_m v_wanted v_judging v_row v_plan_teams v_plan_days v_plan_rows) (wd_X6 cI cZ cP a_this a_row a_plan a_plan_rows nv_counted nv_perfect nv_m nv_wanted nv_judging nv_row nv_plan_teams nv_plan_days nv_plan_rows) := by
  unfold f_X6_countAll at h
  refine rd_enterV (cc := cX6_countAll) (maxL := 3) (by decide) rfl (Nat.le_of_ble_eq_true rfl) ?_
  intro p e s m args below meth c A Q ls hx hb hml hown hts hA hK hP hD hS hl hret
  have hl : lv_has ls 3 [(0, .ref a_this), (1, .int p1), (2, .int p2)] := hl
  refine lv_aload_n hx hb dX6_countAll_0 rfl (lv_at hl 0 rfl) ?_
  refine lv_iload_n hx hb dX6_countAll_1 rfl (lv_at hl 1 rfl) ?_
  refine lv_iconst (v := -1) hx hb dX6_countAll_2 (by decide) ?_
  refine lv_iload_n hx hb dX6_countAll_3 rfl (lv_at hl 2 rfl) ?_
  obtain ⟨⟨v_counted_1, v_perfect_2, v_m_3, v_wanted_4, v_judging_5⟩, hc_6, h⟩ := bi_some h
  refine rd_callVv [.int p1, .int (-1 : Int32), .int p2] [] (wr := []) (W1 := wd_X6 cI cZ cP a_this a_row a_plan a_plan_rows v_counted_1 v_perfect_2 v_m_3 v_wanted_4 v_judging_5 v_row v_plan_teams v_plan_days v_plan_rows) (ci := 6) ⟨hx, hb, hml, hown, hts⟩ (c_X6_begin l D cI cZ cP a_this a_row a_plan a_plan_rows v_counted v_perfect v_m v_wanted v_judging v_row v_plan_teams v_plan_days v_plan_rows p1 (-1 : Int32) p2 v_counted_1 v_perfect_2 v_m_3 v_wanted_4 v_judging_5 hc_6) (cwV 3 hts gX6_countAll_X6_begin rfl rfl rfl (by decide +kernel) ⟨Nat.le_of_ble_eq_true rfl, Nat.le_of_ble_eq_true rfl⟩) rfl rfl hl.1 (Nat.le_of_ble_eq_true rfl) dX6_countAll_4 ⟨Nat.zero_le _, Nat.zero_le _⟩ hK hP hD hS hA rfl rfl [0, 1, 2, 3] [] [0, 1, 2, 3] ⟨⟨rfl, rfl, rfl⟩, by decide⟩ (fun H locs hP hD hS => ?_)
  refine lv_aload_n hx hb dX6_countAll_7 rfl (lv_at hl 0 rfl) ?_
  refine lv_aload_n hx hb dX6_countAll_8 rfl (lv_at hl 0 rfl) ?_
  obtain ⟨r_7, hc_8, h⟩ := bi_some h
  refine rd_callVi [] [.ref a_this] (wr := []) (W1 := wd_X6 cI cZ cP a_this a_row a_plan a_plan_rows v_counted_1 v_perfect_2 v_m_3 v_wanted_4 v_judging_5 v_row v_plan_teams v_plan_days v_plan_rows) (ci := 6) ⟨hx, hb, hml, hown, hts⟩ (c_X6_numbers l D cI cZ cP a_this a_row a_plan a_plan_rows v_counted_1 v_perfect_2 v_m_3 v_wanted_4 v_judging_5 v_row v_plan_teams v_plan_days v_plan_rows r_7 hc_8) (cwV 0 hts gX6_countAll_X6_numbers rfl rfl rfl (by decide +kernel) ⟨Nat.le_of_ble_eq_true rfl, Nat.le_of_ble_eq_true rfl⟩) rfl rfl hl.1 (Nat.le_of_ble_eq_true rfl) dX6_countAll_9 ⟨Nat.zero_le _, Nat.zero_le _⟩ hK hP hD hS hA rfl rfl [0, 1, 2, 3] [] [0, 1, 2, 3] ⟨⟨rfl, rfl, rfl⟩, by decide⟩ (fun H locs hP hD hS => ?_)
  refine lv_iconst (v := 0) hx hb dX6_countAll_12 (by decide) ?_
  refine lv_iconst (v := 1) hx hb dX6_countAll_13 (by decide) ?_
  obtain ⟨⟨r_9, v_counted_10, v_perfect_11, v_row_12, v_plan_teams_13, v_plan_days_14, v_plan_rows_15⟩, hc_16, h⟩ := bi_some h
  refine rd_callVi [.int r_7, .int (0 : Int32), .int (1 : Int32)] [] (wr := []) (W1 := wd_X6 cI cZ cP a_this a_row a_plan a_plan_rows v_counted_10 v_perfect_11 v_m_3 v_wanted_4 v_judging_5 v_row_12 v_plan_teams_13 v_plan_days_14 v_plan_rows_15) (ci := 6) ⟨hx, hb, hml, hown, hts⟩ (c_X6_seek 9 l D cI cZ cP a_this a_row a_plan a_plan_rows v_counted_1 v_perfect_2 v_m_3 v_wanted_4 v_judging_5 v_row v_plan_teams v_plan_days v_plan_rows r_7 (0 : Int32) (1 : Int32) r_9 v_counted_10 v_perfect_11 v_row_12 v_plan_teams_13 v_plan_days_14 v_plan_rows_15 hc_16) (cwV 3 hts gX6_countAll_X6_seek rfl rfl rfl (by decide +kernel) ⟨Nat.le_of_ble_eq_true rfl, Nat.le_of_ble_eq_true rfl⟩) rfl rfl hl.1 (Nat.le_of_ble_eq_true rfl) dX6_countAll_14 ⟨Nat.zero_le _, Nat.zero_le _⟩ hK hP hD hS hA rfl rfl [0, 1, 2, 3] [] [0, 1, 2, 3] ⟨⟨rfl, rfl, rfl⟩, by decide⟩ (fun H locs hP hD hS => ?_)
  refine lv_pop hx hb dX6_countAll_17 rfl ?_
  obtain ⟨rfl, rfl, rfl, rfl, rfl, rfl, rfl, rfl, rfl⟩ := inj9 h
  exact hret dX6_countAll_18 hP hD hS
def f_X6_find (v_counted : Int32) (v_perfect : Int32) (v_m : Int32) (v_wanted : Int32) (v_judging : Int32) (v_row : Nat → Int32) (v_plan_teams : Int32) (v_plan_days : Int32) (v_plan_rows : Nat → Int32) (p1 : Int32) (p2 : Int32) : Option (Int32 × Int32 × Int32 × Int32 × Int32 × Int32 × (Nat → Int32) × Int32 × Int32 × (Nat → Int32)) := (f_X6_begin v_counted v_perfect v_m v_wanted v_judging p1 p2 (0 : Int32)).bind (fun t => match t with | (v_counted_1, v_perfect_2, v_m_3, v_wanted_4, v_judging_5) => if p2 < 0 then some ((0 : Int32), v_counted_1, v_perfect_2, v_m_3, v_wanted_4, v_judging_5, v_row, v_plan_teams, v_plan_days, v_plan_rows) else (f_X6_numbers v_m_3).bind (fun r_8 => (f_X6_seek v_m_3 v_wanted_4 v_judging_5 9 (v_counted_1, v_perfect_2, v_row, v_plan_teams, v_plan_days, v_plan_rows, r_8, (0 : Int32), (1 : Int32))).bind (fun t => match t with | (r_10, v_counted_11, v_perfect_12, v_row_13, v_plan_teams_14, v_plan_days_15, v_plan_rows_16) => if r_10 = 0 then some ((0 : Int32), v_counted_11, v_perfect_12, v_m_3, v_wanted_4, v_judging_5, v_row_13, v_plan_teams_14, v_plan_days_15, v_plan_rows_16) else some ((1 : Int32), v_counted_11, v_perfect_12, v_m_3, v_wanted_4, v_judging_5, v_row_13, v_plan_teams_14, v_plan_days_15, v_plan_rows_16))))
set_option maxHeartbeats 4000000 in
set_option maxRecDepth 100000 in
theorem c_X6_find (l : Launch) (D : va_G) (cI cZ cP : ClassId) (a_this : Nat) (a_row : Nat) (a_plan : Nat) (a_plan_rows : Nat) (v_counted : Int32) (v_perfect : Int32) (v_m : Int32) (v_wanted : Int32) (v_judging : Int32) (v_row : Nat → Int32) (v_plan_teams : Int32) (v_plan_days : Int32) (v_plan_rows : Nat → Int32) (p1 : Int32) (p2 : Int32) (r : Int32) (nv_counted : Int32) (nv_perfect : Int32) (nv_m : Int32) (nv_wanted : Int32) (nv_judging : Int32) (nv_row : Nat → Int32) (nv_plan_teams : Int32) (nv_plan_days : Int32) (nv_plan_rows : Nat → Int32) (h : f_X6_find v_counted v_perfect v_m v_wanted v_judging v_row v_plan_teams v_plan_days v_plan_rows p1 p2 = some (r, nv_counted, nv_perfect, nv_m, nv_wanted, nv_judging, nv_row, nv_plan_teams, nv_plan_days, nv_plan_rows)) : rd_I l yX6_find wsX6_find { frames := 14, cells := 0, slots := 0, locals := 361 } [.ref a_this, .int p1, .int p2] D (tyA cI cZ cP) (wd_X6 cI cZ cP a_this a_row a_plan a_plan_rows v_counted v_perfect v_m v_wanted v_judging v_row v_plan_teams v_plan_days v_plan_rows) (wd_X6 cI cZ cP a_this a_row a_plan a_plan_rows nv_counted nv_perfect nv_m nv_wanted nv_judging nv_row nv_plan_teams nv_plan_days nv_plan_rows) r := by
  unfold f_X6_find at h
  refine rd_enterZ (cc := cX6_find) (maxL := 3) (by decide) rfl (Nat.le_of_ble_eq_true rfl) ?_
  intro p e s m args below meth c A Q ls hx hb hml hown hts hA hK hP hD hS hl hret
  have hl : lv_has ls 3 [(0, .ref a_this), (1, .int p1), (2, .int p2)] := hl
  refine lv_aload_n hx hb dX6_find_0 rfl (lv_at hl 0 rfl) ?_
  refine lv_iload_n hx hb dX6_find_1 rfl (lv_at hl 1 rfl) ?_
  refine lv_iload_n hx hb dX6_find_2 rfl (lv_at hl 2 rfl) ?_
  refine lv_iconst (v := 0) hx hb dX6_find_3 (by decide) ?_
  obtain ⟨⟨v_counted_1, v_perfect_2, v_m_3, v_wanted_4, v_judging_5⟩, hc_6, h⟩ := bi_some h
  refine rd_callVv [.int p1, .int p2, .int (0 : Int32)] [] (wr := []) (W1 := wd_X6 cI cZ cP a_this a_row a_plan a_plan_rows v_counted_1 v_perfect_2 v_m_3 v_wanted_4 v_judging_5 v_row v_plan_teams v_plan_days v_plan_rows) (ci := 6) ⟨hx, hb, hml, hown, hts⟩ (c_X6_begin l D cI cZ cP a_this a_row a_plan a_plan_rows v_counted v_perfect v_m v_wanted v_judging v_row v_plan_teams v_plan_days v_plan_rows p1 p2 (0 : Int32) v_counted_1 v_perfect_2 v_m_3 v_wanted_4 v_judging_5 hc_6) (cwV 3 hts gX6_find_X6_begin rfl rfl rfl (by decide +kernel) ⟨Nat.le_of_ble_eq_true rfl, Nat.le_of_ble_eq_true rfl⟩) rfl rfl hl.1 (Nat.le_of_ble_eq_true rfl) dX6_find_4 ⟨Nat.zero_le _, Nat.zero_le _⟩ hK hP hD hS hA rfl rfl [0, 1, 2, 3] [] [0, 1, 2, 3] ⟨⟨rfl, rfl, rfl⟩, by decide⟩ (fun H locs hP hD hS => ?_)
  refine lv_iload_n hx hb dX6_find_7 rfl (lv_at hl 2 rfl) ?_
  refine lv_if_lt (tgt := 28) hx hb dX6_find_8 (by decide) (fun c_7 => ?_) (fun c_7 => ?_)
  · replace h := it_pos h c_7
    refine lv_iconst (v := 0) hx hb dX6_find_28 (by decide) ?_
    obtain ⟨rfl, rfl, rfl, rfl, rfl, rfl, rfl, rfl, rfl, rfl⟩ := inj10 h
    exact hret (by decide) dX6_find_29 hP hD hS
  · replace h := it_neg h c_7
    refine lv_aload_n hx hb dX6_find_11 rfl (lv_at hl 0 rfl) ?_
    refine lv_aload_n hx hb dX6_find_12 rfl (lv_at hl 0 rfl) ?_
    obtain ⟨r_8, hc_9, h⟩ := bi_some h
    refine rd_callVi [] [.ref a_this] (wr := []) (W1 := wd_X6 cI cZ cP a_this a_row a_plan a_plan_rows v_counted_1 v_perfect_2 v_m_3 v_wanted_4 v_judging_5 v_row v_plan_teams v_plan_days v_plan_rows) (ci := 6) ⟨hx, hb, hml, hown, hts⟩ (c_X6_numbers l D cI cZ cP a_this a_row a_plan a_plan_rows v_counted_1 v_perfect_2 v_m_3 v_wanted_4 v_judging_5 v_row v_plan_teams v_plan_days v_plan_rows r_8 hc_9) (cwV 0 hts gX6_find_X6_numbers rfl rfl rfl (by decide +kernel) ⟨Nat.le_of_ble_eq_true rfl, Nat.le_of_ble_eq_true rfl⟩) rfl rfl hl.1 (Nat.le_of_ble_eq_true rfl) dX6_find_13 ⟨Nat.zero_le _, Nat.zero_le _⟩ hK hP hD hS hA rfl rfl [0, 1, 2, 3] [] [0, 1, 2, 3] ⟨⟨rfl, rfl, rfl⟩, by decide⟩ (fun H locs hP hD hS => ?_)
    refine lv_iconst (v := 0) hx hb dX6_find_16 (by decide) ?_
    refine lv_iconst (v := 1) hx hb dX6_find_17 (by decide) ?_
    obtain ⟨⟨r_10, v_counted_11, v_perfect_12, v_row_13, v_plan_teams_14, v_plan_days_15, v_plan_rows_16⟩, hc_17, h⟩ := bi_some h
    refine rd_callVi [.int r_8, .int (0 : Int32), .int (1 : Int32)] [] (wr := []) (W1 := wd_X6 cI cZ cP a_this a_row a_plan a_plan_rows v_counted_11 v_perfect_12 v_m_3 v_wanted_4 v_judging_5 v_row_13 v_plan_teams_14 v_plan_days_15 v_plan_rows_16) (ci := 6) ⟨hx, hb, hml, hown, hts⟩ (c_X6_seek 9 l D cI cZ cP a_this a_row a_plan a_plan_rows v_counted_1 v_perfect_2 v_m_3 v_wanted_4 v_judging_5 v_row v_plan_teams v_plan_days v_plan_rows r_8 (0 : Int32) (1 : Int32) r_10 v_counted_11 v_perfect_12 v_row_13 v_plan_teams_14 v_plan_days_15 v_plan_rows_16 hc_17) (cwV 3 hts gX6_find_X6_seek rfl rfl rfl (by decide +kernel) ⟨Nat.le_of_ble_eq_true rfl, Nat.le_of_ble_eq_true rfl⟩) rfl rfl hl.1 (Nat.le_of_ble_eq_true rfl) dX6_find_18 ⟨Nat.zero_le _, Nat.zero_le _⟩ hK hP hD hS hA rfl rfl [0, 1, 2, 3] [] [0, 1, 2, 3] ⟨⟨rfl, rfl, rfl⟩, by decide⟩ (fun H locs hP hD hS => ?_)
    refine lv_if_eq (tgt := 28) hx hb dX6_find_21 (by decide) (fun c_18 => ?_) (fun c_18 => ?_)
    · replace h := it_pos h c_18
      refine lv_iconst (v := 0) hx hb dX6_find_28 (by decide) ?_
      obtain ⟨rfl, rfl, rfl, rfl, rfl, rfl, rfl, rfl, rfl, rfl⟩ := inj10 h
      exact hret (by decide) dX6_find_29 hP hD hS
    · replace h := it_neg h c_18
      refine lv_iconst (v := 1) hx hb dX6_find_24 (by decide) ?_
      refine lv_goto (tgt := 29) hx hb dX6_find_25 (by decide) ?_
      obtain ⟨rfl, rfl, rfl, rfl, rfl, rfl, rfl, rfl, rfl, rfl⟩ := inj10 h
      exact hret (by decide) dX6_find_29 hP hD hS
