theorem in_X5_refuse_X5 : ∀ w ∈ wsX50, w ∈ wsX5_refuse := by decide +kernel
def f_X5_refuse (v_faultKind : Int32) (v_faultPlace : Int32) (v_start : Int32) (p1 : Int32) : Option (Int32 × Int32 × Int32) := some ((0 : Int32), p1, v_start)
set_option maxHeartbeats 4000000 in
set_option maxRecDepth 100000 in
theorem c_X5_refuse (l : Launch) (D : va_G) (cI cZ cP : ClassId) (a_this : Nat) (a_plan : Nat) (a_plan_rows : Nat) (a_row : Nat) (v_lines : Int32) (v_faultKind : Int32) (v_faultPlace : Int32) (v_next : Int32) (v_start : Int32) (v_kind : Int32) (v_value : Int32) (v_plan_teams : Int32) (v_plan_days : Int32) (v_plan_rows : Nat → Int32) (v_row : Nat → Int32) (p1 : Int32) (r : Int32) (nv_faultKind : Int32) (nv_faultPlace : Int32) (h : f_X5_refuse v_faultKind v_faultPlace v_start p1 = some (r, nv_faultKind, nv_faultPlace)) : rd_I l yX5_refuse wsX5_refuse { frames := 0, cells := 0, slots := 0, locals := 0 } [.ref a_this, .int p1] D (tyA cI cZ cP) (wd_X5 cI cZ cP a_this a_plan a_plan_rows a_row v_lines v_faultKind v_faultPlace v_next v_start v_kind v_value v_plan_teams v_plan_days v_plan_rows v_row) (wd_X5 cI cZ cP a_this a_plan a_plan_rows a_row v_lines nv_faultKind nv_faultPlace v_next v_start v_kind v_value v_plan_teams v_plan_days v_plan_rows v_row) r := by
  unfold f_X5_refuse at h
  refine rd_enterZ (cc := cX5_refuse) (maxL := 2) (by decide) rfl (Nat.le_of_ble_eq_true rfl) ?_
  intro p e s m args below meth c A Q ls hx hb hml hown hts hA hK hP hD hS hl hret
  have hl : lv_has ls 2 [(0, .ref a_this), (1, .int p1)] := hl
  have kw1 := hts (.fieldLink RX5 30 "RoundDays$Reader" "faultKind" "I") (List.mem_of_getElem? (i := 1) rfl)
  have kw2 := hts (.fieldLink RX5 90 "RoundDays$Reader" "start" "I") (List.mem_of_getElem? (i := 2) rfl)
  have kw3 := hts (.fieldLink RX5 33 "RoundDays$Reader" "faultPlace" "I") (List.mem_of_getElem? (i := 3) rfl)
  refine lv_aload_n hx hb dX5_refuse_0 rfl (lv_at hl 0 rfl) ?_
  refine lv_iload_n hx hb dX5_refuse_1 rfl (lv_at hl 1 rfl) ?_
  refine rd_put (W1 := wd_X5 cI cZ cP a_this a_plan a_plan_rows a_row v_lines p1 v_faultPlace v_next v_start v_kind v_value v_plan_teams v_plan_days v_plan_rows v_row) (C := RX5) (T := TX5) (N := 9) (ci := 5) hx hb hts in_X5_refuse_X5 tyX5 tyX5_ok nmX5 hown hK hP hD hS 0 rfl rfl 2 (by decide) kw1 (fun _ h9 => h9) rfl rfl rfl (Nat.le_of_ble_eq_true rfl) rfl dX5_refuse_2 (fun H locs hP hD hS => ?_)
  refine lv_aload_n hx hb dX5_refuse_5 rfl (lv_at hl 0 rfl) ?_
  refine lv_aload_n hx hb dX5_refuse_6 rfl (lv_at hl 0 rfl) ?_
  refine va_get (D := D) (ci := 5) (v := .int v_start) (C := RX5) (T := TX5) (N := 9) hx hb hts in_X5_refuse_X5 hown hK hP 0 rfl rfl 6 (by decide) kw2 (fun _ h9 => h9) rfl dX5_refuse_7 ?_
  refine rd_put (W1 := wd_X5 cI cZ cP a_this a_plan a_plan_rows a_row v_lines p1 v_start v_next v_start v_kind v_value v_plan_teams v_plan_days v_plan_rows v_row) (C := RX5) (T := TX5) (N := 9) (ci := 5) hx hb hts in_X5_refuse_X5 tyX5 tyX5_ok nmX5 hown hK hP hD hS 0 rfl rfl 3 (by decide) kw3 (fun _ h9 => h9) rfl rfl rfl (Nat.le_of_ble_eq_true rfl) rfl dX5_refuse_10 (fun H locs hP hD hS => ?_)
  refine lv_iconst (v := 0) hx hb dX5_refuse_13 (by decide) ?_
  obtain ⟨rfl, rfl, rfl⟩ := inj3 h
  exact hret (by decide) dX5_refuse_14 hP hD hS
theorem in_X5_readTeam_X5 : ∀ w ∈ wsX50, w ∈ wsX5_readTeam := by decide +kernel
def f_X5_readTeam (v_faultKind : Int32) (v_faultPlace : Int32) (v_start : Int32) (v_kind : Int32) (v_value : Int32) (v_plan_teams : Int32) (p1 : Int32) : Option (Int32 × Int32 × Int32) := if v_kind = (3 : Int32) then (f_X3_hasTeam v_plan_teams v_value).bind (fun r_2 => if r_2 = 0 then (f_X5_refuse v_faultKind v_faultPlace v_start (2 : Int32)).bind (fun t => match t with | (r_11, v_faultKind_12, v_faultPlace_13) => if (r_11 = 0 ∨ r_11 = 1) then some (r_11, v_faultKind_12, v_faultPlace_13) else none) else if ((p1 >>> (v_value &&& (31 : Int32))) &&& (1 : Int32)) = 0 then some ((1 : Int32), v_faultKind, v_faultPlace) else (f_X5_refuse v_faultKind v_faultPlace v_start (3 : Int32)).bind (fun t => match t with | (r_6, v_faultKind_7, v_faultPlace_8) => if r_6 = 0 then some ((0 : Int32), v_faultKind_7, v_faultPlace_8) else some ((1 : Int32), v_faultKind_7, v_faultPlace_8))) else (f_X5_refuse v_faultKind v_faultPlace v_start (1 : Int32)).bind (fun t => match t with | (r_16, v_faultKind_17, v_faultPlace_18) => if (r_16 = 0 ∨ r_16 = 1) then some (r_16, v_faultKind_17, v_faultPlace_18) else none)
set_option maxHeartbeats 4000000 in
set_option maxRecDepth 100000 in
theorem c_X5_readTeam (l : Launch) (D : va_G) (cI cZ cP : ClassId) (a_this : Nat) (a_plan : Nat) (a_plan_rows : Nat) (a_row : Nat) (v_lines : Int32) (v_faultKind : Int32) (v_faultPlace : Int32) (v_next : Int32) (v_start : Int32) (v_kind : Int32) (v_value : Int32) (v_plan_teams : Int32) (v_plan_days : Int32) (v_plan_rows : Nat → Int32) (v_row : Nat → Int32) (p1 : Int32) (r : Int32) (nv_faultKind : Int32) (nv_faultPlace : Int32) (h : f_X5_readTeam v_faultKind v_faultPlace v_start v_kind v_value v_plan_teams p1 = some (r, nv_faultKind, nv_faultPlace)) : rd_I l yX5_readTeam wsX5_readTeam { frames := 1, cells := 0, slots := 0, locals := 21 } [.ref a_this, .int p1] D (tyA cI cZ cP) (wd_X5 cI cZ cP a_this a_plan a_plan_rows a_row v_lines v_faultKind v_faultPlace v_next v_start v_kind v_value v_plan_teams v_plan_days v_plan_rows v_row) (wd_X5 cI cZ cP a_this a_plan a_plan_rows a_row v_lines nv_faultKind nv_faultPlace v_next v_start v_kind v_value v_plan_teams v_plan_days v_plan_rows v_row) r := by
  unfold f_X5_readTeam at h
  refine rd_enterZ (cc := cX5_readTeam) (maxL := 2) (by decide) rfl (Nat.le_of_ble_eq_true rfl) ?_
  intro p e s m args below meth c A Q ls hx hb hml hown hts hA hK hP hD hS hl hret
  have hl : lv_has ls 2 [(0, .ref a_this), (1, .int p1)] := hl
  have kw1 := hts (.fieldLink RX5 43 "RoundDays$Reader" "kind" "I") (List.mem_of_getElem? (i := 1) rfl)
  have kw2 := hts (.fieldLink RX5 12 "RoundDays$Reader" "plan" "LRoundDays$Plan;") (List.mem_of_getElem? (i := 2) rfl)
  have kw3 := hts (.fieldLink RX5 57 "RoundDays$Reader" "value" "I") (List.mem_of_getElem? (i := 3) rfl)
  refine lv_aload_n hx hb dX5_readTeam_0 rfl (lv_at hl 0 rfl) ?_
  refine va_get (D := D) (ci := 5) (v := .int v_kind) (C := RX5) (T := TX5) (N := 9) hx hb hts in_X5_readTeam_X5 hown hK hP 0 rfl rfl 7 (by decide) kw1 (fun _ h9 => h9) rfl dX5_readTeam_1 ?_
  refine lv_iconst (v := 3) hx hb dX5_readTeam_4 (by decide) ?_
  refine lv_icmp_eq (tgt := 14) hx hb dX5_readTeam_5 (by decide) (fun c_1 => ?_) (fun c_1 => ?_)
  · replace h := it_pos h c_1
    refine lv_aload_n hx hb dX5_readTeam_14 rfl (lv_at hl 0 rfl) ?_
    refine va_get (D := D) (ci := 5) (v := .ref a_plan) (C := RX5) (T := TX5) (N := 9) hx hb hts in_X5_readTeam_X5 hown hK hP 0 rfl rfl 0 (by decide) kw2 (fun _ h9 => h9) rfl dX5_readTeam_15 ?_
    refine lv_aload_n hx hb dX5_readTeam_18 rfl (lv_at hl 0 rfl) ?_
    refine va_get (D := D) (ci := 5) (v := .int v_value) (C := RX5) (T := TX5) (N := 9) hx hb hts in_X5_readTeam_X5 hown hK hP 0 rfl rfl 8 (by decide) kw3 (fun _ h9 => h9) rfl dX5_readTeam_19 ?_
    obtain ⟨r_2, hc_3, h⟩ := bi_some h
    refine rd_callVi [.int v_value] [] (wr := [(a_this, .inr (5, [.ref a_plan, .int v_lines, .int v_faultKind, .int v_faultPlace, .ref a_row, .int v_next, .int v_start, .int v_kind, .int v_value])), (a_row, .inl (cI, 14, .inl v_row))]) (W1 := wd_X5 cI cZ cP a_this a_plan a_plan_rows a_row v_lines v_faultKind v_faultPlace v_next v_start v_kind v_value v_plan_teams v_plan_days v_plan_rows v_row) (ci := 3) ⟨hx, hb, hml, hown, hts⟩ (c_X3_hasTeam l D cI cZ cP a_plan a_plan_rows v_plan_teams v_plan_days v_plan_rows v_value r_2 hc_3) (cwV 1 hts gX5_readTeam_X3_hasTeam rfl rfl rfl (by decide +kernel) ⟨Nat.le_of_ble_eq_true rfl, Nat.le_of_ble_eq_true rfl⟩) rfl rfl hl.1 (Nat.le_of_ble_eq_true rfl) dX5_readTeam_22 ⟨Nat.zero_le _, Nat.zero_le _⟩ hK hP hD hS hA rfl rfl [1, 2] [0, 3] [0, 2, 3, 1] ⟨⟨rfl, rfl, rfl⟩, by decide⟩ (fun H locs hP hD hS => ?_)
    refine lv_if_ne (tgt := 34) hx hb dX5_readTeam_25 (by decide) (fun c_4 => ?_) (fun c_4 => ?_)
    · replace h := it_neg h c_4
      refine lv_iload_n hx hb dX5_readTeam_34 rfl (lv_at hl 1 rfl) ?_
      refine lv_aload_n hx hb dX5_readTeam_35 rfl (lv_at hl 0 rfl) ?_
      refine va_get (D := D) (ci := 5) (v := .int v_value) (C := RX5) (T := TX5) (N := 9) hx hb hts in_X5_readTeam_X5 hown hK hP 0 rfl rfl 8 (by decide) kw3 (fun _ h9 => h9) rfl dX5_readTeam_36 ?_
      refine lv_ishr hx hb dX5_readTeam_39 ?_
      refine lv_iconst (v := 1) hx hb dX5_readTeam_40 (by decide) ?_
      refine lv_iand hx hb dX5_readTeam_41 ?_
      refine lv_if_eq (tgt := 53) hx hb dX5_readTeam_42 (by decide) (fun c_5 => ?_) (fun c_5 => ?_)
      · replace h := it_pos h c_5
        refine lv_iconst (v := 1) hx hb dX5_readTeam_53 (by decide) ?_
        refine lv_goto (tgt := 58) hx hb dX5_readTeam_54 (by decide) ?_
        obtain ⟨rfl, rfl, rfl⟩ := inj3 h
        exact hret (by decide) dX5_readTeam_58 hP hD hS
      · replace h := it_neg h c_5
        refine lv_aload_n hx hb dX5_readTeam_45 rfl (lv_at hl 0 rfl) ?_
        refine lv_iconst (v := 3) hx hb dX5_readTeam_46 (by decide) ?_
        obtain ⟨⟨r_6, v_faultKind_7, v_faultPlace_8⟩, hc_9, h⟩ := bi_some h
        refine rd_callVi [.int (3 : Int32)] [] (wr := []) (W1 := wd_X5 cI cZ cP a_this a_plan a_plan_rows a_row v_lines v_faultKind_7 v_faultPlace_8 v_next v_start v_kind v_value v_plan_teams v_plan_days v_plan_rows v_row) (ci := 5) ⟨hx, hb, hml, hown, hts⟩ (c_X5_refuse l D cI cZ cP a_this a_plan a_plan_rows a_row v_lines v_faultKind v_faultPlace v_next v_start v_kind v_value v_plan_teams v_plan_days v_plan_rows v_row (3 : Int32) r_6 v_faultKind_7 v_faultPlace_8 hc_9) (cwV 1 hts gX5_readTeam_X5_refuse rfl rfl rfl (by decide +kernel) ⟨Nat.le_of_ble_eq_true rfl, Nat.le_of_ble_eq_true rfl⟩) rfl rfl hl.1 (Nat.le_of_ble_eq_true rfl) dX5_readTeam_47 ⟨Nat.zero_le _, Nat.zero_le _⟩ hK hP hD hS hA rfl rfl [0, 1, 2, 3] [] [0, 1, 2, 3] ⟨⟨rfl, rfl, rfl⟩, by decide⟩ (fun H locs hP hD hS => ?_)
        refine lv_if_eq (tgt := 57) hx hb dX5_readTeam_50 (by decide) (fun c_10 => ?_) (fun c_10 => ?_)
        · replace h := it_pos h c_10
          refine lv_iconst (v := 0) hx hb dX5_readTeam_57 (by decide) ?_
          obtain ⟨rfl, rfl, rfl⟩ := inj3 h
          exact hret (by decide) dX5_readTeam_58 hP hD hS
        · replace h := it_neg h c_10
          refine lv_iconst (v := 1) hx hb dX5_readTeam_53 (by decide) ?_
          refine lv_goto (tgt := 58) hx hb dX5_readTeam_54 (by decide) ?_
          obtain ⟨rfl, rfl, rfl⟩ := inj3 h
          exact hret (by decide) dX5_readTeam_58 hP hD hS
    · replace h := it_pos h c_4
      refine lv_aload_n hx hb dX5_readTeam_28 rfl (lv_at hl 0 rfl) ?_
      refine lv_iconst (v := 2) hx hb dX5_readTeam_29 (by decide) ?_
      obtain ⟨⟨r_11, v_faultKind_12, v_faultPlace_13⟩, hc_14, h⟩ := bi_some h
      refine rd_callVi [.int (2 : Int32)] [] (wr := []) (W1 := wd_X5 cI cZ cP a_this a_plan a_plan_rows a_row v_lines v_faultKind_12 v_faultPlace_13 v_next v_start v_kind v_value v_plan_teams v_plan_days v_plan_rows v_row) (ci := 5) ⟨hx, hb, hml, hown, hts⟩ (c_X5_refuse l D cI cZ cP a_this a_plan a_plan_rows a_row v_lines v_faultKind v_faultPlace v_next v_start v_kind v_value v_plan_teams v_plan_days v_plan_rows v_row (2 : Int32) r_11 v_faultKind_12 v_faultPlace_13 hc_14) (cwV 1 hts gX5_readTeam_X5_refuse rfl rfl rfl (by decide +kernel) ⟨Nat.le_of_ble_eq_true rfl, Nat.le_of_ble_eq_true rfl⟩) rfl rfl hl.1 (Nat.le_of_ble_eq_true rfl) dX5_readTeam_30 ⟨Nat.zero_le _, Nat.zero_le _⟩ hK hP hD hS hA rfl rfl [0, 1, 2, 3] [] [0, 1, 2, 3] ⟨⟨rfl, rfl, rfl⟩, by decide⟩ (fun H locs hP hD hS => ?_)
      obtain ⟨hz_15, h⟩ := gd_some h
      obtain ⟨rfl, rfl, rfl⟩ := inj3 h
      exact hret hz_15 dX5_readTeam_33 hP hD hS
  · replace h := it_neg h c_1
    refine lv_aload_n hx hb dX5_readTeam_8 rfl (lv_at hl 0 rfl) ?_
    refine lv_iconst (v := 1) hx hb dX5_readTeam_9 (by decide) ?_
    obtain ⟨⟨r_16, v_faultKind_17, v_faultPlace_18⟩, hc_19, h⟩ := bi_some h
    refine rd_callVi [.int (1 : Int32)] [] (wr := []) (W1 := wd_X5 cI cZ cP a_this a_plan a_plan_rows a_row v_lines v_faultKind_17 v_faultPlace_18 v_next v_start v_kind v_value v_plan_teams v_plan_days v_plan_rows v_row) (ci := 5) ⟨hx, hb, hml, hown, hts⟩ (c_X5_refuse l D cI cZ cP a_this a_plan a_plan_rows a_row v_lines v_faultKind v_faultPlace v_next v_start v_kind v_value v_plan_teams v_plan_days v_plan_rows v_row (1 : Int32) r_16 v_faultKind_17 v_faultPlace_18 hc_19) (cwV 1 hts gX5_readTeam_X5_refuse rfl rfl rfl (by decide +kernel) ⟨Nat.le_of_ble_eq_true rfl, Nat.le_of_ble_eq_true rfl⟩) rfl rfl hl.1 (Nat.le_of_ble_eq_true rfl) dX5_readTeam_10 ⟨Nat.zero_le _, Nat.zero_le _⟩ hK hP hD hS hA rfl rfl [0, 1, 2, 3] [] [0, 1, 2, 3] ⟨⟨rfl, rfl, rfl⟩, by decide⟩ (fun H locs hP hD hS => ?_)
    obtain ⟨hz_20, h⟩ := gd_some h
    obtain ⟨rfl, rfl, rfl⟩ := inj3 h
    exact hret hz_20 dX5_readTeam_13 hP hD hS
theorem in_X5_readPair_X5 : ∀ w ∈ wsX50, w ∈ wsX5_readPair := by decide +kernel
def f_X5_readPair (v_faultKind : Int32) (v_faultPlace : Int32) (v_start : Int32) (v_plan_teams : Int32) (v_plan_days : Int32) (v_plan_rows : Nat → Int32) (v_row : Nat → Int32) (p1 : Int32) (p2 : Int32) : Option (Int32 × Int32 × Int32 × (Nat → Int32)) := (f_X3_dayOf v_plan_teams v_plan_days v_plan_rows p1 p2).bind (fun r_1 => if r_1 = (-1 : Int32) then (f_X3_hasTwoTeams v_plan_teams p1 p2).bind (fun r_9 => if r_9 = 0 then (f_X5_refuse v_faultKind v_faultPlace v_start (3 : Int32)).bind (fun t => match t with | (r_16, v_faultKind_17, v_faultPlace_18) => if (r_16 = 0 ∨ r_16 = 1) then some (r_16, v_faultKind_17, v_faultPlace_18, v_row) else none) else if inb p1 14 then bd (upd v_row p1.toNatClampNeg p2) (fun v_row_13 => if inb p2 14 then bd (upd v_row_13 p2.toNatClampNeg p1) (fun v_row_15 => some ((1 : Int32), v_faultKind, v_faultPlace, v_row_15)) else none) else none) else (f_X5_refuse v_faultKind v_faultPlace v_start (3 : Int32)).bind (fun t => match t with | (r_4, v_faultKind_5, v_faultPlace_6) => if (r_4 = 0 ∨ r_4 = 1) then some (r_4, v_faultKind_5, v_faultPlace_6, v_row) else none))
set_option maxHeartbeats 4000000 in
set_option maxRecDepth 100000 in
theorem c_X5_readPair (l : Launch) (D : va_G) (cI cZ cP : ClassId) (a_this : Nat) (a_plan : Nat) (a_plan_rows : Nat) (a_row : Nat) (v_lines : Int32) (v_faultKind : Int32) (v_faultPlace : Int32) (v_next : Int32) (v_start : Int32) (v_kind : Int32) (v_value : Int32) (v_plan_teams : Int32) (v_plan_days : Int32) (v_plan_rows : Nat → Int32) (v_row : Nat → Int32) (p1 : Int32) (p2 : Int32) (r : Int32) (nv_faultKind : Int32) (nv_faultPlace : Int32) (nv_row : Nat → Int32) (h : f_X5_readPair v_faultKind v_faultPlace v_start v_plan_teams v_plan_days v_plan_rows v_row p1 p2 = some (r, nv_faultKind, nv_faultPlace, nv_row)) : rd_I l yX5_readPair wsX5_readPair { frames := 2, cells := 0, slots := 0, locals := 45 } [.ref a_this, .int p1, .int p2] D (tyA cI cZ cP) (wd_X5 cI cZ cP a_this a_plan a_plan_rows a_row v_lines v_faultKind v_faultPlace v_next v_start v_kind v_value v_plan_teams v_plan_days v_plan_rows v_row) (wd_X5 cI cZ cP a_this a_plan a_plan_rows a_row v_lines nv_faultKind nv_faultPlace v_next v_start v_kind v_value v_plan_teams v_plan_days v_plan_rows nv_row) r := by
  unfold f_X5_readPair at h
  refine rd_enterZ (cc := cX5_readPair) (maxL := 3) (by decide) rfl (Nat.le_of_ble_eq_true rfl) ?_
  intro p e s m args below meth c A Q ls hx hb hml hown hts hA hK hP hD hS hl hret
  have hl : lv_has ls 3 [(0, .ref a_this), (1, .int p1), (2, .int p2)] := hl
  have kw1 := hts (.fieldLink RX5 12 "RoundDays$Reader" "plan" "LRoundDays$Plan;") (List.mem_of_getElem? (i := 1) rfl)
  have kw2 := hts (.fieldLink RX5 18 "RoundDays$Reader" "row" "[I") (List.mem_of_getElem? (i := 2) rfl)
  refine lv_aload_n hx hb dX5_readPair_0 rfl (lv_at hl 0 rfl) ?_
  refine va_get (D := D) (ci := 5) (v := .ref a_plan) (C := RX5) (T := TX5) (N := 9) hx hb hts in_X5_readPair_X5 hown hK hP 0 rfl rfl 0 (by decide) kw1 (fun _ h9 => h9) rfl dX5_readPair_1 ?_
  refine lv_iload_n hx hb dX5_readPair_4 rfl (lv_at hl 1 rfl) ?_
  refine lv_iload_n hx hb dX5_readPair_5 rfl (lv_at hl 2 rfl) ?_
  obtain ⟨r_1, hc_2, h⟩ := bi_some h
  refine rd_callVi [.int p1, .int p2] [] (wr := [(a_this, .inr (5, [.ref a_plan, .int v_lines, .int v_faultKind, .int v_faultPlace, .ref a_row, .int v_next, .int v_start, .int v_kind, .int v_value])), (a_row, .inl (cI, 14, .inl v_row))]) (W1 := wd_X5 cI cZ cP a_this a_plan a_plan_rows a_row v_lines v_faultKind v_faultPlace v_next v_start v_kind v_value v_plan_teams v_plan_days v_plan_rows v_row) (ci := 3) ⟨hx, hb, hml, hown, hts⟩ (c_X3_dayOf l D cI cZ cP a_plan a_plan_rows v_plan_teams v_plan_days v_plan_rows p1 p2 r_1 hc_2) (cwV 2 hts gX5_readPair_X3_dayOf rfl rfl rfl (by decide +kernel) ⟨Nat.le_of_ble_eq_true rfl, Nat.le_of_ble_eq_true rfl⟩) rfl rfl hl.1 (Nat.le_of_ble_eq_true rfl) dX5_readPair_6 ⟨Nat.zero_le _, Nat.zero_le _⟩ hK hP hD hS hA rfl rfl [1, 2] [0, 3] [0, 2, 3, 1] ⟨⟨rfl, rfl, rfl⟩, by decide⟩ (fun H locs hP hD hS => ?_)
  refine lv_iconst (v := -1) hx hb dX5_readPair_9 (by decide) ?_
  refine lv_icmp_ne (tgt := 25) hx hb dX5_readPair_10 (by decide) (fun c_3 => ?_) (fun c_3 => ?_)
  · replace h := it_neg h c_3
    refine lv_aload_n hx hb dX5_readPair_25 rfl (lv_at hl 0 rfl) ?_
    refine lv_iconst (v := 3) hx hb dX5_readPair_26 (by decide) ?_
    obtain ⟨⟨r_4, v_faultKind_5, v_faultPlace_6⟩, hc_7, h⟩ := bi_some h
    refine rd_callVi [.int (3 : Int32)] [] (wr := []) (W1 := wd_X5 cI cZ cP a_this a_plan a_plan_rows a_row v_lines v_faultKind_5 v_faultPlace_6 v_next v_start v_kind v_value v_plan_teams v_plan_days v_plan_rows v_row) (ci := 5) ⟨hx, hb, hml, hown, hts⟩ (c_X5_refuse l D cI cZ cP a_this a_plan a_plan_rows a_row v_lines v_faultKind v_faultPlace v_next v_start v_kind v_value v_plan_teams v_plan_days v_plan_rows v_row (3 : Int32) r_4 v_faultKind_5 v_faultPlace_6 hc_7) (cwV 1 hts gX5_readPair_X5_refuse rfl rfl rfl (by decide +kernel) ⟨Nat.le_of_ble_eq_true rfl, Nat.le_of_ble_eq_true rfl⟩) rfl rfl hl.1 (Nat.le_of_ble_eq_true rfl) dX5_readPair_27 ⟨Nat.zero_le _, Nat.zero_le _⟩ hK hP hD hS hA rfl rfl [0, 1, 2, 3] [] [0, 1, 2, 3] ⟨⟨rfl, rfl, rfl⟩, by decide⟩ (fun H locs hP hD hS => ?_)
    obtain ⟨hz_8, h⟩ := gd_some h
    obtain ⟨rfl, rfl, rfl, rfl⟩ := inj4 h
    exact hret hz_8 dX5_readPair_30 hP hD hS
  · replace h := it_pos h c_3
    refine lv_aload_n hx hb dX5_readPair_13 rfl (lv_at hl 0 rfl) ?_
    refine va_get (D := D) (ci := 5) (v := .ref a_plan) (C := RX5) (T := TX5) (N := 9) hx hb hts in_X5_readPair_X5 hown hK hP 0 rfl rfl 0 (by decide) kw1 (fun _ h9 => h9) rfl dX5_readPair_14 ?_
    refine lv_iload_n hx hb dX5_readPair_17 rfl (lv_at hl 1 rfl) ?_
    refine lv_iload_n hx hb dX5_readPair_18 rfl (lv_at hl 2 rfl) ?_
    obtain ⟨r_9, hc_10, h⟩ := bi_some h
    refine rd_callVi [.int p1, .int p2] [] (wr := [(a_this, .inr (5, [.ref a_plan, .int v_lines, .int v_faultKind, .int v_faultPlace, .ref a_row, .int v_next, .int v_start, .int v_kind, .int v_value])), (a_row, .inl (cI, 14, .inl v_row))]) (W1 := wd_X5 cI cZ cP a_this a_plan a_plan_rows a_row v_lines v_faultKind v_faultPlace v_next v_start v_kind v_value v_plan_teams v_plan_days v_plan_rows v_row) (ci := 3) ⟨hx, hb, hml, hown, hts⟩ (c_X3_hasTwoTeams l D cI cZ cP a_plan a_plan_rows v_plan_teams v_plan_days v_plan_rows p1 p2 r_9 hc_10) (cwV 2 hts gX5_readPair_X3_hasTwoTeams rfl rfl rfl (by decide +kernel) ⟨Nat.le_of_ble_eq_true rfl, Nat.le_of_ble_eq_true rfl⟩) rfl rfl hl.1 (Nat.le_of_ble_eq_true rfl) dX5_readPair_19 ⟨Nat.zero_le _, Nat.zero_le _⟩ hK hP hD hS hA rfl rfl [1, 2] [0, 3] [0, 2, 3, 1] ⟨⟨rfl, rfl, rfl⟩, by decide⟩ (fun H locs hP hD hS => ?_)
    refine lv_if_ne (tgt := 31) hx hb dX5_readPair_22 (by decide) (fun c_11 => ?_) (fun c_11 => ?_)
    · replace h := it_neg h c_11
      refine lv_aload_n hx hb dX5_readPair_31 rfl (lv_at hl 0 rfl) ?_
      refine va_get (D := D) (ci := 5) (v := .ref a_row) (C := RX5) (T := TX5) (N := 9) hx hb hts in_X5_readPair_X5 hown hK hP 0 rfl rfl 4 (by decide) kw2 (fun _ h9 => h9) rfl dX5_readPair_32 ?_
      refine lv_iload_n hx hb dX5_readPair_35 rfl (lv_at hl 1 rfl) ?_
      refine lv_iload_n hx hb dX5_readPair_36 rfl (lv_at hl 2 rfl) ?_
      obtain ⟨hi_12, h⟩ := gd_some h
      obtain ⟨v_row_13, ev_row_13, h⟩ := bd_some h
      refine rd_iast (W1 := wd_X5 cI cZ cP a_this a_plan a_plan_rows a_row v_lines v_faultKind v_faultPlace v_next v_start v_kind v_value v_plan_teams v_plan_days v_plan_rows v_row_13) hx hb hK hP hD hS 3 0 rfl rfl hi_12 ev_row_13 rfl dX5_readPair_37 (fun H locs hP hD hS => ?_)
      refine lv_aload_n hx hb dX5_readPair_38 rfl (lv_at hl 0 rfl) ?_
      refine va_get (D := D) (ci := 5) (v := .ref a_row) (C := RX5) (T := TX5) (N := 9) hx hb hts in_X5_readPair_X5 hown hK hP 0 rfl rfl 4 (by decide) kw2 (fun _ h9 => h9) rfl dX5_readPair_39 ?_
      refine lv_iload_n hx hb dX5_readPair_42 rfl (lv_at hl 2 rfl) ?_
      refine lv_iload_n hx hb dX5_readPair_43 rfl (lv_at hl 1 rfl) ?_
      obtain ⟨hi_14, h⟩ := gd_some h
      obtain ⟨v_row_15, ev_row_15, h⟩ := bd_some h
      refine rd_iast (W1 := wd_X5 cI cZ cP a_this a_plan a_plan_rows a_row v_lines v_faultKind v_faultPlace v_next v_start v_kind v_value v_plan_teams v_plan_days v_plan_rows v_row_15) hx hb hK hP hD hS 3 0 rfl rfl hi_14 ev_row_15 rfl dX5_readPair_44 (fun H locs hP hD hS => ?_)
      refine lv_iconst (v := 1) hx hb dX5_readPair_45 (by decide) ?_
      obtain ⟨rfl, rfl, rfl, rfl⟩ := inj4 h
      exact hret (by decide) dX5_readPair_46 hP hD hS
    · replace h := it_pos h c_11
      refine lv_aload_n hx hb dX5_readPair_25 rfl (lv_at hl 0 rfl) ?_
      refine lv_iconst (v := 3) hx hb dX5_readPair_26 (by decide) ?_
      obtain ⟨⟨r_16, v_faultKind_17, v_faultPlace_18⟩, hc_19, h⟩ := bi_some h
      refine rd_callVi [.int (3 : Int32)] [] (wr := []) (W1 := wd_X5 cI cZ cP a_this a_plan a_plan_rows a_row v_lines v_faultKind_17 v_faultPlace_18 v_next v_start v_kind v_value v_plan_teams v_plan_days v_plan_rows v_row) (ci := 5) ⟨hx, hb, hml, hown, hts⟩ (c_X5_refuse l D cI cZ cP a_this a_plan a_plan_rows a_row v_lines v_faultKind v_faultPlace v_next v_start v_kind v_value v_plan_teams v_plan_days v_plan_rows v_row (3 : Int32) r_16 v_faultKind_17 v_faultPlace_18 hc_19) (cwV 1 hts gX5_readPair_X5_refuse rfl rfl rfl (by decide +kernel) ⟨Nat.le_of_ble_eq_true rfl, Nat.le_of_ble_eq_true rfl⟩) rfl rfl hl.1 (Nat.le_of_ble_eq_true rfl) dX5_readPair_27 ⟨Nat.zero_le _, Nat.zero_le _⟩ hK hP hD hS hA rfl rfl [0, 1, 2, 3] [] [0, 1, 2, 3] ⟨⟨rfl, rfl, rfl⟩, by decide⟩ (fun H locs hP hD hS => ?_)
      obtain ⟨hz_20, h⟩ := gd_some h
      obtain ⟨rfl, rfl, rfl, rfl⟩ := inj4 h
      exact hret hz_20 dX5_readPair_30 hP hD hS
def f_X5_isBlank (p0 : Int32) : Option (Int32) := if p0 = (32 : Int32) then some (1 : Int32) else if p0 = (10 : Int32) then some (1 : Int32) else some (0 : Int32)
set_option maxHeartbeats 4000000 in
set_option maxRecDepth 100000 in
theorem c_X5_isBlank (l : Launch) (D : va_G) (cI cZ cP : ClassId) (p0 : Int32) (r : Int32) (h : f_X5_isBlank p0 = some r) : rd_I l yX5_isBlank wsX5_isBlank { frames := 0, cells := 0, slots := 0, locals := 0 } [.int p0] D (tyA cI cZ cP) ([]) ([]) r := by
  unfold f_X5_isBlank at h
  refine rd_enterZ (cc := cX5_isBlank) (maxL := 1) (by decide) rfl (Nat.le_of_ble_eq_true rfl) ?_
  intro p e s m args below meth c A Q ls hx hb hml hown hts hA hK hP hD hS hl hret
  have hl : lv_has ls 1 [(0, .int p0)] := hl
  refine lv_iload_n hx hb dX5_isBlank_0 rfl (lv_at hl 0 rfl) ?_
  refine lv_bipush (v := 32) hx hb dX5_isBlank_1 (by decide) ?_
  refine lv_icmp_eq (tgt := 12) hx hb dX5_isBlank_3 (by decide) (fun c_1 => ?_) (fun c_1 => ?_)
  · replace h := it_pos h c_1
    refine lv_iconst (v := 1) hx hb dX5_isBlank_12 (by decide) ?_
    refine lv_goto (tgt := 17) hx hb dX5_isBlank_13 (by decide) ?_
    obtain rfl := inj1 h
    exact hret (by decide) dX5_isBlank_17 hP hD hS
  · replace h := it_neg h c_1
    refine lv_iload_n hx hb dX5_isBlank_6 rfl (lv_at hl 0 rfl) ?_
    refine lv_bipush (v := 10) hx hb dX5_isBlank_7 (by decide) ?_
    refine lv_icmp_ne (tgt := 16) hx hb dX5_isBlank_9 (by decide) (fun c_2 => ?_) (fun c_2 => ?_)
    · replace h := it_neg h c_2
      refine lv_iconst (v := 0) hx hb dX5_isBlank_16 (by decide) ?_
      obtain rfl := inj1 h
      exact hret (by decide) dX5_isBlank_17 hP hD hS
    · replace h := it_pos h c_2
      refine lv_iconst (v := 1) hx hb dX5_isBlank_12 (by decide) ?_
      refine lv_goto (tgt := 17) hx hb dX5_isBlank_13 (by decide) ?_
      obtain rfl := inj1 h
      exact hret (by decide) dX5_isBlank_17 hP hD hS
def f_X5_isLetter (p0 : Int32) : Option (Int32) := if p0 < (97 : Int32) then some (0 : Int32) else if (122 : Int32) < p0 then some (0 : Int32) else some (1 : Int32)
set_option maxHeartbeats 4000000 in
set_option maxRecDepth 100000 in
theorem c_X5_isLetter (l : Launch) (D : va_G) (cI cZ cP : ClassId) (p0 : Int32) (r : Int32) (h : f_X5_isLetter p0 = some r) : rd_I l yX5_isLetter wsX5_isLetter { frames := 0, cells := 0, slots := 0, locals := 0 } [.int p0] D (tyA cI cZ cP) ([]) ([]) r := by
  unfold f_X5_isLetter at h
  refine rd_enterZ (cc := cX5_isLetter) (maxL := 1) (by decide) rfl (Nat.le_of_ble_eq_true rfl) ?_
  intro p e s m args below meth c A Q ls hx hb hml hown hts hA hK hP hD hS hl hret
  have hl : lv_has ls 1 [(0, .int p0)] := hl
  refine lv_iload_n hx hb dX5_isLetter_0 rfl (lv_at hl 0 rfl) ?_
  refine lv_bipush (v := 97) hx hb dX5_isLetter_1 (by decide) ?_
  refine lv_icmp_lt (tgt := 16) hx hb dX5_isLetter_3 (by decide) (fun c_1 => ?_) (fun c_1 => ?_)
  · replace h := it_pos h c_1
    refine lv_iconst (v := 0) hx hb dX5_isLetter_16 (by decide) ?_
    obtain rfl := inj1 h
    exact hret (by decide) dX5_isLetter_17 hP hD hS
  · replace h := it_neg h c_1
    refine lv_iload_n hx hb dX5_isLetter_6 rfl (lv_at hl 0 rfl) ?_
    refine lv_bipush (v := 122) hx hb dX5_isLetter_7 (by decide) ?_
    refine lv_icmp_gt (tgt := 16) hx hb dX5_isLetter_9 (by decide) (fun c_2 => ?_) (fun c_2 => ?_)
    · replace h := it_pos h c_2
      refine lv_iconst (v := 0) hx hb dX5_isLetter_16 (by decide) ?_
      obtain rfl := inj1 h
      exact hret (by decide) dX5_isLetter_17 hP hD hS
    · replace h := it_neg h c_2
      refine lv_iconst (v := 1) hx hb dX5_isLetter_12 (by decide) ?_
      refine lv_goto (tgt := 17) hx hb dX5_isLetter_13 (by decide) ?_
      obtain rfl := inj1 h
      exact hret (by decide) dX5_isLetter_17 hP hD hS
def f_X5_isDigit (p0 : Int32) : Option (Int32) := if p0 < (48 : Int32) then some (0 : Int32) else if (57 : Int32) < p0 then some (0 : Int32) else some (1 : Int32)
set_option maxHeartbeats 4000000 in
set_option maxRecDepth 100000 in
theorem c_X5_isDigit (l : Launch) (D : va_G) (cI cZ cP : ClassId) (p0 : Int32) (r : Int32) (h : f_X5_isDigit p0 = some r) : rd_I l yX5_isDigit wsX5_isDigit { frames := 0, cells := 0, slots := 0, locals := 0 } [.int p0] D (tyA cI cZ cP) ([]) ([]) r := by
  unfold f_X5_isDigit at h
  refine rd_enterZ (cc := cX5_isDigit) (maxL := 1) (by decide) rfl (Nat.le_of_ble_eq_true rfl) ?_
  intro p e s m args below meth c A Q ls hx hb hml hown hts hA hK hP hD hS hl hret
  have hl : lv_has ls 1 [(0, .int p0)] := hl
  refine lv_iload_n hx hb dX5_isDigit_0 rfl (lv_at hl 0 rfl) ?_
  refine lv_bipush (v := 48) hx hb dX5_isDigit_1 (by decide) ?_
  refine lv_icmp_lt (tgt := 16) hx hb dX5_isDigit_3 (by decide) (fun c_1 => ?_) (fun c_1 => ?_)
  · replace h := it_pos h c_1
    refine lv_iconst (v := 0) hx hb dX5_isDigit_16 (by decide) ?_
    obtain rfl := inj1 h
    exact hret (by decide) dX5_isDigit_17 hP hD hS
  · replace h := it_neg h c_1
    refine lv_iload_n hx hb dX5_isDigit_6 rfl (lv_at hl 0 rfl) ?_
    refine lv_bipush (v := 57) hx hb dX5_isDigit_7 (by decide) ?_
    refine lv_icmp_gt (tgt := 16) hx hb dX5_isDigit_9 (by decide) (fun c_2 => ?_) (fun c_2 => ?_)
    · replace h := it_pos h c_2
      refine lv_iconst (v := 0) hx hb dX5_isDigit_16 (by decide) ?_
      obtain rfl := inj1 h
      exact hret (by decide) dX5_isDigit_17 hP hD hS
    · replace h := it_neg h c_2
      refine lv_iconst (v := 1) hx hb dX5_isDigit_12 (by decide) ?_
      refine lv_goto (tgt := 17) hx hb dX5_isDigit_13 (by decide) ?_
      obtain rfl := inj1 h
      exact hret (by decide) dX5_isDigit_17 hP hD hS
