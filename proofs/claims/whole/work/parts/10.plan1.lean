theorem in_X3_copy_X3 : ∀ w ∈ wsX30, w ∈ wsX3_copy := by decide +kernel
def f_X3_copy (v_teams : Int32) (v_days : Int32) (v_rows : Nat → Int32) (v_p1_teams : Int32) (v_p1_days : Int32) (v_p1_rows : Nat → Int32) : Option (Int32 × Int32 × (Nat → Int32)) := if (¬ (0 : Int32) < 0 ∧ ¬ (0 : Int32) < 0 ∧ ¬ (182 : Int32) < 0 ∧ (0 : Int32).toNatClampNeg + (182 : Int32).toNatClampNeg ≤ 182 ∧ (0 : Int32).toNatClampNeg + (182 : Int32).toNatClampNeg ≤ 182) then bd (va_cpy v_p1_rows v_rows (0 : Int32).toNatClampNeg (0 : Int32).toNatClampNeg (182 : Int32).toNatClampNeg) (fun v_rows_2 => some (v_p1_teams, v_p1_days, v_rows_2)) else none
set_option maxHeartbeats 4000000 in
set_option maxRecDepth 100000 in
theorem c_X3_copy (l : Launch) (D : va_G) (cI cZ cP : ClassId) (a_this : Nat) (a_rows : Nat) (a_p1 : Nat) (a_p1_rows : Nat) (v_teams : Int32) (v_days : Int32) (v_rows : Nat → Int32) (v_p1_teams : Int32) (v_p1_days : Int32) (v_p1_rows : Nat → Int32) (nv_teams : Int32) (nv_days : Int32) (nv_rows : Nat → Int32) (h : f_X3_copy v_teams v_days v_rows v_p1_teams v_p1_days v_p1_rows = some (nv_teams, nv_days, nv_rows)) : rd_V l yX3_copy wsX3_copy { frames := 1, cells := 0, slots := 0, locals := 48 } [.ref a_this, .ref a_p1] D (tyA cI cZ cP) ((wd_X3 cI cZ cP a_this a_rows v_teams v_days v_rows) ++ (wd_X3 cI cZ cP a_p1 a_p1_rows v_p1_teams v_p1_days v_p1_rows)) ((wd_X3 cI cZ cP a_this a_rows nv_teams nv_days nv_rows) ++ (wd_X3 cI cZ cP a_p1 a_p1_rows v_p1_teams v_p1_days v_p1_rows)) := by
  unfold f_X3_copy at h
  refine rd_enterV (cc := cX3_copy) (maxL := 2) (by decide) rfl (Nat.le_of_ble_eq_true rfl) ?_
  intro p e s m args below meth c A Q ls hx hb hml hown hts hA hK hP hD hS hl hret
  have hl : lv_has ls 2 [(0, .ref a_this), (1, .ref a_p1)] := hl
  have kw1 := hts (.fieldLink RX3 15 "RoundDays$Plan" "teams" "I") (List.mem_of_getElem? (i := 1) rfl)
  have kw2 := hts (.fieldLink RX3 19 "RoundDays$Plan" "days" "I") (List.mem_of_getElem? (i := 2) rfl)
  have kw3 := hts (.fieldLink RX3 9 "RoundDays$Plan" "rows" "[I") (List.mem_of_getElem? (i := 3) rfl)
  have kw4 := hts (.methodLink RX3 22 arraycopyName) (List.mem_of_getElem? (i := 4) rfl)
  have kw5 := hts (.native arraycopyName) (List.mem_of_getElem? (i := 5) rfl)
  have kw6 := hts (.static arraycopyName) (List.mem_of_getElem? (i := 6) rfl)
  have kw7 := hts (.initialized "java/lang/System") (List.mem_of_getElem? (i := 7) rfl)
  refine lv_aload_n hx hb dX3_copy_0 rfl (lv_at hl 0 rfl) ?_
  refine lv_aload_n hx hb dX3_copy_1 rfl (lv_at hl 1 rfl) ?_
  refine va_get (D := D) (ci := 3) (v := .int v_p1_teams) (C := RX3) (T := TX3) (N := 3) hx hb hts in_X3_copy_X3 hown hK hP 2 rfl rfl 0 (by decide) kw1 (fun _ h9 => h9) rfl dX3_copy_2 ?_
  refine rd_put (W1 := (wd_X3 cI cZ cP a_this a_rows v_p1_teams v_days v_rows) ++ (wd_X3 cI cZ cP a_p1 a_p1_rows v_p1_teams v_p1_days v_p1_rows)) (C := RX3) (T := TX3) (N := 3) (ci := 3) hx hb hts in_X3_copy_X3 tyX3 tyX3_ok nmX3 hown hK hP hD hS 0 rfl rfl 0 (by decide) kw1 (fun _ h9 => h9) rfl rfl rfl (Nat.le_of_ble_eq_true rfl) rfl dX3_copy_5 (fun H locs hP hD hS => ?_)
  refine lv_aload_n hx hb dX3_copy_8 rfl (lv_at hl 0 rfl) ?_
  refine lv_aload_n hx hb dX3_copy_9 rfl (lv_at hl 1 rfl) ?_
  refine va_get (D := D) (ci := 3) (v := .int v_p1_days) (C := RX3) (T := TX3) (N := 3) hx hb hts in_X3_copy_X3 hown hK hP 2 rfl rfl 1 (by decide) kw2 (fun _ h9 => h9) rfl dX3_copy_10 ?_
  refine rd_put (W1 := (wd_X3 cI cZ cP a_this a_rows v_p1_teams v_p1_days v_rows) ++ (wd_X3 cI cZ cP a_p1 a_p1_rows v_p1_teams v_p1_days v_p1_rows)) (C := RX3) (T := TX3) (N := 3) (ci := 3) hx hb hts in_X3_copy_X3 tyX3 tyX3_ok nmX3 hown hK hP hD hS 0 rfl rfl 1 (by decide) kw2 (fun _ h9 => h9) rfl rfl rfl (Nat.le_of_ble_eq_true rfl) rfl dX3_copy_13 (fun H locs hP hD hS => ?_)
  refine lv_aload_n hx hb dX3_copy_16 rfl (lv_at hl 1 rfl) ?_
  refine va_get (D := D) (ci := 3) (v := .ref a_p1_rows) (C := RX3) (T := TX3) (N := 3) hx hb hts in_X3_copy_X3 hown hK hP 2 rfl rfl 2 (by decide) kw3 (fun _ h9 => h9) rfl dX3_copy_17 ?_
  refine lv_iconst (v := 0) hx hb dX3_copy_20 (by decide) ?_
  refine lv_aload_n hx hb dX3_copy_21 rfl (lv_at hl 0 rfl) ?_
  refine va_get (D := D) (ci := 3) (v := .ref a_rows) (C := RX3) (T := TX3) (N := 3) hx hb hts in_X3_copy_X3 hown hK hP 0 rfl rfl 2 (by decide) kw3 (fun _ h9 => h9) rfl dX3_copy_22 ?_
  refine lv_iconst (v := 0) hx hb dX3_copy_25 (by decide) ?_
  refine lv_aload_n hx hb dX3_copy_26 rfl (lv_at hl 0 rfl) ?_
  refine va_get (D := D) (ci := 3) (v := .ref a_rows) (C := RX3) (T := TX3) (N := 3) hx hb hts in_X3_copy_X3 hown hK hP 0 rfl rfl 2 (by decide) kw3 (fun _ h9 => h9) rfl dX3_copy_27 ?_
  refine va_alen (ty := .int) (v := (182 : Int32)) hx hb hK hP 1 0 rfl rfl rfl dX3_copy_30 ?_
  obtain ⟨hc_1, h⟩ := gd_some h
  obtain ⟨v_rows_2, ev_rows_2, h⟩ := bd_some h
  refine rd_copyi (W1 := (wd_X3 cI cZ cP a_this a_rows v_p1_teams v_p1_days v_rows_2) ++ (wd_X3 cI cZ cP a_p1 a_p1_rows v_p1_teams v_p1_days v_p1_rows)) hx hb (by rw [hml]; exact hl.1.symm) hown kw4 kw5 kw6 kw7 hK hP hD hS 3 1 0 rfl rfl rfl hc_1.1 hc_1.2.1 hc_1.2.2.1 hc_1.2.2.2.1 hc_1.2.2.2.2 ev_rows_2 rfl (Nat.le_of_ble_eq_true rfl) (Nat.le_of_ble_eq_true rfl) dX3_copy_31 (fun H locs hP hD hS => ?_)
  obtain ⟨rfl, rfl, rfl⟩ := inj3 h
  exact hret dX3_copy_34 hP hD hS
theorem in_X3_partner_X3 : ∀ w ∈ wsX30, w ∈ wsX3_partner := by decide +kernel
def f_X3_partner (v_teams : Int32) (v_days : Int32) (v_rows : Nat → Int32) (p1 : Int32) (p2 : Int32) : Option (Int32) := if p1 < 0 then some (-1 : Int32) else if v_days ≤ p1 then some (-1 : Int32) else if p2 < 0 then some (-1 : Int32) else if p2 < v_teams then if inb ((p1 * (14 : Int32)) + p2) 182 then some (v_rows ((p1 * (14 : Int32)) + p2).toNatClampNeg) else none else some (-1 : Int32)
set_option maxHeartbeats 4000000 in
set_option maxRecDepth 100000 in
theorem c_X3_partner (l : Launch) (D : va_G) (cI cZ cP : ClassId) (a_this : Nat) (a_rows : Nat) (v_teams : Int32) (v_days : Int32) (v_rows : Nat → Int32) (p1 : Int32) (p2 : Int32) (r : Int32) (h : f_X3_partner v_teams v_days v_rows p1 p2 = some r) : rd_I l yX3_partner wsX3_partner { frames := 0, cells := 0, slots := 0, locals := 0 } [.ref a_this, .int p1, .int p2] D (tyA cI cZ cP) (wd_X3 cI cZ cP a_this a_rows v_teams v_days v_rows) (wd_X3 cI cZ cP a_this a_rows v_teams v_days v_rows) r := by
  unfold f_X3_partner at h
  refine rd_enterI (cc := cX3_partner) (maxL := 3) (by decide) rfl (Nat.le_of_ble_eq_true rfl) ?_
  intro p e s m args below meth c A Q ls hx hb hml hown hts hA hK hP hD hS hl hret
  have hl : lv_has ls 3 [(0, .ref a_this), (1, .int p1), (2, .int p2)] := hl
  have kw1 := hts (.fieldLink RX3 19 "RoundDays$Plan" "days" "I") (List.mem_of_getElem? (i := 1) rfl)
  have kw2 := hts (.fieldLink RX3 15 "RoundDays$Plan" "teams" "I") (List.mem_of_getElem? (i := 2) rfl)
  have kw3 := hts (.fieldLink RX3 9 "RoundDays$Plan" "rows" "[I") (List.mem_of_getElem? (i := 3) rfl)
  refine lv_iload_n hx hb dX3_partner_0 rfl (lv_at hl 1 rfl) ?_
  refine lv_if_lt (tgt := 24) hx hb dX3_partner_1 (by decide) (fun c_1 => ?_) (fun c_1 => ?_)
  · replace h := it_pos h c_1
    refine lv_iconst (v := -1) hx hb dX3_partner_24 (by decide) ?_
    obtain rfl := inj1 h
    exact hret dX3_partner_25 hP hD hS
  · replace h := it_neg h c_1
    refine lv_iload_n hx hb dX3_partner_4 rfl (lv_at hl 1 rfl) ?_
    refine lv_aload_n hx hb dX3_partner_5 rfl (lv_at hl 0 rfl) ?_
    refine va_get (D := D) (ci := 3) (v := .int v_days) (C := RX3) (T := TX3) (N := 3) hx hb hts in_X3_partner_X3 hown hK hP 0 rfl rfl 1 (by decide) kw1 (fun _ h9 => h9) rfl dX3_partner_6 ?_
    refine lv_icmp_ge (tgt := 24) hx hb dX3_partner_9 (by decide) (fun c_2 => ?_) (fun c_2 => ?_)
    · replace h := it_pos h c_2
      refine lv_iconst (v := -1) hx hb dX3_partner_24 (by decide) ?_
      obtain rfl := inj1 h
      exact hret dX3_partner_25 hP hD hS
    · replace h := it_neg h c_2
      refine lv_iload_n hx hb dX3_partner_12 rfl (lv_at hl 2 rfl) ?_
      refine lv_if_lt (tgt := 24) hx hb dX3_partner_13 (by decide) (fun c_3 => ?_) (fun c_3 => ?_)
      · replace h := it_pos h c_3
        refine lv_iconst (v := -1) hx hb dX3_partner_24 (by decide) ?_
        obtain rfl := inj1 h
        exact hret dX3_partner_25 hP hD hS
      · replace h := it_neg h c_3
        refine lv_iload_n hx hb dX3_partner_16 rfl (lv_at hl 2 rfl) ?_
        refine lv_aload_n hx hb dX3_partner_17 rfl (lv_at hl 0 rfl) ?_
        refine va_get (D := D) (ci := 3) (v := .int v_teams) (C := RX3) (T := TX3) (N := 3) hx hb hts in_X3_partner_X3 hown hK hP 0 rfl rfl 0 (by decide) kw2 (fun _ h9 => h9) rfl dX3_partner_18 ?_
        refine lv_icmp_lt (tgt := 26) hx hb dX3_partner_21 (by decide) (fun c_4 => ?_) (fun c_4 => ?_)
        · replace h := it_pos h c_4
          refine lv_aload_n hx hb dX3_partner_26 rfl (lv_at hl 0 rfl) ?_
          refine va_get (D := D) (ci := 3) (v := .ref a_rows) (C := RX3) (T := TX3) (N := 3) hx hb hts in_X3_partner_X3 hown hK hP 0 rfl rfl 2 (by decide) kw3 (fun _ h9 => h9) rfl dX3_partner_27 ?_
          refine lv_iload_n hx hb dX3_partner_30 rfl (lv_at hl 1 rfl) ?_
          refine lv_bipush (v := 14) hx hb dX3_partner_31 (by decide) ?_
          refine lv_imul hx hb dX3_partner_33 ?_
          refine lv_iload_n hx hb dX3_partner_34 rfl (lv_at hl 2 rfl) ?_
          refine lv_iadd hx hb dX3_partner_35 ?_
          obtain ⟨hi_5, h⟩ := gd_some h
          refine va_iald hx hb hK hP 1 0 rfl rfl (inb_in hi_5) dX3_partner_36 ?_
          obtain rfl := inj1 h
          exact hret dX3_partner_37 hP hD hS
        · replace h := it_neg h c_4
          refine lv_iconst (v := -1) hx hb dX3_partner_24 (by decide) ?_
          obtain rfl := inj1 h
          exact hret dX3_partner_25 hP hD hS
theorem in_X3_hasTeam_X3 : ∀ w ∈ wsX30, w ∈ wsX3_hasTeam := by decide +kernel
def f_X3_hasTeam (v_teams : Int32) (p1 : Int32) : Option (Int32) := if p1 < 0 then some (0 : Int32) else if v_teams ≤ p1 then some (0 : Int32) else some (1 : Int32)
set_option maxHeartbeats 4000000 in
set_option maxRecDepth 100000 in
theorem c_X3_hasTeam (l : Launch) (D : va_G) (cI cZ cP : ClassId) (a_this : Nat) (a_rows : Nat) (v_teams : Int32) (v_days : Int32) (v_rows : Nat → Int32) (p1 : Int32) (r : Int32) (h : f_X3_hasTeam v_teams p1 = some r) : rd_I l yX3_hasTeam wsX3_hasTeam { frames := 0, cells := 0, slots := 0, locals := 0 } [.ref a_this, .int p1] D (tyA cI cZ cP) (wd_X3 cI cZ cP a_this a_rows v_teams v_days v_rows) (wd_X3 cI cZ cP a_this a_rows v_teams v_days v_rows) r := by
  unfold f_X3_hasTeam at h
  refine rd_enterZ (cc := cX3_hasTeam) (maxL := 2) (by decide) rfl (Nat.le_of_ble_eq_true rfl) ?_
  intro p e s m args below meth c A Q ls hx hb hml hown hts hA hK hP hD hS hl hret
  have hl : lv_has ls 2 [(0, .ref a_this), (1, .int p1)] := hl
  have kw1 := hts (.fieldLink RX3 15 "RoundDays$Plan" "teams" "I") (List.mem_of_getElem? (i := 1) rfl)
  refine lv_iload_n hx hb dX3_hasTeam_0 rfl (lv_at hl 1 rfl) ?_
  refine lv_if_lt (tgt := 16) hx hb dX3_hasTeam_1 (by decide) (fun c_1 => ?_) (fun c_1 => ?_)
  · replace h := it_pos h c_1
    refine lv_iconst (v := 0) hx hb dX3_hasTeam_16 (by decide) ?_
    obtain rfl := inj1 h
    exact hret (by decide) dX3_hasTeam_17 hP hD hS
  · replace h := it_neg h c_1
    refine lv_iload_n hx hb dX3_hasTeam_4 rfl (lv_at hl 1 rfl) ?_
    refine lv_aload_n hx hb dX3_hasTeam_5 rfl (lv_at hl 0 rfl) ?_
    refine va_get (D := D) (ci := 3) (v := .int v_teams) (C := RX3) (T := TX3) (N := 3) hx hb hts in_X3_hasTeam_X3 hown hK hP 0 rfl rfl 0 (by decide) kw1 (fun _ h9 => h9) rfl dX3_hasTeam_6 ?_
    refine lv_icmp_ge (tgt := 16) hx hb dX3_hasTeam_9 (by decide) (fun c_2 => ?_) (fun c_2 => ?_)
    · replace h := it_pos h c_2
      refine lv_iconst (v := 0) hx hb dX3_hasTeam_16 (by decide) ?_
      obtain rfl := inj1 h
      exact hret (by decide) dX3_hasTeam_17 hP hD hS
    · replace h := it_neg h c_2
      refine lv_iconst (v := 1) hx hb dX3_hasTeam_12 (by decide) ?_
      refine lv_goto (tgt := 17) hx hb dX3_hasTeam_13 (by decide) ?_
      obtain rfl := inj1 h
      exact hret (by decide) dX3_hasTeam_17 hP hD hS
theorem in_X3_clear_X3 : ∀ w ∈ wsX30, w ∈ wsX3_clear := by decide +kernel
def f_X3_clear (v_teams : Int32) (v_days : Int32) (p1 : Int32) : Option (Int32 × Int32) := some (p1, (0 : Int32))
set_option maxHeartbeats 4000000 in
set_option maxRecDepth 100000 in
theorem c_X3_clear (l : Launch) (D : va_G) (cI cZ cP : ClassId) (a_this : Nat) (a_rows : Nat) (v_teams : Int32) (v_days : Int32) (v_rows : Nat → Int32) (p1 : Int32) (nv_teams : Int32) (nv_days : Int32) (h : f_X3_clear v_teams v_days p1 = some (nv_teams, nv_days)) : rd_V l yX3_clear wsX3_clear { frames := 0, cells := 0, slots := 0, locals := 0 } [.ref a_this, .int p1] D (tyA cI cZ cP) (wd_X3 cI cZ cP a_this a_rows v_teams v_days v_rows) (wd_X3 cI cZ cP a_this a_rows nv_teams nv_days v_rows) := by
  unfold f_X3_clear at h
  refine rd_enterV (cc := cX3_clear) (maxL := 2) (by decide) rfl (Nat.le_of_ble_eq_true rfl) ?_
  intro p e s m args below meth c A Q ls hx hb hml hown hts hA hK hP hD hS hl hret
  have hl : lv_has ls 2 [(0, .ref a_this), (1, .int p1)] := hl
  have kw1 := hts (.fieldLink RX3 15 "RoundDays$Plan" "teams" "I") (List.mem_of_getElem? (i := 1) rfl)
  have kw2 := hts (.fieldLink RX3 19 "RoundDays$Plan" "days" "I") (List.mem_of_getElem? (i := 2) rfl)
  refine lv_aload_n hx hb dX3_clear_0 rfl (lv_at hl 0 rfl) ?_
  refine lv_iload_n hx hb dX3_clear_1 rfl (lv_at hl 1 rfl) ?_
  refine rd_put (W1 := wd_X3 cI cZ cP a_this a_rows p1 v_days v_rows) (C := RX3) (T := TX3) (N := 3) (ci := 3) hx hb hts in_X3_clear_X3 tyX3 tyX3_ok nmX3 hown hK hP hD hS 0 rfl rfl 0 (by decide) kw1 (fun _ h9 => h9) rfl rfl rfl (Nat.le_of_ble_eq_true rfl) rfl dX3_clear_2 (fun H locs hP hD hS => ?_)
  refine lv_aload_n hx hb dX3_clear_5 rfl (lv_at hl 0 rfl) ?_
  refine lv_iconst (v := 0) hx hb dX3_clear_6 (by decide) ?_
  refine rd_put (W1 := wd_X3 cI cZ cP a_this a_rows p1 (0 : Int32) v_rows) (C := RX3) (T := TX3) (N := 3) (ci := 3) hx hb hts in_X3_clear_X3 tyX3 tyX3_ok nmX3 hown hK hP hD hS 0 rfl rfl 1 (by decide) kw2 (fun _ h9 => h9) rfl rfl rfl (Nat.le_of_ble_eq_true rfl) rfl dX3_clear_7 (fun H locs hP hD hS => ?_)
  obtain ⟨rfl, rfl⟩ := inj2 h
  exact hret dX3_clear_10 hP hD hS
theorem in_X3_hasTwoTeams_X3 : ∀ w ∈ wsX30, w ∈ wsX3_hasTwoTeams := by decide +kernel
def f_X3_hasTwoTeams (v_teams : Int32) (p1 : Int32) (p2 : Int32) : Option (Int32) := if p1 = p2 then some (0 : Int32) else if p1 < 0 then some (0 : Int32) else if v_teams ≤ p1 then some (0 : Int32) else if p2 < 0 then some (0 : Int32) else if v_teams ≤ p2 then some (0 : Int32) else some (1 : Int32)
set_option maxHeartbeats 4000000 in
set_option maxRecDepth 100000 in
theorem c_X3_hasTwoTeams (l : Launch) (D : va_G) (cI cZ cP : ClassId) (a_this : Nat) (a_rows : Nat) (v_teams : Int32) (v_days : Int32) (v_rows : Nat → Int32) (p1 : Int32) (p2 : Int32) (r : Int32) (h : f_X3_hasTwoTeams v_teams p1 p2 = some r) : rd_I l yX3_hasTwoTeams wsX3_hasTwoTeams { frames := 0, cells := 0, slots := 0, locals := 0 } [.ref a_this, .int p1, .int p2] D (tyA cI cZ cP) (wd_X3 cI cZ cP a_this a_rows v_teams v_days v_rows) (wd_X3 cI cZ cP a_this a_rows v_teams v_days v_rows) r := by
  unfold f_X3_hasTwoTeams at h
  refine rd_enterZ (cc := cX3_hasTwoTeams) (maxL := 3) (by decide) rfl (Nat.le_of_ble_eq_true rfl) ?_
  intro p e s m args below meth c A Q ls hx hb hml hown hts hA hK hP hD hS hl hret
  have hl : lv_has ls 3 [(0, .ref a_this), (1, .int p1), (2, .int p2)] := hl
  have kw1 := hts (.fieldLink RX3 15 "RoundDays$Plan" "teams" "I") (List.mem_of_getElem? (i := 1) rfl)
  refine lv_iload_n hx hb dX3_hasTwoTeams_0 rfl (lv_at hl 1 rfl) ?_
  refine lv_iload_n hx hb dX3_hasTwoTeams_1 rfl (lv_at hl 2 rfl) ?_
  refine lv_icmp_eq (tgt := 33) hx hb dX3_hasTwoTeams_2 (by decide) (fun c_1 => ?_) (fun c_1 => ?_)
  · replace h := it_pos h c_1
    refine lv_iconst (v := 0) hx hb dX3_hasTwoTeams_33 (by decide) ?_
    obtain rfl := inj1 h
    exact hret (by decide) dX3_hasTwoTeams_34 hP hD hS
  · replace h := it_neg h c_1
    refine lv_iload_n hx hb dX3_hasTwoTeams_5 rfl (lv_at hl 1 rfl) ?_
    refine lv_if_lt (tgt := 33) hx hb dX3_hasTwoTeams_6 (by decide) (fun c_2 => ?_) (fun c_2 => ?_)
    · replace h := it_pos h c_2
      refine lv_iconst (v := 0) hx hb dX3_hasTwoTeams_33 (by decide) ?_
      obtain rfl := inj1 h
      exact hret (by decide) dX3_hasTwoTeams_34 hP hD hS
    · replace h := it_neg h c_2
      refine lv_iload_n hx hb dX3_hasTwoTeams_9 rfl (lv_at hl 1 rfl) ?_
      refine lv_aload_n hx hb dX3_hasTwoTeams_10 rfl (lv_at hl 0 rfl) ?_
      refine va_get (D := D) (ci := 3) (v := .int v_teams) (C := RX3) (T := TX3) (N := 3) hx hb hts in_X3_hasTwoTeams_X3 hown hK hP 0 rfl rfl 0 (by decide) kw1 (fun _ h9 => h9) rfl dX3_hasTwoTeams_11 ?_
      refine lv_icmp_ge (tgt := 33) hx hb dX3_hasTwoTeams_14 (by decide) (fun c_3 => ?_) (fun c_3 => ?_)
      · replace h := it_pos h c_3
        refine lv_iconst (v := 0) hx hb dX3_hasTwoTeams_33 (by decide) ?_
        obtain rfl := inj1 h
        exact hret (by decide) dX3_hasTwoTeams_34 hP hD hS
      · replace h := it_neg h c_3
        refine lv_iload_n hx hb dX3_hasTwoTeams_17 rfl (lv_at hl 2 rfl) ?_
        refine lv_if_lt (tgt := 33) hx hb dX3_hasTwoTeams_18 (by decide) (fun c_4 => ?_) (fun c_4 => ?_)
        · replace h := it_pos h c_4
          refine lv_iconst (v := 0) hx hb dX3_hasTwoTeams_33 (by decide) ?_
          obtain rfl := inj1 h
          exact hret (by decide) dX3_hasTwoTeams_34 hP hD hS
        · replace h := it_neg h c_4
          refine lv_iload_n hx hb dX3_hasTwoTeams_21 rfl (lv_at hl 2 rfl) ?_
          refine lv_aload_n hx hb dX3_hasTwoTeams_22 rfl (lv_at hl 0 rfl) ?_
          refine va_get (D := D) (ci := 3) (v := .int v_teams) (C := RX3) (T := TX3) (N := 3) hx hb hts in_X3_hasTwoTeams_X3 hown hK hP 0 rfl rfl 0 (by decide) kw1 (fun _ h9 => h9) rfl dX3_hasTwoTeams_23 ?_
          refine lv_icmp_ge (tgt := 33) hx hb dX3_hasTwoTeams_26 (by decide) (fun c_5 => ?_) (fun c_5 => ?_)
          · replace h := it_pos h c_5
            refine lv_iconst (v := 0) hx hb dX3_hasTwoTeams_33 (by decide) ?_
            obtain rfl := inj1 h
            exact hret (by decide) dX3_hasTwoTeams_34 hP hD hS
          · replace h := it_neg h c_5
            refine lv_iconst (v := 1) hx hb dX3_hasTwoTeams_29 (by decide) ?_
            refine lv_goto (tgt := 34) hx hb dX3_hasTwoTeams_30 (by decide) ?_
            obtain rfl := inj1 h
            exact hret (by decide) dX3_hasTwoTeams_34 hP hD hS
theorem in_X3_hasDay_X3 : ∀ w ∈ wsX30, w ∈ wsX3_hasDay := by decide +kernel
def f_X3_hasDay (v_days : Int32) (p1 : Int32) : Option (Int32) := if p1 < 0 then some (0 : Int32) else if v_days ≤ p1 then some (0 : Int32) else some (1 : Int32)
set_option maxHeartbeats 4000000 in
set_option maxRecDepth 100000 in
theorem c_X3_hasDay (l : Launch) (D : va_G) (cI cZ cP : ClassId) (a_this : Nat) (a_rows : Nat) (v_teams : Int32) (v_days : Int32) (v_rows : Nat → Int32) (p1 : Int32) (r : Int32) (h : f_X3_hasDay v_days p1 = some r) : rd_I l yX3_hasDay wsX3_hasDay { frames := 0, cells := 0, slots := 0, locals := 0 } [.ref a_this, .int p1] D (tyA cI cZ cP) (wd_X3 cI cZ cP a_this a_rows v_teams v_days v_rows) (wd_X3 cI cZ cP a_this a_rows v_teams v_days v_rows) r := by
  unfold f_X3_hasDay at h
  refine rd_enterZ (cc := cX3_hasDay) (maxL := 2) (by decide) rfl (Nat.le_of_ble_eq_true rfl) ?_
  intro p e s m args below meth c A Q ls hx hb hml hown hts hA hK hP hD hS hl hret
  have hl : lv_has ls 2 [(0, .ref a_this), (1, .int p1)] := hl
  have kw1 := hts (.fieldLink RX3 19 "RoundDays$Plan" "days" "I") (List.mem_of_getElem? (i := 1) rfl)
  refine lv_iload_n hx hb dX3_hasDay_0 rfl (lv_at hl 1 rfl) ?_
  refine lv_if_lt (tgt := 16) hx hb dX3_hasDay_1 (by decide) (fun c_1 => ?_) (fun c_1 => ?_)
  · replace h := it_pos h c_1
    refine lv_iconst (v := 0) hx hb dX3_hasDay_16 (by decide) ?_
    obtain rfl := inj1 h
    exact hret (by decide) dX3_hasDay_17 hP hD hS
  · replace h := it_neg h c_1
    refine lv_iload_n hx hb dX3_hasDay_4 rfl (lv_at hl 1 rfl) ?_
    refine lv_aload_n hx hb dX3_hasDay_5 rfl (lv_at hl 0 rfl) ?_
    refine va_get (D := D) (ci := 3) (v := .int v_days) (C := RX3) (T := TX3) (N := 3) hx hb hts in_X3_hasDay_X3 hown hK hP 0 rfl rfl 1 (by decide) kw1 (fun _ h9 => h9) rfl dX3_hasDay_6 ?_
    refine lv_icmp_ge (tgt := 16) hx hb dX3_hasDay_9 (by decide) (fun c_2 => ?_) (fun c_2 => ?_)
    · replace h := it_pos h c_2
      refine lv_iconst (v := 0) hx hb dX3_hasDay_16 (by decide) ?_
      obtain rfl := inj1 h
      exact hret (by decide) dX3_hasDay_17 hP hD hS
    · replace h := it_neg h c_2
      refine lv_iconst (v := 1) hx hb dX3_hasDay_12 (by decide) ?_
      refine lv_goto (tgt := 17) hx hb dX3_hasDay_13 (by decide) ?_
      obtain rfl := inj1 h
      exact hret (by decide) dX3_hasDay_17 hP hD hS
theorem in_X3_hasTwoDays_X3 : ∀ w ∈ wsX30, w ∈ wsX3_hasTwoDays := by decide +kernel
def f_X3_hasTwoDays (v_days : Int32) (p1 : Int32) (p2 : Int32) : Option (Int32) := if p1 = p2 then some (0 : Int32) else if p1 < 0 then some (0 : Int32) else if v_days ≤ p1 then some (0 : Int32) else if p2 < 0 then some (0 : Int32) else if v_days ≤ p2 then some (0 : Int32) else some (1 : Int32)
set_option maxHeartbeats 4000000 in
set_option maxRecDepth 100000 in
theorem c_X3_hasTwoDays (l : Launch) (D : va_G) (cI cZ cP : ClassId) (a_this : Nat) (a_rows : Nat) (v_teams : Int32) (v_days : Int32) (v_rows : Nat → Int32) (p1 : Int32) (p2 : Int32) (r : Int32) (h : f_X3_hasTwoDays v_days p1 p2 = some r) : rd_I l yX3_hasTwoDays wsX3_hasTwoDays { frames := 0, cells := 0, slots := 0, locals := 0 } [.ref a_this, .int p1, .int p2] D (tyA cI cZ cP) (wd_X3 cI cZ cP a_this a_rows v_teams v_days v_rows) (wd_X3 cI cZ cP a_this a_rows v_teams v_days v_rows) r := by
  unfold f_X3_hasTwoDays at h
  refine rd_enterZ (cc := cX3_hasTwoDays) (maxL := 3) (by decide) rfl (Nat.le_of_ble_eq_true rfl) ?_
  intro p e s m args below meth c A Q ls hx hb hml hown hts hA hK hP hD hS hl hret
  have hl : lv_has ls 3 [(0, .ref a_this), (1, .int p1), (2, .int p2)] := hl
  have kw1 := hts (.fieldLink RX3 19 "RoundDays$Plan" "days" "I") (List.mem_of_getElem? (i := 1) rfl)
  refine lv_iload_n hx hb dX3_hasTwoDays_0 rfl (lv_at hl 1 rfl) ?_
  refine lv_iload_n hx hb dX3_hasTwoDays_1 rfl (lv_at hl 2 rfl) ?_
  refine lv_icmp_eq (tgt := 33) hx hb dX3_hasTwoDays_2 (by decide) (fun c_1 => ?_) (fun c_1 => ?_)
  · replace h := it_pos h c_1
    refine lv_iconst (v := 0) hx hb dX3_hasTwoDays_33 (by decide) ?_
    obtain rfl := inj1 h
    exact hret (by decide) dX3_hasTwoDays_34 hP hD hS
  · replace h := it_neg h c_1
    refine lv_iload_n hx hb dX3_hasTwoDays_5 rfl (lv_at hl 1 rfl) ?_
    refine lv_if_lt (tgt := 33) hx hb dX3_hasTwoDays_6 (by decide) (fun c_2 => ?_) (fun c_2 => ?_)
    · replace h := it_pos h c_2
      refine lv_iconst (v := 0) hx hb dX3_hasTwoDays_33 (by decide) ?_
      obtain rfl := inj1 h
      exact hret (by decide) dX3_hasTwoDays_34 hP hD hS
    · replace h := it_neg h c_2
      refine lv_iload_n hx hb dX3_hasTwoDays_9 rfl (lv_at hl 1 rfl) ?_
      refine lv_aload_n hx hb dX3_hasTwoDays_10 rfl (lv_at hl 0 rfl) ?_
      refine va_get (D := D) (ci := 3) (v := .int v_days) (C := RX3) (T := TX3) (N := 3) hx hb hts in_X3_hasTwoDays_X3 hown hK hP 0 rfl rfl 1 (by decide) kw1 (fun _ h9 => h9) rfl dX3_hasTwoDays_11 ?_
      refine lv_icmp_ge (tgt := 33) hx hb dX3_hasTwoDays_14 (by decide) (fun c_3 => ?_) (fun c_3 => ?_)
      · replace h := it_pos h c_3
        refine lv_iconst (v := 0) hx hb dX3_hasTwoDays_33 (by decide) ?_
        obtain rfl := inj1 h
        exact hret (by decide) dX3_hasTwoDays_34 hP hD hS
      · replace h := it_neg h c_3
        refine lv_iload_n hx hb dX3_hasTwoDays_17 rfl (lv_at hl 2 rfl) ?_
        refine lv_if_lt (tgt := 33) hx hb dX3_hasTwoDays_18 (by decide) (fun c_4 => ?_) (fun c_4 => ?_)
        · replace h := it_pos h c_4
          refine lv_iconst (v := 0) hx hb dX3_hasTwoDays_33 (by decide) ?_
          obtain rfl := inj1 h
          exact hret (by decide) dX3_hasTwoDays_34 hP hD hS
        · replace h := it_neg h c_4
          refine lv_iload_n hx hb dX3_hasTwoDays_21 rfl (lv_at hl 2 rfl) ?_
          refine lv_aload_n hx hb dX3_hasTwoDays_22 rfl (lv_at hl 0 rfl) ?_
          refine va_get (D := D) (ci := 3) (v := .int v_days) (C := RX3) (T := TX3) (N := 3) hx hb hts in_X3_hasTwoDays_X3 hown hK hP 0 rfl rfl 1 (by decide) kw1 (fun _ h9 => h9) rfl dX3_hasTwoDays_23 ?_
          refine lv_icmp_ge (tgt := 33) hx hb dX3_hasTwoDays_26 (by decide) (fun c_5 => ?_) (fun c_5 => ?_)
          · replace h := it_pos h c_5
            refine lv_iconst (v := 0) hx hb dX3_hasTwoDays_33 (by decide) ?_
            obtain rfl := inj1 h
            exact hret (by decide) dX3_hasTwoDays_34 hP hD hS
          · replace h := it_neg h c_5
            refine lv_iconst (v := 1) hx hb dX3_hasTwoDays_29 (by decide) ?_
            refine lv_goto (tgt := 34) hx hb dX3_hasTwoDays_30 (by decide) ?_
            obtain rfl := inj1 h
            exact hret (by decide) dX3_hasTwoDays_34 hP hD hS
theorem in_X3_dayOf_X3 : ∀ w ∈ wsX30, w ∈ wsX3_dayOf := by decide +kernel
def f_X3_dayOf_L13 (v_teams : Int32) (v_days : Int32) (v_rows : Nat → Int32) (p1 : Int32) (p2 : Int32) (self : Int32 → Option (Int32)) : Int32 → Option (Int32) := fun x3 => if v_days ≤ x3 then some (-1 : Int32) else if inb ((x3 * (14 : Int32)) + p1) 182 then if (v_rows ((x3 * (14 : Int32)) + p1).toNatClampNeg) = p2 then some x3 else bd (x3 + (1 : Int32)) (fun x3_4 => self x3_4) else none
def f_X3_dayOf (v_teams : Int32) (v_days : Int32) (v_rows : Nat → Int32) (p1 : Int32) (p2 : Int32) : Option (Int32) := (f_X3_hasTwoTeams v_teams p1 p2).bind (fun r_5 => if r_5 = 0 then some (-1 : Int32) else lp (f_X3_dayOf_L13 v_teams v_days v_rows p1 p2) 20000 (0 : Int32))
set_option maxHeartbeats 4000000 in
set_option maxRecDepth 100000 in
theorem c_X3_dayOf (l : Launch) (D : va_G) (cI cZ cP : ClassId) (a_this : Nat) (a_rows : Nat) (v_teams : Int32) (v_days : Int32) (v_rows : Nat → Int32) (p1 : Int32) (p2 : Int32) (r : Int32) (h : f_X3_dayOf v_teams v_days v_rows p1 p2 = some r) : rd_I l yX3_dayOf wsX3_dayOf { frames := 1, cells := 0, slots := 0, locals := 22 } [.ref a_this, .int p1, .int p2] D (tyA cI cZ cP) (wd_X3 cI cZ cP a_this a_rows v_teams v_days v_rows) (wd_X3 cI cZ cP a_this a_rows v_teams v_days v_rows) r := by
  unfold f_X3_dayOf at h
  refine rd_enterI (cc := cX3_dayOf) (maxL := 4) (by decide) rfl (Nat.le_of_ble_eq_true rfl) ?_
  intro p e s m args below meth c A Q ls hx hb hml hown hts hA hK hP hD hS hl hret
  have hl : lv_has ls 4 [(0, .ref a_this), (1, .int p1), (2, .int p2)] := hl
  have kw1 := hts (.fieldLink RX3 19 "RoundDays$Plan" "days" "I") (List.mem_of_getElem? (i := 1) rfl)
  have kw2 := hts (.fieldLink RX3 9 "RoundDays$Plan" "rows" "[I") (List.mem_of_getElem? (i := 2) rfl)
  have w13 : ∀ n : Nat, ∀ (x3 : Int32), lp (f_X3_dayOf_L13 v_teams v_days v_rows p1 p2) n x3 = some r → ∀ (H : Heap) (locs : List Loc) (ls : Array Slot), va_P D vwCl (wd_X3 cI cZ cP a_this a_rows v_teams v_days v_rows) H → va_D A (wd_X3 cI cZ cP a_this a_rows v_teams v_days v_rows) → va_S A s.heap H locs → lv_has ls 4 [(0, .ref a_this), (1, .int p1), (2, .int p2), (3, .int x3)] → W p l e { frames := 1, cells := 0, slots := 0, locals := 22 } s m args below meth c H locs 0 0 Q (F0 m 13 ls []) := by
    refine fun n x3 h => lp_walk (b := f_X3_dayOf_L13 v_teams v_days v_rows p1 p2) (r := r) (P := fun x3 => ∀ (H : Heap) (locs : List Loc) (ls : Array Slot), va_P D vwCl (wd_X3 cI cZ cP a_this a_rows v_teams v_days v_rows) H → va_D A (wd_X3 cI cZ cP a_this a_rows v_teams v_days v_rows) → va_S A s.heap H locs → lv_has ls 4 [(0, .ref a_this), (1, .int p1), (2, .int p2), (3, .int x3)] → W p l e { frames := 1, cells := 0, slots := 0, locals := 22 } s m args below meth c H locs 0 0 Q (F0 m 13 ls [])) (fun self hself0 st h => ?_) n x3 h
    revert h; revert st; intro x3 h
    have hself : ∀ (x3 : Int32), self x3 = some r → ∀ (H : Heap) (locs : List Loc) (ls : Array Slot), va_P D vwCl (wd_X3 cI cZ cP a_this a_rows v_teams v_days v_rows) H → va_D A (wd_X3 cI cZ cP a_this a_rows v_teams v_days v_rows) → va_S A s.heap H locs → lv_has ls 4 [(0, .ref a_this), (1, .int p1), (2, .int p2), (3, .int x3)] → W p l e { frames := 1, cells := 0, slots := 0, locals := 22 } s m args below meth c H locs 0 0 Q (F0 m 13 ls []) := fun x3 h => hself0 x3 h
    clear hself0
    intro H locs ls hP hD hS hl
    replace h : (if v_days ≤ x3 then some (-1 : Int32) else if inb ((x3 * (14 : Int32)) + p1) 182 then if (v_rows ((x3 * (14 : Int32)) + p1).toNatClampNeg) = p2 then some x3 else bd (x3 + (1 : Int32)) (fun x3_4 => self x3_4) else none) = some r := h
    refine lv_iload_n hx hb dX3_dayOf_13 rfl (lv_at hl 3 rfl) ?_
    refine lv_aload_n hx hb dX3_dayOf_14 rfl (lv_at hl 0 rfl) ?_
    refine va_get (D := D) (ci := 3) (v := .int v_days) (C := RX3) (T := TX3) (N := 3) hx hb hts in_X3_dayOf_X3 hown hK hP 0 rfl rfl 1 (by decide) kw1 (fun _ h9 => h9) rfl dX3_dayOf_15 ?_
    refine lv_icmp_ge (tgt := 44) hx hb dX3_dayOf_18 (by decide) (fun c_1 => ?_) (fun c_1 => ?_)
    · replace h := it_pos h c_1
      refine lv_iconst (v := -1) hx hb dX3_dayOf_44 (by decide) ?_
      obtain rfl := inj1 h
      exact hret dX3_dayOf_45 hP hD hS
    · replace h := it_neg h c_1
      refine lv_aload_n hx hb dX3_dayOf_21 rfl (lv_at hl 0 rfl) ?_
      refine va_get (D := D) (ci := 3) (v := .ref a_rows) (C := RX3) (T := TX3) (N := 3) hx hb hts in_X3_dayOf_X3 hown hK hP 0 rfl rfl 2 (by decide) kw2 (fun _ h9 => h9) rfl dX3_dayOf_22 ?_
      refine lv_iload_n hx hb dX3_dayOf_25 rfl (lv_at hl 3 rfl) ?_
      refine lv_bipush (v := 14) hx hb dX3_dayOf_26 (by decide) ?_
      refine lv_imul hx hb dX3_dayOf_28 ?_
      refine lv_iload_n hx hb dX3_dayOf_29 rfl (lv_at hl 1 rfl) ?_
      refine lv_iadd hx hb dX3_dayOf_30 ?_
      obtain ⟨hi_2, h⟩ := gd_some h
      refine va_iald hx hb hK hP 1 0 rfl rfl (inb_in hi_2) dX3_dayOf_31 ?_
      refine lv_iload_n hx hb dX3_dayOf_32 rfl (lv_at hl 2 rfl) ?_
      refine lv_icmp_ne (tgt := 38) hx hb dX3_dayOf_33 (by decide) (fun c_3 => ?_) (fun c_3 => ?_)
      · replace h := it_neg h c_3
        obtain ⟨x3_4, ex3_4, h⟩ := bd_some h
        refine lv_iinc (v := x3_4) (lv' := [(3, .int x3_4), (0, .ref a_this), (1, .int p1), (2, .int p2)]) hx hb dX3_dayOf_38 hl (k := 3) rfl (by rw [ex3_4]; rfl) (by decide) rfl (fun ls hl => ?_)
        refine lv_goto (tgt := 13) hx hb dX3_dayOf_41 (by decide) ?_
        exact hself x3_4 h _ _ _ hP hD hS (lv_sub hl [1, 2, 3, 0] rfl)
      · replace h := it_pos h c_3
        refine lv_iload_n hx hb dX3_dayOf_36 rfl (lv_at hl 3 rfl) ?_
        obtain rfl := inj1 h
        exact hret dX3_dayOf_37 hP hD hS
  refine lv_aload_n hx hb dX3_dayOf_0 rfl (lv_at hl 0 rfl) ?_
  refine lv_iload_n hx hb dX3_dayOf_1 rfl (lv_at hl 1 rfl) ?_
  refine lv_iload_n hx hb dX3_dayOf_2 rfl (lv_at hl 2 rfl) ?_
  obtain ⟨r_5, hc_6, h⟩ := bi_some h
  refine rd_callVi [.int p1, .int p2] [] (wr := []) (W1 := wd_X3 cI cZ cP a_this a_rows v_teams v_days v_rows) (ci := 3) ⟨hx, hb, hml, hown, hts⟩ (c_X3_hasTwoTeams l D cI cZ cP a_this a_rows v_teams v_days v_rows p1 p2 r_5 hc_6) (cwV 2 hts gX3_dayOf_X3_hasTwoTeams rfl rfl rfl (by decide +kernel) ⟨Nat.le_of_ble_eq_true rfl, Nat.le_of_ble_eq_true rfl⟩) rfl rfl hl.1 (Nat.le_of_ble_eq_true rfl) dX3_dayOf_3 ⟨Nat.zero_le _, Nat.zero_le _⟩ hK hP hD hS hA rfl rfl [0, 1] [] [0, 1] ⟨⟨rfl, rfl, rfl⟩, by decide⟩ (fun H locs hP hD hS => ?_)
  refine lv_if_ne (tgt := 11) hx hb dX3_dayOf_6 (by decide) (fun c_7 => ?_) (fun c_7 => ?_)
  · replace h := it_neg h c_7
    refine lv_iconst (v := 0) hx hb dX3_dayOf_11 (by decide) ?_
    refine lv_istore_n (lv' := [(3, .int (0 : Int32)), (0, .ref a_this), (1, .int p1), (2, .int p2)]) hx hb dX3_dayOf_12 rfl hl (by decide) rfl (fun ls hl => ?_)
    exact w13 20000 (0 : Int32) h _ _ _ hP hD hS (lv_sub hl [1, 2, 3, 0] rfl)
  · replace h := it_pos h c_7
    refine lv_iconst (v := -1) hx hb dX3_dayOf_9 (by decide) ?_
    obtain rfl := inj1 h
    exact hret dX3_dayOf_10 hP hD hS
def f_X3_circleOf_L9 (v_teams : Int32) (v_days : Int32) (v_rows : Nat → Int32) (p1 : Int32) (p2 : Int32) (p3 : Int32) (self : Int32 × Int32 × Int32 → Option (Int32)) : Int32 × Int32 × Int32 → Option (Int32) := fun st => match st with | (x4, x5, x6) => if (14 : Int32) ≤ x6 then some x4 else if ((x4 >>> (x5 &&& (31 : Int32))) &&& (1 : Int32)) = 0 then (f_X3_partner v_teams v_days v_rows p1 x5).bind (fun r_3 => bd (x4 ||| (((1 : Int32) <<< (x5 &&& (31 : Int32))) ||| ((1 : Int32) <<< (r_3 &&& (31 : Int32))))) (fun x4_5 => (f_X3_partner v_teams v_days v_rows p2 r_3).bind (fun r_6 => bd (x6 + (1 : Int32)) (fun x6_8 => self (x4_5, r_6, x6_8))))) else some x4
def f_X3_circleOf (v_teams : Int32) (v_days : Int32) (v_rows : Nat → Int32) (p1 : Int32) (p2 : Int32) (p3 : Int32) : Option (Int32) := lp (f_X3_circleOf_L9 v_teams v_days v_rows p1 p2 p3) 20000 ((0 : Int32), p3, (0 : Int32))
set_option maxHeartbeats 4000000 in
set_option maxRecDepth 100000 in
theorem c_X3_circleOf (l : Launch) (D : va_G) (cI cZ cP : ClassId) (a_this : Nat) (a_rows : Nat) (v_teams : Int32) (v_days : Int32) (v_rows : Nat → Int32) (p1 : Int32) (p2 : Int32) (p3 : Int32) (r : Int32) (h : f_X3_circleOf v_teams v_days v_rows p1 p2 p3 = some r) : rd_I l yX3_circleOf wsX3_circleOf { frames := 1, cells := 0, slots := 0, locals := 22 } [.ref a_this, .int p1, .int p2, .int p3] D (tyA cI cZ cP) (wd_X3 cI cZ cP a_this a_rows v_teams v_days v_rows) (wd_X3 cI cZ cP a_this a_rows v_teams v_days v_rows) r := by
  unfold f_X3_circleOf at h
  refine rd_enterI (cc := cX3_circleOf) (maxL := 8) (by decide) rfl (Nat.le_of_ble_eq_true rfl) ?_
  intro p e s m args below meth c A Q ls hx hb hml hown hts hA hK hP hD hS hl hret
  have hl : lv_has ls 8 [(0, .ref a_this), (1, .int p1), (2, .int p2), (3, .int p3)] := hl
  have w9 : ∀ n : Nat, ∀ (x4 : Int32) (x5 : Int32) (x6 : Int32), lp (f_X3_circleOf_L9 v_teams v_days v_rows p1 p2 p3) n (x4, x5, x6) = some r → ∀ (H : Heap) (locs : List Loc) (ls : Array Slot), va_P D vwCl (wd_X3 cI cZ cP a_this a_rows v_teams v_days v_rows) H → va_D A (wd_X3 cI cZ cP a_this a_rows v_teams v_days v_rows) → va_S A s.heap H locs → lv_has ls 8 [(0, .ref a_this), (1, .int p1), (2, .int p2), (4, .int x4), (5, .int x5), (6, .int x6)] → W p l e { frames := 1, cells := 0, slots := 0, locals := 22 } s m args below meth c H locs 0 0 Q (F0 m 9 ls []) := by
    refine fun n x4 x5 x6 h => lp_walk (b := f_X3_circleOf_L9 v_teams v_days v_rows p1 p2 p3) (r := r) (P := fun st => match st with | (x4, x5, x6) => ∀ (H : Heap) (locs : List Loc) (ls : Array Slot), va_P D vwCl (wd_X3 cI cZ cP a_this a_rows v_teams v_days v_rows) H → va_D A (wd_X3 cI cZ cP a_this a_rows v_teams v_days v_rows) → va_S A s.heap H locs → lv_has ls 8 [(0, .ref a_this), (1, .int p1), (2, .int p2), (4, .int x4), (5, .int x5), (6, .int x6)] → W p l e { frames := 1, cells := 0, slots := 0, locals := 22 } s m args below meth c H locs 0 0 Q (F0 m 9 ls [])) (fun self hself0 st h => ?_) n (x4, x5, x6) h
    obtain ⟨x4, x5, x6⟩ := st
    have hself : ∀ (x4 : Int32) (x5 : Int32) (x6 : Int32), self (x4, x5, x6) = some r → ∀ (H : Heap) (locs : List Loc) (ls : Array Slot), va_P D vwCl (wd_X3 cI cZ cP a_this a_rows v_teams v_days v_rows) H → va_D A (wd_X3 cI cZ cP a_this a_rows v_teams v_days v_rows) → va_S A s.heap H locs → lv_has ls 8 [(0, .ref a_this), (1, .int p1), (2, .int p2), (4, .int x4), (5, .int x5), (6, .int x6)] → W p l e { frames := 1, cells := 0, slots := 0, locals := 22 } s m args below meth c H locs 0 0 Q (F0 m 9 ls []) := fun x4 x5 x6 h => hself0 (x4, x5, x6) h
    clear hself0
    intro H locs ls hP hD hS hl
    replace h : (if (14 : Int32) ≤ x6 then some x4 else if ((x4 >>> (x5 &&& (31 : Int32))) &&& (1 : Int32)) = 0 then (f_X3_partner v_teams v_days v_rows p1 x5).bind (fun r_3 => bd (x4 ||| (((1 : Int32) <<< (x5 &&& (31 : Int32))) ||| ((1 : Int32) <<< (r_3 &&& (31 : Int32))))) (fun x4_5 => (f_X3_partner v_teams v_days v_rows p2 r_3).bind (fun r_6 => bd (x6 + (1 : Int32)) (fun x6_8 => self (x4_5, r_6, x6_8))))) else some x4) = some r := h
    refine lv_iload hx hb dX3_circleOf_9 (lv_at hl 5 rfl) ?_
    refine lv_bipush (v := 14) hx hb dX3_circleOf_11 (by decide) ?_
    refine lv_icmp_ge (tgt := 64) hx hb dX3_circleOf_13 (by decide) (fun c_1 => ?_) (fun c_1 => ?_)
    · replace h := it_pos h c_1
      refine lv_iload hx hb dX3_circleOf_64 (lv_at hl 3 rfl) ?_
      obtain rfl := inj1 h
      exact hret dX3_circleOf_66 hP hD hS
    · replace h := it_neg h c_1
      refine lv_iload hx hb dX3_circleOf_16 (lv_at hl 3 rfl) ?_
      refine lv_iload hx hb dX3_circleOf_18 (lv_at hl 4 rfl) ?_
      refine lv_ishr hx hb dX3_circleOf_20 ?_
      refine lv_iconst (v := 1) hx hb dX3_circleOf_21 (by decide) ?_
      refine lv_iand hx hb dX3_circleOf_22 ?_
      refine lv_if_ne (tgt := 64) hx hb dX3_circleOf_23 (by decide) (fun c_2 => ?_) (fun c_2 => ?_)
      · replace h := it_neg h c_2
        refine lv_iload hx hb dX3_circleOf_64 (lv_at hl 3 rfl) ?_
        obtain rfl := inj1 h
        exact hret dX3_circleOf_66 hP hD hS
      · replace h := it_pos h c_2
        refine lv_aload_n hx hb dX3_circleOf_26 rfl (lv_at hl 0 rfl) ?_
        refine lv_iload_n hx hb dX3_circleOf_27 rfl (lv_at hl 1 rfl) ?_
        refine lv_iload hx hb dX3_circleOf_28 (lv_at hl 4 rfl) ?_
        obtain ⟨r_3, hc_4, h⟩ := bi_some h
        refine rd_callVi [.int p1, .int x5] [] (wr := []) (W1 := wd_X3 cI cZ cP a_this a_rows v_teams v_days v_rows) (ci := 3) ⟨hx, hb, hml, hown, hts⟩ (c_X3_partner l D cI cZ cP a_this a_rows v_teams v_days v_rows p1 x5 r_3 hc_4) (cwV 2 hts gX3_circleOf_X3_partner rfl rfl rfl (by decide +kernel) ⟨Nat.le_of_ble_eq_true rfl, Nat.le_of_ble_eq_true rfl⟩) rfl rfl hl.1 (Nat.le_of_ble_eq_true rfl) dX3_circleOf_30 ⟨Nat.zero_le _, Nat.zero_le _⟩ hK hP hD hS hA rfl rfl [0, 1] [] [0, 1] ⟨⟨rfl, rfl, rfl⟩, by decide⟩ (fun H locs hP hD hS => ?_)
        refine lv_istore (lv' := [(7, .int r_3), (0, .ref a_this), (1, .int p1), (2, .int p2), (4, .int x4), (5, .int x5), (6, .int x6)]) hx hb dX3_circleOf_33 hl (by decide) rfl (fun ls hl => ?_)
        refine lv_iload hx hb dX3_circleOf_35 (lv_at hl 4 rfl) ?_
        refine lv_iconst (v := 1) hx hb dX3_circleOf_37 (by decide) ?_
        refine lv_iload hx hb dX3_circleOf_38 (lv_at hl 5 rfl) ?_
        refine lv_ishl hx hb dX3_circleOf_40 ?_
        refine lv_iconst (v := 1) hx hb dX3_circleOf_41 (by decide) ?_
        refine lv_iload hx hb dX3_circleOf_42 (lv_at hl 0 rfl) ?_
        refine lv_ishl hx hb dX3_circleOf_44 ?_
        refine lv_ior hx hb dX3_circleOf_45 ?_
        refine lv_ior hx hb dX3_circleOf_46 ?_
        obtain ⟨x4_5, ex4_5, h⟩ := bd_some h
        refine rd_top ex4_5 ?_
        refine lv_istore (lv' := [(4, .int x4_5), (7, .int r_3), (0, .ref a_this), (1, .int p1), (2, .int p2), (5, .int x5), (6, .int x6)]) hx hb dX3_circleOf_47 hl (by decide) rfl (fun ls hl => ?_)
        refine lv_aload_n hx hb dX3_circleOf_49 rfl (lv_at hl 2 rfl) ?_
        refine lv_iload_n hx hb dX3_circleOf_50 rfl (lv_at hl 4 rfl) ?_
        refine lv_iload hx hb dX3_circleOf_51 (lv_at hl 1 rfl) ?_
        obtain ⟨r_6, hc_7, h⟩ := bi_some h
        refine rd_callVi [.int p2, .int r_3] [] (wr := []) (W1 := wd_X3 cI cZ cP a_this a_rows v_teams v_days v_rows) (ci := 3) ⟨hx, hb, hml, hown, hts⟩ (c_X3_partner l D cI cZ cP a_this a_rows v_teams v_days v_rows p2 r_3 r_6 hc_7) (cwV 2 hts gX3_circleOf_X3_partner rfl rfl rfl (by decide +kernel) ⟨Nat.le_of_ble_eq_true rfl, Nat.le_of_ble_eq_true rfl⟩) rfl rfl hl.1 (Nat.le_of_ble_eq_true rfl) dX3_circleOf_53 ⟨Nat.zero_le _, Nat.zero_le _⟩ hK hP hD hS hA rfl rfl [0, 1] [] [0, 1] ⟨⟨rfl, rfl, rfl⟩, by decide⟩ (fun H locs hP hD hS => ?_)
        refine lv_istore (lv' := [(5, .int r_6), (4, .int x4_5), (7, .int r_3), (0, .ref a_this), (1, .int p1), (2, .int p2), (6, .int x6)]) hx hb dX3_circleOf_56 hl (by decide) rfl (fun ls hl => ?_)
        obtain ⟨x6_8, ex6_8, h⟩ := bd_some h
        refine lv_iinc (v := x6_8) (lv' := [(6, .int x6_8), (5, .int r_6), (4, .int x4_5), (7, .int r_3), (0, .ref a_this), (1, .int p1), (2, .int p2)]) hx hb dX3_circleOf_58 hl (k := 6) rfl (by rw [ex6_8]; rfl) (by decide) rfl (fun ls hl => ?_)
        refine lv_goto (tgt := 9) hx hb dX3_circleOf_61 (by decide) ?_
        exact hself x4_5 r_6 x6_8 h _ _ _ hP hD hS (lv_sub hl [4, 5, 6, 2, 1, 0] rfl)
  refine lv_iconst (v := 0) hx hb dX3_circleOf_0 (by decide) ?_
  refine lv_istore (lv' := [(4, .int (0 : Int32)), (0, .ref a_this), (1, .int p1), (2, .int p2), (3, .int p3)]) hx hb dX3_circleOf_1 hl (by decide) rfl (fun ls hl => ?_)
  refine lv_iload_n hx hb dX3_circleOf_3 rfl (lv_at hl 4 rfl) ?_
  refine lv_istore (lv' := [(5, .int p3), (4, .int (0 : Int32)), (0, .ref a_this), (1, .int p1), (2, .int p2), (3, .int p3)]) hx hb dX3_circleOf_4 hl (by decide) rfl (fun ls hl => ?_)
  refine lv_iconst (v := 0) hx hb dX3_circleOf_6 (by decide) ?_
  refine lv_istore (lv' := [(6, .int (0 : Int32)), (5, .int p3), (4, .int (0 : Int32)), (0, .ref a_this), (1, .int p1), (2, .int p2), (3, .int p3)]) hx hb dX3_circleOf_7 hl (by decide) rfl (fun ls hl => ?_)
  exact w9 20000 (0 : Int32) p3 (0 : Int32) h _ _ _ hP hD hS (lv_sub hl [3, 4, 5, 2, 1, 0] rfl)
theorem in_X3_circles_X3 : ∀ w ∈ wsX30, w ∈ wsX3_circles := by decide +kernel
def f_X3_circles_L8 (v_teams : Int32) (v_days : Int32) (v_rows : Nat → Int32) (p1 : Int32) (p2 : Int32) (self : Int32 × Int32 × Int32 → Option (Int32)) : Int32 × Int32 × Int32 → Option (Int32) := fun st => match st with | (x3, x4, x5) => if v_teams ≤ x5 then some x4 else if ((x3 >>> (x5 &&& (31 : Int32))) &&& (1 : Int32)) = 0 then (f_X3_circleOf v_teams v_days v_rows p1 p2 x5).bind (fun r_4 => bd (x3 ||| r_4) (fun x3_6 => bd (x4 + (1 : Int32)) (fun x4_7 => bd (x5 + (1 : Int32)) (fun x5_8 => self (x3_6, x4_7, x5_8))))) else bd (x5 + (1 : Int32)) (fun x5_3 => self (x3, x4, x5_3))
def f_X3_circles (v_teams : Int32) (v_days : Int32) (v_rows : Nat → Int32) (p1 : Int32) (p2 : Int32) : Option (Int32) := lp (f_X3_circles_L8 v_teams v_days v_rows p1 p2) 20000 ((0 : Int32), (0 : Int32), (0 : Int32))
set_option maxHeartbeats 4000000 in
set_option maxRecDepth 100000 in
theorem c_X3_circles (l : Launch) (D : va_G) (cI cZ cP : ClassId) (a_this : Nat) (a_rows : Nat) (v_teams : Int32) (v_days : Int32) (v_rows : Nat → Int32) (p1 : Int32) (p2 : Int32) (r : Int32) (h : f_X3_circles v_teams v_days v_rows p1 p2 = some r) : rd_I l yX3_circles wsX3_circles { frames := 2, cells := 0, slots := 0, locals := 49 } [.ref a_this, .int p1, .int p2] D (tyA cI cZ cP) (wd_X3 cI cZ cP a_this a_rows v_teams v_days v_rows) (wd_X3 cI cZ cP a_this a_rows v_teams v_days v_rows) r := by
  unfold f_X3_circles at h
  refine rd_enterI (cc := cX3_circles) (maxL := 6) (by decide) rfl (Nat.le_of_ble_eq_true rfl) ?_
  intro p e s m args below meth c A Q ls hx hb hml hown hts hA hK hP hD hS hl hret
  have hl : lv_has ls 6 [(0, .ref a_this), (1, .int p1), (2, .int p2)] := hl
  have kw1 := hts (.fieldLink RX3 15 "RoundDays$Plan" "teams" "I") (List.mem_of_getElem? (i := 1) rfl)
  have w8 : ∀ n : Nat, ∀ (x3 : Int32) (x4 : Int32) (x5 : Int32), lp (f_X3_circles_L8 v_teams v_days v_rows p1 p2) n (x3, x4, x5) = some r → ∀ (H : Heap) (locs : List Loc) (ls : Array Slot), va_P D vwCl (wd_X3 cI cZ cP a_this a_rows v_teams v_days v_rows) H → va_D A (wd_X3 cI cZ cP a_this a_rows v_teams v_days v_rows) → va_S A s.heap H locs → lv_has ls 6 [(0, .ref a_this), (1, .int p1), (2, .int p2), (3, .int x3), (4, .int x4), (5, .int x5)] → W p l e { frames := 2, cells := 0, slots := 0, locals := 49 } s m args below meth c H locs 0 0 Q (F0 m 8 ls []) := by
    refine fun n x3 x4 x5 h => lp_walk (b := f_X3_circles_L8 v_teams v_days v_rows p1 p2) (r := r) (P := fun st => match st with | (x3, x4, x5) => ∀ (H : Heap) (locs : List Loc) (ls : Array Slot), va_P D vwCl (wd_X3 cI cZ cP a_this a_rows v_teams v_days v_rows) H → va_D A (wd_X3 cI cZ cP a_this a_rows v_teams v_days v_rows) → va_S A s.heap H locs → lv_has ls 6 [(0, .ref a_this), (1, .int p1), (2, .int p2), (3, .int x3), (4, .int x4), (5, .int x5)] → W p l e { frames := 2, cells := 0, slots := 0, locals := 49 } s m args below meth c H locs 0 0 Q (F0 m 8 ls [])) (fun self hself0 st h => ?_) n (x3, x4, x5) h
    obtain ⟨x3, x4, x5⟩ := st
    have hself : ∀ (x3 : Int32) (x4 : Int32) (x5 : Int32), self (x3, x4, x5) = some r → ∀ (H : Heap) (locs : List Loc) (ls : Array Slot), va_P D vwCl (wd_X3 cI cZ cP a_this a_rows v_teams v_days v_rows) H → va_D A (wd_X3 cI cZ cP a_this a_rows v_teams v_days v_rows) → va_S A s.heap H locs → lv_has ls 6 [(0, .ref a_this), (1, .int p1), (2, .int p2), (3, .int x3), (4, .int x4), (5, .int x5)] → W p l e { frames := 2, cells := 0, slots := 0, locals := 49 } s m args below meth c H locs 0 0 Q (F0 m 8 ls []) := fun x3 x4 x5 h => hself0 (x3, x4, x5) h
    clear hself0
    intro H locs ls hP hD hS hl
    replace h : (if v_teams ≤ x5 then some x4 else if ((x3 >>> (x5 &&& (31 : Int32))) &&& (1 : Int32)) = 0 then (f_X3_circleOf v_teams v_days v_rows p1 p2 x5).bind (fun r_4 => bd (x3 ||| r_4) (fun x3_6 => bd (x4 + (1 : Int32)) (fun x4_7 => bd (x5 + (1 : Int32)) (fun x5_8 => self (x3_6, x4_7, x5_8))))) else bd (x5 + (1 : Int32)) (fun x5_3 => self (x3, x4, x5_3))) = some r := h
    refine lv_iload hx hb dX3_circles_8 (lv_at hl 5 rfl) ?_
    refine lv_aload_n hx hb dX3_circles_10 rfl (lv_at hl 0 rfl) ?_
    refine va_get (D := D) (ci := 3) (v := .int v_teams) (C := RX3) (T := TX3) (N := 3) hx hb hts in_X3_circles_X3 hown hK hP 0 rfl rfl 0 (by decide) kw1 (fun _ h9 => h9) rfl dX3_circles_11 ?_
    refine lv_icmp_ge (tgt := 46) hx hb dX3_circles_14 (by decide) (fun c_1 => ?_) (fun c_1 => ?_)
    · replace h := it_pos h c_1
      refine lv_iload hx hb dX3_circles_46 (lv_at hl 4 rfl) ?_
      obtain rfl := inj1 h
      exact hret dX3_circles_48 hP hD hS
    · replace h := it_neg h c_1
      refine lv_iload_n hx hb dX3_circles_17 rfl (lv_at hl 3 rfl) ?_
      refine lv_iload hx hb dX3_circles_18 (lv_at hl 5 rfl) ?_
      refine lv_ishr hx hb dX3_circles_20 ?_
      refine lv_iconst (v := 1) hx hb dX3_circles_21 (by decide) ?_
      refine lv_iand hx hb dX3_circles_22 ?_
      refine lv_if_ne (tgt := 40) hx hb dX3_circles_23 (by decide) (fun c_2 => ?_) (fun c_2 => ?_)
      · replace h := it_neg h c_2
        obtain ⟨x5_3, ex5_3, h⟩ := bd_some h
        refine lv_iinc (v := x5_3) (lv' := [(5, .int x5_3), (0, .ref a_this), (1, .int p1), (2, .int p2), (3, .int x3), (4, .int x4)]) hx hb dX3_circles_40 hl (k := 5) rfl (by rw [ex5_3]; rfl) (by decide) rfl (fun ls hl => ?_)
        refine lv_goto (tgt := 8) hx hb dX3_circles_43 (by decide) ?_
        exact hself x3 x4 x5_3 h _ _ _ hP hD hS (lv_sub hl [1, 2, 3, 4, 5, 0] rfl)
      · replace h := it_pos h c_2
        refine lv_iload_n hx hb dX3_circles_26 rfl (lv_at hl 3 rfl) ?_
        refine lv_aload_n hx hb dX3_circles_27 rfl (lv_at hl 0 rfl) ?_
        refine lv_iload_n hx hb dX3_circles_28 rfl (lv_at hl 1 rfl) ?_
        refine lv_iload_n hx hb dX3_circles_29 rfl (lv_at hl 2 rfl) ?_
        refine lv_iload hx hb dX3_circles_30 (lv_at hl 5 rfl) ?_
        obtain ⟨r_4, hc_5, h⟩ := bi_some h
        refine rd_callVi [.int p1, .int p2, .int x5] [.int x3] (wr := []) (W1 := wd_X3 cI cZ cP a_this a_rows v_teams v_days v_rows) (ci := 3) ⟨hx, hb, hml, hown, hts⟩ (c_X3_circleOf l D cI cZ cP a_this a_rows v_teams v_days v_rows p1 p2 x5 r_4 hc_5) (cwV 3 hts gX3_circles_X3_circleOf rfl rfl rfl (by decide +kernel) ⟨Nat.le_of_ble_eq_true rfl, Nat.le_of_ble_eq_true rfl⟩) rfl rfl hl.1 (Nat.le_of_ble_eq_true rfl) dX3_circles_32 ⟨Nat.zero_le _, Nat.zero_le _⟩ hK hP hD hS hA rfl rfl [0, 1] [] [0, 1] ⟨⟨rfl, rfl, rfl⟩, by decide⟩ (fun H locs hP hD hS => ?_)
        refine lv_ior hx hb dX3_circles_35 ?_
        obtain ⟨x3_6, ex3_6, h⟩ := bd_some h
        refine rd_top ex3_6 ?_
        refine lv_istore_n (lv' := [(3, .int x3_6), (0, .ref a_this), (1, .int p1), (2, .int p2), (4, .int x4), (5, .int x5)]) hx hb dX3_circles_36 rfl hl (by decide) rfl (fun ls hl => ?_)
        obtain ⟨x4_7, ex4_7, h⟩ := bd_some h
        refine lv_iinc (v := x4_7) (lv' := [(4, .int x4_7), (3, .int x3_6), (0, .ref a_this), (1, .int p1), (2, .int p2), (5, .int x5)]) hx hb dX3_circles_37 hl (k := 4) rfl (by rw [ex4_7]; rfl) (by decide) rfl (fun ls hl => ?_)
        obtain ⟨x5_8, ex5_8, h⟩ := bd_some h
        refine lv_iinc (v := x5_8) (lv' := [(5, .int x5_8), (4, .int x4_7), (3, .int x3_6), (0, .ref a_this), (1, .int p1), (2, .int p2)]) hx hb dX3_circles_40 hl (k := 5) rfl (by rw [ex5_8]; rfl) (by decide) rfl (fun ls hl => ?_)
        refine lv_goto (tgt := 8) hx hb dX3_circles_43 (by decide) ?_
        exact hself x3_6 x4_7 x5_8 h _ _ _ hP hD hS (lv_sub hl [3, 4, 5, 2, 1, 0] rfl)
  refine lv_iconst (v := 0) hx hb dX3_circles_0 (by decide) ?_
  refine lv_istore_n (lv' := [(3, .int (0 : Int32)), (0, .ref a_this), (1, .int p1), (2, .int p2)]) hx hb dX3_circles_1 rfl hl (by decide) rfl (fun ls hl => ?_)
  refine lv_iconst (v := 0) hx hb dX3_circles_2 (by decide) ?_
  refine lv_istore (lv' := [(4, .int (0 : Int32)), (3, .int (0 : Int32)), (0, .ref a_this), (1, .int p1), (2, .int p2)]) hx hb dX3_circles_3 hl (by decide) rfl (fun ls hl => ?_)
  refine lv_iconst (v := 0) hx hb dX3_circles_5 (by decide) ?_
  refine lv_istore (lv' := [(5, .int (0 : Int32)), (4, .int (0 : Int32)), (3, .int (0 : Int32)), (0, .ref a_this), (1, .int p1), (2, .int p2)]) hx hb dX3_circles_6 hl (by decide) rfl (fun ls hl => ?_)
  exact w8 20000 (0 : Int32) (0 : Int32) (0 : Int32) h _ _ _ hP hD hS (lv_sub hl [3, 4, 5, 2, 1, 0] rfl)
theorem in_X3_circleAt_X3 : ∀ w ∈ wsX30, w ∈ wsX3_circleAt := by decide +kernel
def f_X3_circleAt_L9 (v_teams : Int32) (v_days : Int32) (v_rows : Nat → Int32) (p1 : Int32) (p2 : Int32) (p3 : Int32) (self : Int32 × Int32 × Int32 → Option (Int32)) : Int32 × Int32 × Int32 → Option (Int32) := fun st => match st with | (x4, x5, x6) => if v_teams ≤ x6 then some (0 : Int32) else if ((x4 >>> (x6 &&& (31 : Int32))) &&& (1 : Int32)) = 0 then (f_X3_circleOf v_teams v_days v_rows p1 p2 x6).bind (fun r_4 => if x5 = p3 then some r_4 else bd (x4 ||| r_4) (fun x4_7 => bd (x5 + (1 : Int32)) (fun x5_8 => bd (x6 + (1 : Int32)) (fun x6_9 => self (x4_7, x5_8, x6_9))))) else bd (x6 + (1 : Int32)) (fun x6_3 => self (x4, x5, x6_3))
def f_X3_circleAt (v_teams : Int32) (v_days : Int32) (v_rows : Nat → Int32) (p1 : Int32) (p2 : Int32) (p3 : Int32) : Option (Int32) := lp (f_X3_circleAt_L9 v_teams v_days v_rows p1 p2 p3) 20000 ((0 : Int32), (0 : Int32), (0 : Int32))
set_option maxHeartbeats 4000000 in
set_option maxRecDepth 100000 in
theorem c_X3_circleAt (l : Launch) (D : va_G) (cI cZ cP : ClassId) (a_this : Nat) (a_rows : Nat) (v_teams : Int32) (v_days : Int32) (v_rows : Nat → Int32) (p1 : Int32) (p2 : Int32) (p3 : Int32) (r : Int32) (h : f_X3_circleAt v_teams v_days v_rows p1 p2 p3 = some r) : rd_I l yX3_circleAt wsX3_circleAt { frames := 2, cells := 0, slots := 0, locals := 49 } [.ref a_this, .int p1, .int p2, .int p3] D (tyA cI cZ cP) (wd_X3 cI cZ cP a_this a_rows v_teams v_days v_rows) (wd_X3 cI cZ cP a_this a_rows v_teams v_days v_rows) r := by
  unfold f_X3_circleAt at h
  refine rd_enterI (cc := cX3_circleAt) (maxL := 8) (by decide) rfl (Nat.le_of_ble_eq_true rfl) ?_
  intro p e s m args below meth c A Q ls hx hb hml hown hts hA hK hP hD hS hl hret
  have hl : lv_has ls 8 [(0, .ref a_this), (1, .int p1), (2, .int p2), (3, .int p3)] := hl
  have kw1 := hts (.fieldLink RX3 15 "RoundDays$Plan" "teams" "I") (List.mem_of_getElem? (i := 1) rfl)
  have w9 : ∀ n : Nat, ∀ (x4 : Int32) (x5 : Int32) (x6 : Int32), lp (f_X3_circleAt_L9 v_teams v_days v_rows p1 p2 p3) n (x4, x5, x6) = some r → ∀ (H : Heap) (locs : List Loc) (ls : Array Slot), va_P D vwCl (wd_X3 cI cZ cP a_this a_rows v_teams v_days v_rows) H → va_D A (wd_X3 cI cZ cP a_this a_rows v_teams v_days v_rows) → va_S A s.heap H locs → lv_has ls 8 [(0, .ref a_this), (1, .int p1), (2, .int p2), (3, .int p3), (4, .int x4), (5, .int x5), (6, .int x6)] → W p l e { frames := 2, cells := 0, slots := 0, locals := 49 } s m args below meth c H locs 0 0 Q (F0 m 9 ls []) := by
    refine fun n x4 x5 x6 h => lp_walk (b := f_X3_circleAt_L9 v_teams v_days v_rows p1 p2 p3) (r := r) (P := fun st => match st with | (x4, x5, x6) => ∀ (H : Heap) (locs : List Loc) (ls : Array Slot), va_P D vwCl (wd_X3 cI cZ cP a_this a_rows v_teams v_days v_rows) H → va_D A (wd_X3 cI cZ cP a_this a_rows v_teams v_days v_rows) → va_S A s.heap H locs → lv_has ls 8 [(0, .ref a_this), (1, .int p1), (2, .int p2), (3, .int p3), (4, .int x4), (5, .int x5), (6, .int x6)] → W p l e { frames := 2, cells := 0, slots := 0, locals := 49 } s m args below meth c H locs 0 0 Q (F0 m 9 ls [])) (fun self hself0 st h => ?_) n (x4, x5, x6) h
    obtain ⟨x4, x5, x6⟩ := st
    have hself : ∀ (x4 : Int32) (x5 : Int32) (x6 : Int32), self (x4, x5, x6) = some r → ∀ (H : Heap) (locs : List Loc) (ls : Array Slot), va_P D vwCl (wd_X3 cI cZ cP a_this a_rows v_teams v_days v_rows) H → va_D A (wd_X3 cI cZ cP a_this a_rows v_teams v_days v_rows) → va_S A s.heap H locs → lv_has ls 8 [(0, .ref a_this), (1, .int p1), (2, .int p2), (3, .int p3), (4, .int x4), (5, .int x5), (6, .int x6)] → W p l e { frames := 2, cells := 0, slots := 0, locals := 49 } s m args below meth c H locs 0 0 Q (F0 m 9 ls []) := fun x4 x5 x6 h => hself0 (x4, x5, x6) h
    clear hself0
    intro H locs ls hP hD hS hl
    replace h : (if v_teams ≤ x6 then some (0 : Int32) else if ((x4 >>> (x6 &&& (31 : Int32))) &&& (1 : Int32)) = 0 then (f_X3_circleOf v_teams v_days v_rows p1 p2 x6).bind (fun r_4 => if x5 = p3 then some r_4 else bd (x4 ||| r_4) (fun x4_7 => bd (x5 + (1 : Int32)) (fun x5_8 => bd (x6 + (1 : Int32)) (fun x6_9 => self (x4_7, x5_8, x6_9))))) else bd (x6 + (1 : Int32)) (fun x6_3 => self (x4, x5, x6_3))) = some r := h
    refine lv_iload hx hb dX3_circleAt_9 (lv_at hl 6 rfl) ?_
    refine lv_aload_n hx hb dX3_circleAt_11 rfl (lv_at hl 0 rfl) ?_
    refine va_get (D := D) (ci := 3) (v := .int v_teams) (C := RX3) (T := TX3) (N := 3) hx hb hts in_X3_circleAt_X3 hown hK hP 0 rfl rfl 0 (by decide) kw1 (fun _ h9 => h9) rfl dX3_circleAt_12 ?_
    refine lv_icmp_ge (tgt := 63) hx hb dX3_circleAt_15 (by decide) (fun c_1 => ?_) (fun c_1 => ?_)
    · replace h := it_pos h c_1
      refine lv_iconst (v := 0) hx hb dX3_circleAt_63 (by decide) ?_
      obtain rfl := inj1 h
      exact hret dX3_circleAt_64 hP hD hS
    · replace h := it_neg h c_1
      refine lv_iload hx hb dX3_circleAt_18 (lv_at hl 4 rfl) ?_
      refine lv_iload hx hb dX3_circleAt_20 (lv_at hl 6 rfl) ?_
      refine lv_ishr hx hb dX3_circleAt_22 ?_
      refine lv_iconst (v := 1) hx hb dX3_circleAt_23 (by decide) ?_
      refine lv_iand hx hb dX3_circleAt_24 ?_
      refine lv_if_ne (tgt := 57) hx hb dX3_circleAt_25 (by decide) (fun c_2 => ?_) (fun c_2 => ?_)
      · replace h := it_neg h c_2
        obtain ⟨x6_3, ex6_3, h⟩ := bd_some h
        refine lv_iinc (v := x6_3) (lv' := [(6, .int x6_3), (0, .ref a_this), (1, .int p1), (2, .int p2), (3, .int p3), (4, .int x4), (5, .int x5)]) hx hb dX3_circleAt_57 hl (k := 6) rfl (by rw [ex6_3]; rfl) (by decide) rfl (fun ls hl => ?_)
        refine lv_goto (tgt := 9) hx hb dX3_circleAt_60 (by decide) ?_
        exact hself x4 x5 x6_3 h _ _ _ hP hD hS (lv_sub hl [1, 2, 3, 4, 5, 6, 0] rfl)
      · replace h := it_pos h c_2
        refine lv_aload_n hx hb dX3_circleAt_28 rfl (lv_at hl 0 rfl) ?_
        refine lv_iload_n hx hb dX3_circleAt_29 rfl (lv_at hl 1 rfl) ?_
        refine lv_iload_n hx hb dX3_circleAt_30 rfl (lv_at hl 2 rfl) ?_
        refine lv_iload hx hb dX3_circleAt_31 (lv_at hl 6 rfl) ?_
        obtain ⟨r_4, hc_5, h⟩ := bi_some h
        refine rd_callVi [.int p1, .int p2, .int x6] [] (wr := []) (W1 := wd_X3 cI cZ cP a_this a_rows v_teams v_days v_rows) (ci := 3) ⟨hx, hb, hml, hown, hts⟩ (c_X3_circleOf l D cI cZ cP a_this a_rows v_teams v_days v_rows p1 p2 x6 r_4 hc_5) (cwV 3 hts gX3_circleAt_X3_circleOf rfl rfl rfl (by decide +kernel) ⟨Nat.le_of_ble_eq_true rfl, Nat.le_of_ble_eq_true rfl⟩) rfl rfl hl.1 (Nat.le_of_ble_eq_true rfl) dX3_circleAt_33 ⟨Nat.zero_le _, Nat.zero_le _⟩ hK hP hD hS hA rfl rfl [0, 1] [] [0, 1] ⟨⟨rfl, rfl, rfl⟩, by decide⟩ (fun H locs hP hD hS => ?_)
        refine lv_istore (lv' := [(7, .int r_4), (0, .ref a_this), (1, .int p1), (2, .int p2), (3, .int p3), (4, .int x4), (5, .int x5), (6, .int x6)]) hx hb dX3_circleAt_36 hl (by decide) rfl (fun ls hl => ?_)
        refine lv_iload hx hb dX3_circleAt_38 (lv_at hl 6 rfl) ?_
        refine lv_iload_n hx hb dX3_circleAt_40 rfl (lv_at hl 4 rfl) ?_
        refine lv_icmp_ne (tgt := 47) hx hb dX3_circleAt_41 (by decide) (fun c_6 => ?_) (fun c_6 => ?_)
        · replace h := it_neg h c_6
          refine lv_iload hx hb dX3_circleAt_47 (lv_at hl 5 rfl) ?_
          refine lv_iload hx hb dX3_circleAt_49 (lv_at hl 0 rfl) ?_
          refine lv_ior hx hb dX3_circleAt_51 ?_
          obtain ⟨x4_7, ex4_7, h⟩ := bd_some h
          refine rd_top ex4_7 ?_
          refine lv_istore (lv' := [(4, .int x4_7), (7, .int r_4), (0, .ref a_this), (1, .int p1), (2, .int p2), (3, .int p3), (5, .int x5), (6, .int x6)]) hx hb dX3_circleAt_52 hl (by decide) rfl (fun ls hl => ?_)
          obtain ⟨x5_8, ex5_8, h⟩ := bd_some h
          refine lv_iinc (v := x5_8) (lv' := [(5, .int x5_8), (4, .int x4_7), (7, .int r_4), (0, .ref a_this), (1, .int p1), (2, .int p2), (3, .int p3), (6, .int x6)]) hx hb dX3_circleAt_54 hl (k := 6) rfl (by rw [ex5_8]; rfl) (by decide) rfl (fun ls hl => ?_)
          obtain ⟨x6_9, ex6_9, h⟩ := bd_some h
          refine lv_iinc (v := x6_9) (lv' := [(6, .int x6_9), (5, .int x5_8), (4, .int x4_7), (7, .int r_4), (0, .ref a_this), (1, .int p1), (2, .int p2), (3, .int p3)]) hx hb dX3_circleAt_57 hl (k := 7) rfl (by rw [ex6_9]; rfl) (by decide) rfl (fun ls hl => ?_)
          refine lv_goto (tgt := 9) hx hb dX3_circleAt_60 (by decide) ?_
          exact hself x4_7 x5_8 x6_9 h _ _ _ hP hD hS (lv_sub hl [4, 5, 6, 7, 2, 1, 0] rfl)
        · replace h := it_pos h c_6
          refine lv_iload hx hb dX3_circleAt_44 (lv_at hl 0 rfl) ?_
          obtain rfl := inj1 h
          exact hret dX3_circleAt_46 hP hD hS
  refine lv_iconst (v := 0) hx hb dX3_circleAt_0 (by decide) ?_
  refine lv_istore (lv' := [(4, .int (0 : Int32)), (0, .ref a_this), (1, .int p1), (2, .int p2), (3, .int p3)]) hx hb dX3_circleAt_1 hl (by decide) rfl (fun ls hl => ?_)
  refine lv_iconst (v := 0) hx hb dX3_circleAt_3 (by decide) ?_
  refine lv_istore (lv' := [(5, .int (0 : Int32)), (4, .int (0 : Int32)), (0, .ref a_this), (1, .int p1), (2, .int p2), (3, .int p3)]) hx hb dX3_circleAt_4 hl (by decide) rfl (fun ls hl => ?_)
  refine lv_iconst (v := 0) hx hb dX3_circleAt_6 (by decide) ?_
  refine lv_istore (lv' := [(6, .int (0 : Int32)), (5, .int (0 : Int32)), (4, .int (0 : Int32)), (0, .ref a_this), (1, .int p1), (2, .int p2), (3, .int p3)]) hx hb dX3_circleAt_7 hl (by decide) rfl (fun ls hl => ?_)
  exact w9 20000 (0 : Int32) (0 : Int32) (0 : Int32) h _ _ _ hP hD hS (lv_sub hl [3, 4, 5, 6, 2, 1, 0] rfl)
theorem in_X3_isFirstOneWithAll_X3 : ∀ w ∈ wsX30, w ∈ wsX3_isFirstOneWithAll := by decide +kernel
def f_X3_isFirstOneWithAll_L11 (v_teams : Int32) (v_days : Int32) (v_rows : Nat → Int32) (x1 : Int32) (self : Int32 → Option (Int32)) : Int32 → Option (Int32) := fun x2 => if v_days ≤ x2 then some (1 : Int32) else (f_X3_circleOf v_teams v_days v_rows (0 : Int32) x2 (0 : Int32)).bind (fun r_2 => if r_2 = x1 then bd (x2 + (1 : Int32)) (fun x2_5 => self x2_5) else some (0 : Int32))
def f_X3_isFirstOneWithAll (v_teams : Int32) (v_days : Int32) (v_rows : Nat → Int32) : Option (Int32) := bd (((1 : Int32) <<< (v_teams &&& (31 : Int32))) - (1 : Int32)) (fun x1_6 => lp (f_X3_isFirstOneWithAll_L11 v_teams v_days v_rows x1_6) 20000 (1 : Int32))
set_option maxHeartbeats 4000000 in
set_option maxRecDepth 100000 in
theorem c_X3_isFirstOneWithAll (l : Launch) (D : va_G) (cI cZ cP : ClassId) (a_this : Nat) (a_rows : Nat) (v_teams : Int32) (v_days : Int32) (v_rows : Nat → Int32) (r : Int32) (h : f_X3_isFirstOneWithAll v_teams v_days v_rows = some r) : rd_I l yX3_isFirstOneWithAll wsX3_isFirstOneWithAll { frames := 2, cells := 0, slots := 0, locals := 49 } [.ref a_this] D (tyA cI cZ cP) (wd_X3 cI cZ cP a_this a_rows v_teams v_days v_rows) (wd_X3 cI cZ cP a_this a_rows v_teams v_days v_rows) r := by
  unfold f_X3_isFirstOneWithAll at h
  refine rd_enterZ (cc := cX3_isFirstOneWithAll) (maxL := 3) (by decide) rfl (Nat.le_of_ble_eq_true rfl) ?_
  intro p e s m args below meth c A Q ls hx hb hml hown hts hA hK hP hD hS hl hret
  have hl : lv_has ls 3 [(0, .ref a_this)] := hl
  have kw1 := hts (.fieldLink RX3 15 "RoundDays$Plan" "teams" "I") (List.mem_of_getElem? (i := 1) rfl)
  have kw2 := hts (.fieldLink RX3 19 "RoundDays$Plan" "days" "I") (List.mem_of_getElem? (i := 2) rfl)
  have w11 : ∀ x1 : Int32, ∀ n : Nat, ∀ (x2 : Int32), lp (f_X3_isFirstOneWithAll_L11 v_teams v_days v_rows x1) n x2 = some r → ∀ (H : Heap) (locs : List Loc) (ls : Array Slot), va_P D vwCl (wd_X3 cI cZ cP a_this a_rows v_teams v_days v_rows) H → va_D A (wd_X3 cI cZ cP a_this a_rows v_teams v_days v_rows) → va_S A s.heap H locs → lv_has ls 3 [(0, .ref a_this), (1, .int x1), (2, .int x2)] → W p l e { frames := 2, cells := 0, slots := 0, locals := 49 } s m args below meth c H locs 0 0 Q (F0 m 11 ls []) := by
    intro x1
    refine fun n x2 h => lp_walk (b := f_X3_isFirstOneWithAll_L11 v_teams v_days v_rows x1) (r := r) (P := fun x2 => ∀ (H : Heap) (locs : List Loc) (ls : Array Slot), va_P D vwCl (wd_X3 cI cZ cP a_this a_rows v_teams v_days v_rows) H → va_D A (wd_X3 cI cZ cP a_this a_rows v_teams v_days v_rows) → va_S A s.heap H locs → lv_has ls 3 [(0, .ref a_this), (1, .int x1), (2, .int x2)] → W p l e { frames := 2, cells := 0, slots := 0, locals := 49 } s m args below meth c H locs 0 0 Q (F0 m 11 ls [])) (fun self hself0 st h => ?_) n x2 h
    revert h; revert st; intro x2 h
    have hself : ∀ (x2 : Int32), self x2 = some r → ∀ (H : Heap) (locs : List Loc) (ls : Array Slot), va_P D vwCl (wd_X3 cI cZ cP a_this a_rows v_teams v_days v_rows) H → va_D A (wd_X3 cI cZ cP a_this a_rows v_teams v_days v_rows) → va_S A s.heap H locs → lv_has ls 3 [(0, .ref a_this), (1, .int x1), (2, .int x2)] → W p l e { frames := 2, cells := 0, slots := 0, locals := 49 } s m args below meth c H locs 0 0 Q (F0 m 11 ls []) := fun x2 h => hself0 x2 h
    clear hself0
    intro H locs ls hP hD hS hl
    replace h : (if v_days ≤ x2 then some (1 : Int32) else (f_X3_circleOf v_teams v_days v_rows (0 : Int32) x2 (0 : Int32)).bind (fun r_2 => if r_2 = x1 then bd (x2 + (1 : Int32)) (fun x2_5 => self x2_5) else some (0 : Int32))) = some r := h
    refine lv_iload_n hx hb dX3_isFirstOneWithAll_11 rfl (lv_at hl 2 rfl) ?_
    refine lv_aload_n hx hb dX3_isFirstOneWithAll_12 rfl (lv_at hl 0 rfl) ?_
    refine va_get (D := D) (ci := 3) (v := .int v_days) (C := RX3) (T := TX3) (N := 3) hx hb hts in_X3_isFirstOneWithAll_X3 hown hK hP 0 rfl rfl 1 (by decide) kw2 (fun _ h9 => h9) rfl dX3_isFirstOneWithAll_13 ?_
    refine lv_icmp_ge (tgt := 38) hx hb dX3_isFirstOneWithAll_16 (by decide) (fun c_1 => ?_) (fun c_1 => ?_)
    · replace h := it_pos h c_1
      refine lv_iconst (v := 1) hx hb dX3_isFirstOneWithAll_38 (by decide) ?_
      obtain rfl := inj1 h
      exact hret (by decide) dX3_isFirstOneWithAll_39 hP hD hS
    · replace h := it_neg h c_1
      refine lv_aload_n hx hb dX3_isFirstOneWithAll_19 rfl (lv_at hl 0 rfl) ?_
      refine lv_iconst (v := 0) hx hb dX3_isFirstOneWithAll_20 (by decide) ?_
      refine lv_iload_n hx hb dX3_isFirstOneWithAll_21 rfl (lv_at hl 2 rfl) ?_
      refine lv_iconst (v := 0) hx hb dX3_isFirstOneWithAll_22 (by decide) ?_
      obtain ⟨r_2, hc_3, h⟩ := bi_some h
      refine rd_callVi [.int (0 : Int32), .int x2, .int (0 : Int32)] [] (wr := []) (W1 := wd_X3 cI cZ cP a_this a_rows v_teams v_days v_rows) (ci := 3) ⟨hx, hb, hml, hown, hts⟩ (c_X3_circleOf l D cI cZ cP a_this a_rows v_teams v_days v_rows (0 : Int32) x2 (0 : Int32) r_2 hc_3) (cwV 3 hts gX3_isFirstOneWithAll_X3_circleOf rfl rfl rfl (by decide +kernel) ⟨Nat.le_of_ble_eq_true rfl, Nat.le_of_ble_eq_true rfl⟩) rfl rfl hl.1 (Nat.le_of_ble_eq_true rfl) dX3_isFirstOneWithAll_23 ⟨Nat.zero_le _, Nat.zero_le _⟩ hK hP hD hS hA rfl rfl [0, 1] [] [0, 1] ⟨⟨rfl, rfl, rfl⟩, by decide⟩ (fun H locs hP hD hS => ?_)
      refine lv_iload_n hx hb dX3_isFirstOneWithAll_26 rfl (lv_at hl 1 rfl) ?_
      refine lv_icmp_eq (tgt := 32) hx hb dX3_isFirstOneWithAll_27 (by decide) (fun c_4 => ?_) (fun c_4 => ?_)
      · replace h := it_pos h c_4
        obtain ⟨x2_5, ex2_5, h⟩ := bd_some h
        refine lv_iinc (v := x2_5) (lv' := [(2, .int x2_5), (0, .ref a_this), (1, .int x1)]) hx hb dX3_isFirstOneWithAll_32 hl (k := 2) rfl (by rw [ex2_5]; rfl) (by decide) rfl (fun ls hl => ?_)
        refine lv_goto (tgt := 11) hx hb dX3_isFirstOneWithAll_35 (by decide) ?_
        exact hself x2_5 h _ _ _ hP hD hS (lv_sub hl [1, 2, 0] rfl)
      · replace h := it_neg h c_4
        refine lv_iconst (v := 0) hx hb dX3_isFirstOneWithAll_30 (by decide) ?_
        obtain rfl := inj1 h
        exact hret (by decide) dX3_isFirstOneWithAll_31 hP hD hS
  refine lv_iconst (v := 1) hx hb dX3_isFirstOneWithAll_0 (by decide) ?_
  refine lv_aload_n hx hb dX3_isFirstOneWithAll_1 rfl (lv_at hl 0 rfl) ?_
  refine va_get (D := D) (ci := 3) (v := .int v_teams) (C := RX3) (T := TX3) (N := 3) hx hb hts in_X3_isFirstOneWithAll_X3 hown hK hP 0 rfl rfl 0 (by decide) kw1 (fun _ h9 => h9) rfl dX3_isFirstOneWithAll_2 ?_
  refine lv_ishl hx hb dX3_isFirstOneWithAll_5 ?_
  refine lv_iconst (v := 1) hx hb dX3_isFirstOneWithAll_6 (by decide) ?_
  refine lv_isub hx hb dX3_isFirstOneWithAll_7 ?_
  obtain ⟨x1_6, ex1_6, h⟩ := bd_some h
  refine rd_top ex1_6 ?_
  refine lv_istore_n (lv' := [(1, .int x1_6), (0, .ref a_this)]) hx hb dX3_isFirstOneWithAll_8 rfl hl (by decide) rfl (fun ls hl => ?_)
  refine lv_iconst (v := 1) hx hb dX3_isFirstOneWithAll_9 (by decide) ?_
  refine lv_istore_n (lv' := [(2, .int (1 : Int32)), (1, .int x1_6), (0, .ref a_this)]) hx hb dX3_isFirstOneWithAll_10 rfl hl (by decide) rfl (fun ls hl => ?_)
  exact w11 x1_6 20000 (1 : Int32) h _ _ _ hP hD hS (lv_sub hl [2, 1, 0] rfl)
theorem in_X3_append_X3 : ∀ w ∈ wsX30, w ∈ wsX3_append := by decide +kernel
def f_X3_append (n_p1 : Nat) (v_days : Int32) (v_rows : Nat → Int32) (v_p1 : Nat → Int32) : Option (Int32 × (Nat → Int32)) := if (13 : Int32) ≤ v_days then some (v_days, v_rows) else if (14 : Int32) ≤ (Int32.ofNat n_p1) then if (¬ (0 : Int32) < 0 ∧ ¬ (v_days * (14 : Int32)) < 0 ∧ ¬ (14 : Int32) < 0 ∧ (0 : Int32).toNatClampNeg + (14 : Int32).toNatClampNeg ≤ n_p1 ∧ (v_days * (14 : Int32)).toNatClampNeg + (14 : Int32).toNatClampNeg ≤ 182) then bd (va_cpy v_p1 v_rows (0 : Int32).toNatClampNeg (v_days * (14 : Int32)).toNatClampNeg (14 : Int32).toNatClampNeg) (fun v_rows_4 => bd (v_days + (1 : Int32)) (fun v_days_5 => some (v_days_5, v_rows_4))) else none else some (v_days, v_rows)
set_option maxHeartbeats 4000000 in
set_option maxRecDepth 100000 in
theorem c_X3_append (l : Launch) (D : va_G) (cI cZ cP : ClassId) (a_this : Nat) (a_rows : Nat) (a_p1 : Nat) (n_p1 : Nat) (v_teams : Int32) (v_days : Int32) (v_rows : Nat → Int32) (v_p1 : Nat → Int32) (nv_days : Int32) (nv_rows : Nat → Int32) (h : f_X3_append n_p1 v_days v_rows v_p1 = some (nv_days, nv_rows)) : rd_V l yX3_append wsX3_append { frames := 1, cells := 0, slots := 0, locals := 48 } [.ref a_this, .ref a_p1] D (tyA cI cZ cP) ((wd_X3 cI cZ cP a_this a_rows v_teams v_days v_rows) ++ (wd_I cI cZ cP a_p1 n_p1 v_p1)) ((wd_X3 cI cZ cP a_this a_rows v_teams nv_days nv_rows) ++ (wd_I cI cZ cP a_p1 n_p1 v_p1)) := by
  unfold f_X3_append at h
  refine rd_enterV (cc := cX3_append) (maxL := 2) (by decide) rfl (Nat.le_of_ble_eq_true rfl) ?_
  intro p e s m args below meth c A Q ls hx hb hml hown hts hA hK hP hD hS hl hret
  have hl : lv_has ls 2 [(0, .ref a_this), (1, .ref a_p1)] := hl
  have kw1 := hts (.fieldLink RX3 19 "RoundDays$Plan" "days" "I") (List.mem_of_getElem? (i := 1) rfl)
  have kw2 := hts (.fieldLink RX3 9 "RoundDays$Plan" "rows" "[I") (List.mem_of_getElem? (i := 2) rfl)
  have kw3 := hts (.methodLink RX3 22 arraycopyName) (List.mem_of_getElem? (i := 3) rfl)
  have kw4 := hts (.native arraycopyName) (List.mem_of_getElem? (i := 4) rfl)
  have kw5 := hts (.static arraycopyName) (List.mem_of_getElem? (i := 5) rfl)
  have kw6 := hts (.initialized "java/lang/System") (List.mem_of_getElem? (i := 6) rfl)
  refine lv_aload_n hx hb dX3_append_0 rfl (lv_at hl 0 rfl) ?_
  refine va_get (D := D) (ci := 3) (v := .int v_days) (C := RX3) (T := TX3) (N := 3) hx hb hts in_X3_append_X3 hown hK hP 0 rfl rfl 1 (by decide) kw1 (fun _ h9 => h9) rfl dX3_append_1 ?_
  refine lv_bipush (v := 13) hx hb dX3_append_4 (by decide) ?_
  refine lv_icmp_ge (tgt := 16) hx hb dX3_append_6 (by decide) (fun c_1 => ?_) (fun c_1 => ?_)
  · replace h := it_pos h c_1
    obtain ⟨rfl, rfl⟩ := inj2 h
    exact hret dX3_append_16 hP hD hS
  · replace h := it_neg h c_1
    refine lv_aload_n hx hb dX3_append_9 rfl (lv_at hl 1 rfl) ?_
    refine va_alen (ty := .int) (v := Int32.ofNat n_p1) hx hb hK hP 2 0 rfl rfl rfl dX3_append_10 ?_
    refine lv_bipush (v := 14) hx hb dX3_append_11 (by decide) ?_
    refine lv_icmp_ge (tgt := 17) hx hb dX3_append_13 (by decide) (fun c_2 => ?_) (fun c_2 => ?_)
    · replace h := it_pos h c_2
      refine lv_aload_n hx hb dX3_append_17 rfl (lv_at hl 1 rfl) ?_
      refine lv_iconst (v := 0) hx hb dX3_append_18 (by decide) ?_
      refine lv_aload_n hx hb dX3_append_19 rfl (lv_at hl 0 rfl) ?_
      refine va_get (D := D) (ci := 3) (v := .ref a_rows) (C := RX3) (T := TX3) (N := 3) hx hb hts in_X3_append_X3 hown hK hP 0 rfl rfl 2 (by decide) kw2 (fun _ h9 => h9) rfl dX3_append_20 ?_
      refine lv_aload_n hx hb dX3_append_23 rfl (lv_at hl 0 rfl) ?_
      refine va_get (D := D) (ci := 3) (v := .int v_days) (C := RX3) (T := TX3) (N := 3) hx hb hts in_X3_append_X3 hown hK hP 0 rfl rfl 1 (by decide) kw1 (fun _ h9 => h9) rfl dX3_append_24 ?_
      refine lv_bipush (v := 14) hx hb dX3_append_27 (by decide) ?_
      refine lv_imul hx hb dX3_append_29 ?_
      refine lv_bipush (v := 14) hx hb dX3_append_30 (by decide) ?_
      obtain ⟨hc_3, h⟩ := gd_some h
      obtain ⟨v_rows_4, ev_rows_4, h⟩ := bd_some h
      refine rd_copyi (W1 := (wd_X3 cI cZ cP a_this a_rows v_teams v_days v_rows_4) ++ (wd_I cI cZ cP a_p1 n_p1 v_p1)) hx hb (by rw [hml]; exact hl.1.symm) hown kw3 kw4 kw5 kw6 hK hP hD hS 2 1 0 rfl rfl rfl hc_3.1 hc_3.2.1 hc_3.2.2.1 hc_3.2.2.2.1 hc_3.2.2.2.2 ev_rows_4 rfl (Nat.le_of_ble_eq_true rfl) (Nat.le_of_ble_eq_true rfl) dX3_append_32 (fun H locs hP hD hS => ?_)
      refine lv_aload_n hx hb dX3_append_35 rfl (lv_at hl 0 rfl) ?_
      refine lv_dup hx hb dX3_append_36 rfl ?_
      refine va_get (D := D) (ci := 3) (v := .int v_days) (C := RX3) (T := TX3) (N := 3) hx hb hts in_X3_append_X3 hown hK hP 0 rfl rfl 1 (by decide) kw1 (fun _ h9 => h9) rfl dX3_append_37 ?_
      refine lv_iconst (v := 1) hx hb dX3_append_40 (by decide) ?_
      refine lv_iadd hx hb dX3_append_41 ?_
      obtain ⟨v_days_5, ev_days_5, h⟩ := bd_some h
      refine rd_top ev_days_5 ?_
      refine rd_put (W1 := (wd_X3 cI cZ cP a_this a_rows v_teams v_days_5 v_rows_4) ++ (wd_I cI cZ cP a_p1 n_p1 v_p1)) (C := RX3) (T := TX3) (N := 3) (ci := 3) hx hb hts in_X3_append_X3 tyX3 tyX3_ok nmX3 hown hK hP hD hS 0 rfl rfl 1 (by decide) kw1 (fun _ h9 => h9) rfl rfl rfl (Nat.le_of_ble_eq_true rfl) rfl dX3_append_42 (fun H locs hP hD hS => ?_)
      obtain ⟨rfl, rfl⟩ := inj2 h
      exact hret dX3_append_45 hP hD hS
    · replace h := it_neg h c_2
      obtain ⟨rfl, rfl⟩ := inj2 h
      exact hret dX3_append_16 hP hD hS
theorem in_X3_remove_X3 : ∀ w ∈ wsX30, w ∈ wsX3_remove := by decide +kernel
def f_X3_remove (v_days : Int32) (v_rows : Nat → Int32) (p1 : Int32) : Option (Int32 × (Nat → Int32)) := (f_X3_hasDay v_days p1).bind (fun r_1 => if r_1 = 0 then some (v_days, v_rows) else bd (((v_days - (1 : Int32)) - p1) * (14 : Int32)) (fun x2_4 => if (¬ ((p1 + (1 : Int32)) * (14 : Int32)) < 0 ∧ ¬ (p1 * (14 : Int32)) < 0 ∧ ¬ x2_4 < 0 ∧ ((p1 + (1 : Int32)) * (14 : Int32)).toNatClampNeg + x2_4.toNatClampNeg ≤ 182 ∧ (p1 * (14 : Int32)).toNatClampNeg + x2_4.toNatClampNeg ≤ 182) then bd (va_cpy v_rows v_rows ((p1 + (1 : Int32)) * (14 : Int32)).toNatClampNeg (p1 * (14 : Int32)).toNatClampNeg x2_4.toNatClampNeg) (fun v_rows_6 => bd (v_days - (1 : Int32)) (fun v_days_7 => some (v_days_7, v_rows_6))) else none))
set_option maxHeartbeats 4000000 in
set_option maxRecDepth 100000 in
theorem c_X3_remove (l : Launch) (D : va_G) (cI cZ cP : ClassId) (a_this : Nat) (a_rows : Nat) (v_teams : Int32) (v_days : Int32) (v_rows : Nat → Int32) (p1 : Int32) (nv_days : Int32) (nv_rows : Nat → Int32) (h : f_X3_remove v_days v_rows p1 = some (nv_days, nv_rows)) : rd_V l yX3_remove wsX3_remove { frames := 1, cells := 0, slots := 0, locals := 48 } [.ref a_this, .int p1] D (tyA cI cZ cP) (wd_X3 cI cZ cP a_this a_rows v_teams v_days v_rows) (wd_X3 cI cZ cP a_this a_rows v_teams nv_days nv_rows) := by
  unfold f_X3_remove at h
  refine rd_enterV (cc := cX3_remove) (maxL := 3) (by decide) rfl (Nat.le_of_ble_eq_true rfl) ?_
  intro p e s m args below meth c A Q ls hx hb hml hown hts hA hK hP hD hS hl hret
  have hl : lv_has ls 3 [(0, .ref a_this), (1, .int p1)] := hl
  have kw1 := hts (.fieldLink RX3 19 "RoundDays$Plan" "days" "I") (List.mem_of_getElem? (i := 1) rfl)
  have kw2 := hts (.fieldLink RX3 9 "RoundDays$Plan" "rows" "[I") (List.mem_of_getElem? (i := 2) rfl)
  have kw3 := hts (.methodLink RX3 22 arraycopyName) (List.mem_of_getElem? (i := 3) rfl)
  have kw4 := hts (.native arraycopyName) (List.mem_of_getElem? (i := 4) rfl)
  have kw5 := hts (.static arraycopyName) (List.mem_of_getElem? (i := 5) rfl)
  have kw6 := hts (.initialized "java/lang/System") (List.mem_of_getElem? (i := 6) rfl)
  refine lv_aload_n hx hb dX3_remove_0 rfl (lv_at hl 0 rfl) ?_
  refine lv_iload_n hx hb dX3_remove_1 rfl (lv_at hl 1 rfl) ?_
  obtain ⟨r_1, hc_2, h⟩ := bi_some h
  refine rd_callVi [.int p1] [] (wr := []) (W1 := wd_X3 cI cZ cP a_this a_rows v_teams v_days v_rows) (ci := 3) ⟨hx, hb, hml, hown, hts⟩ (c_X3_hasDay l D cI cZ cP a_this a_rows v_teams v_days v_rows p1 r_1 hc_2) (cwV 1 hts gX3_remove_X3_hasDay rfl rfl rfl (by decide +kernel) ⟨Nat.le_of_ble_eq_true rfl, Nat.le_of_ble_eq_true rfl⟩) rfl rfl hl.1 (Nat.le_of_ble_eq_true rfl) dX3_remove_2 ⟨Nat.zero_le _, Nat.zero_le _⟩ hK hP hD hS hA rfl rfl [0, 1] [] [0, 1] ⟨⟨rfl, rfl, rfl⟩, by decide⟩ (fun H locs hP hD hS => ?_)
  refine lv_if_ne (tgt := 9) hx hb dX3_remove_5 (by decide) (fun c_3 => ?_) (fun c_3 => ?_)
  · replace h := it_neg h c_3
    refine lv_aload_n hx hb dX3_remove_9 rfl (lv_at hl 0 rfl) ?_
    refine va_get (D := D) (ci := 3) (v := .int v_days) (C := RX3) (T := TX3) (N := 3) hx hb hts in_X3_remove_X3 hown hK hP 0 rfl rfl 1 (by decide) kw1 (fun _ h9 => h9) rfl dX3_remove_10 ?_
    refine lv_iconst (v := 1) hx hb dX3_remove_13 (by decide) ?_
    refine lv_isub hx hb dX3_remove_14 ?_
    refine lv_iload_n hx hb dX3_remove_15 rfl (lv_at hl 1 rfl) ?_
    refine lv_isub hx hb dX3_remove_16 ?_
    refine lv_bipush (v := 14) hx hb dX3_remove_17 (by decide) ?_
    refine lv_imul hx hb dX3_remove_19 ?_
    obtain ⟨x2_4, ex2_4, h⟩ := bd_some h
    refine rd_top ex2_4 ?_
    refine lv_istore_n (lv' := [(2, .int x2_4), (0, .ref a_this), (1, .int p1)]) hx hb dX3_remove_20 rfl hl (by decide) rfl (fun ls hl => ?_)
    refine lv_aload_n hx hb dX3_remove_21 rfl (lv_at hl 1 rfl) ?_
    refine va_get (D := D) (ci := 3) (v := .ref a_rows) (C := RX3) (T := TX3) (N := 3) hx hb hts in_X3_remove_X3 hown hK hP 0 rfl rfl 2 (by decide) kw2 (fun _ h9 => h9) rfl dX3_remove_22 ?_
    refine lv_iload_n hx hb dX3_remove_25 rfl (lv_at hl 2 rfl) ?_
    refine lv_iconst (v := 1) hx hb dX3_remove_26 (by decide) ?_
    refine lv_iadd hx hb dX3_remove_27 ?_
    refine lv_bipush (v := 14) hx hb dX3_remove_28 (by decide) ?_
    refine lv_imul hx hb dX3_remove_30 ?_
    refine lv_aload_n hx hb dX3_remove_31 rfl (lv_at hl 1 rfl) ?_
    refine va_get (D := D) (ci := 3) (v := .ref a_rows) (C := RX3) (T := TX3) (N := 3) hx hb hts in_X3_remove_X3 hown hK hP 0 rfl rfl 2 (by decide) kw2 (fun _ h9 => h9) rfl dX3_remove_32 ?_
    refine lv_iload_n hx hb dX3_remove_35 rfl (lv_at hl 2 rfl) ?_
    refine lv_bipush (v := 14) hx hb dX3_remove_36 (by decide) ?_
    refine lv_imul hx hb dX3_remove_38 ?_
    refine lv_iload_n hx hb dX3_remove_39 rfl (lv_at hl 0 rfl) ?_
    obtain ⟨hc_5, h⟩ := gd_some h
    obtain ⟨v_rows_6, ev_rows_6, h⟩ := bd_some h
    refine rd_copyi (W1 := wd_X3 cI cZ cP a_this a_rows v_teams v_days v_rows_6) hx hb (by rw [hml]; exact hl.1.symm) hown kw3 kw4 kw5 kw6 hK hP hD hS 1 1 0 rfl rfl rfl hc_5.1 hc_5.2.1 hc_5.2.2.1 hc_5.2.2.2.1 hc_5.2.2.2.2 ev_rows_6 rfl (Nat.le_of_ble_eq_true rfl) (Nat.le_of_ble_eq_true rfl) dX3_remove_40 (fun H locs hP hD hS => ?_)
    refine lv_aload_n hx hb dX3_remove_43 rfl (lv_at hl 1 rfl) ?_
    refine lv_dup hx hb dX3_remove_44 rfl ?_
    refine va_get (D := D) (ci := 3) (v := .int v_days) (C := RX3) (T := TX3) (N := 3) hx hb hts in_X3_remove_X3 hown hK hP 0 rfl rfl 1 (by decide) kw1 (fun _ h9 => h9) rfl dX3_remove_45 ?_
    refine lv_iconst (v := 1) hx hb dX3_remove_48 (by decide) ?_
    refine lv_isub hx hb dX3_remove_49 ?_
    obtain ⟨v_days_7, ev_days_7, h⟩ := bd_some h
    refine rd_top ev_days_7 ?_
    refine rd_put (W1 := wd_X3 cI cZ cP a_this a_rows v_teams v_days_7 v_rows_6) (C := RX3) (T := TX3) (N := 3) (ci := 3) hx hb hts in_X3_remove_X3 tyX3 tyX3_ok nmX3 hown hK hP hD hS 0 rfl rfl 1 (by decide) kw1 (fun _ h9 => h9) rfl rfl rfl (Nat.le_of_ble_eq_true rfl) rfl dX3_remove_50 (fun H locs hP hD hS => ?_)
    obtain ⟨rfl, rfl⟩ := inj2 h
    exact hret dX3_remove_53 hP hD hS
  · replace h := it_pos h c_3
    obtain ⟨rfl, rfl⟩ := inj2 h
    exact hret dX3_remove_8 hP hD hS
theorem in_X3_pair_X3 : ∀ w ∈ wsX30, w ∈ wsX3_pair := by decide +kernel
def f_X3_pair (v_teams : Int32) (v_days : Int32) (v_rows : Nat → Int32) (p1 : Int32) (p2 : Int32) (p3 : Int32) : Option ((Nat → Int32)) := if p1 < 0 then some v_rows else if v_days ≤ p1 then some v_rows else (f_X3_hasTwoTeams v_teams p2 p3).bind (fun r_3 => if r_3 = 0 then some v_rows else if inb ((p1 * (14 : Int32)) + p2) 182 then bd (upd v_rows ((p1 * (14 : Int32)) + p2).toNatClampNeg p3) (fun v_rows_7 => if inb ((p1 * (14 : Int32)) + p3) 182 then bd (upd v_rows_7 ((p1 * (14 : Int32)) + p3).toNatClampNeg p2) (fun v_rows_9 => some v_rows_9) else none) else none)
set_option maxHeartbeats 4000000 in
set_option maxRecDepth 100000 in
theorem c_X3_pair (l : Launch) (D : va_G) (cI cZ cP : ClassId) (a_this : Nat) (a_rows : Nat) (v_teams : Int32) (v_days : Int32) (v_rows : Nat → Int32) (p1 : Int32) (p2 : Int32) (p3 : Int32) (nv_rows : Nat → Int32) (h : f_X3_pair v_teams v_days v_rows p1 p2 p3 = some nv_rows) : rd_V l yX3_pair wsX3_pair { frames := 1, cells := 0, slots := 0, locals := 22 } [.ref a_this, .int p1, .int p2, .int p3] D (tyA cI cZ cP) (wd_X3 cI cZ cP a_this a_rows v_teams v_days v_rows) (wd_X3 cI cZ cP a_this a_rows v_teams v_days nv_rows) := by
  unfold f_X3_pair at h
  refine rd_enterV (cc := cX3_pair) (maxL := 4) (by decide) rfl (Nat.le_of_ble_eq_true rfl) ?_
  intro p e s m args below meth c A Q ls hx hb hml hown hts hA hK hP hD hS hl hret
  have hl : lv_has ls 4 [(0, .ref a_this), (1, .int p1), (2, .int p2), (3, .int p3)] := hl
  have kw1 := hts (.fieldLink RX3 19 "RoundDays$Plan" "days" "I") (List.mem_of_getElem? (i := 1) rfl)
  have kw2 := hts (.fieldLink RX3 9 "RoundDays$Plan" "rows" "[I") (List.mem_of_getElem? (i := 2) rfl)
  refine lv_iload_n hx hb dX3_pair_0 rfl (lv_at hl 1 rfl) ?_
  refine lv_if_lt (tgt := 45) hx hb dX3_pair_1 (by decide) (fun c_1 => ?_) (fun c_1 => ?_)
  · replace h := it_pos h c_1
    obtain rfl := inj1 h
    exact hret dX3_pair_45 hP hD hS
  · replace h := it_neg h c_1
    refine lv_iload_n hx hb dX3_pair_4 rfl (lv_at hl 1 rfl) ?_
    refine lv_aload_n hx hb dX3_pair_5 rfl (lv_at hl 0 rfl) ?_
    refine va_get (D := D) (ci := 3) (v := .int v_days) (C := RX3) (T := TX3) (N := 3) hx hb hts in_X3_pair_X3 hown hK hP 0 rfl rfl 1 (by decide) kw1 (fun _ h9 => h9) rfl dX3_pair_6 ?_
    refine lv_icmp_ge (tgt := 45) hx hb dX3_pair_9 (by decide) (fun c_2 => ?_) (fun c_2 => ?_)
    · replace h := it_pos h c_2
      obtain rfl := inj1 h
      exact hret dX3_pair_45 hP hD hS
    · replace h := it_neg h c_2
      refine lv_aload_n hx hb dX3_pair_12 rfl (lv_at hl 0 rfl) ?_
      refine lv_iload_n hx hb dX3_pair_13 rfl (lv_at hl 2 rfl) ?_
      refine lv_iload_n hx hb dX3_pair_14 rfl (lv_at hl 3 rfl) ?_
      obtain ⟨r_3, hc_4, h⟩ := bi_some h
      refine rd_callVi [.int p2, .int p3] [] (wr := []) (W1 := wd_X3 cI cZ cP a_this a_rows v_teams v_days v_rows) (ci := 3) ⟨hx, hb, hml, hown, hts⟩ (c_X3_hasTwoTeams l D cI cZ cP a_this a_rows v_teams v_days v_rows p2 p3 r_3 hc_4) (cwV 2 hts gX3_pair_X3_hasTwoTeams rfl rfl rfl (by decide +kernel) ⟨Nat.le_of_ble_eq_true rfl, Nat.le_of_ble_eq_true rfl⟩) rfl rfl hl.1 (Nat.le_of_ble_eq_true rfl) dX3_pair_15 ⟨Nat.zero_le _, Nat.zero_le _⟩ hK hP hD hS hA rfl rfl [0, 1] [] [0, 1] ⟨⟨rfl, rfl, rfl⟩, by decide⟩ (fun H locs hP hD hS => ?_)
      refine lv_if_eq (tgt := 45) hx hb dX3_pair_18 (by decide) (fun c_5 => ?_) (fun c_5 => ?_)
      · replace h := it_pos h c_5
        obtain rfl := inj1 h
        exact hret dX3_pair_45 hP hD hS
      · replace h := it_neg h c_5
        refine lv_aload_n hx hb dX3_pair_21 rfl (lv_at hl 0 rfl) ?_
        refine va_get (D := D) (ci := 3) (v := .ref a_rows) (C := RX3) (T := TX3) (N := 3) hx hb hts in_X3_pair_X3 hown hK hP 0 rfl rfl 2 (by decide) kw2 (fun _ h9 => h9) rfl dX3_pair_22 ?_
        refine lv_iload_n hx hb dX3_pair_25 rfl (lv_at hl 1 rfl) ?_
        refine lv_bipush (v := 14) hx hb dX3_pair_26 (by decide) ?_
        refine lv_imul hx hb dX3_pair_28 ?_
        refine lv_iload_n hx hb dX3_pair_29 rfl (lv_at hl 2 rfl) ?_
        refine lv_iadd hx hb dX3_pair_30 ?_
        refine lv_iload_n hx hb dX3_pair_31 rfl (lv_at hl 3 rfl) ?_
        obtain ⟨hi_6, h⟩ := gd_some h
        obtain ⟨v_rows_7, ev_rows_7, h⟩ := bd_some h
        refine rd_iast (W1 := wd_X3 cI cZ cP a_this a_rows v_teams v_days v_rows_7) hx hb hK hP hD hS 1 0 rfl rfl hi_6 ev_rows_7 rfl dX3_pair_32 (fun H locs hP hD hS => ?_)
        refine lv_aload_n hx hb dX3_pair_33 rfl (lv_at hl 0 rfl) ?_
        refine va_get (D := D) (ci := 3) (v := .ref a_rows) (C := RX3) (T := TX3) (N := 3) hx hb hts in_X3_pair_X3 hown hK hP 0 rfl rfl 2 (by decide) kw2 (fun _ h9 => h9) rfl dX3_pair_34 ?_
        refine lv_iload_n hx hb dX3_pair_37 rfl (lv_at hl 1 rfl) ?_
        refine lv_bipush (v := 14) hx hb dX3_pair_38 (by decide) ?_
        refine lv_imul hx hb dX3_pair_40 ?_
        refine lv_iload_n hx hb dX3_pair_41 rfl (lv_at hl 3 rfl) ?_
        refine lv_iadd hx hb dX3_pair_42 ?_
        refine lv_iload_n hx hb dX3_pair_43 rfl (lv_at hl 2 rfl) ?_
        obtain ⟨hi_8, h⟩ := gd_some h
        obtain ⟨v_rows_9, ev_rows_9, h⟩ := bd_some h
        refine rd_iast (W1 := wd_X3 cI cZ cP a_this a_rows v_teams v_days v_rows_9) hx hb hK hP hD hS 1 0 rfl rfl hi_8 ev_rows_9 rfl dX3_pair_44 (fun H locs hP hD hS => ?_)
        obtain rfl := inj1 h
        exact hret dX3_pair_45 hP hD hS
theorem in_X3_swapTeams_X3 : ∀ w ∈ wsX30, w ∈ wsX3_swapTeams := by decide +kernel
def f_X3_swapTeams_L16 (v_teams : Int32) (v_days : Int32) (p1 : Int32) (p2 : Int32) (self : Int32 × Int32 × (Nat → Int32) → Option (Int32 × (Nat → Int32))) : Int32 × Int32 × (Nat → Int32) → Option (Int32 × (Nat → Int32)) := fun st => match st with | (x3, x4, v_rows) => if v_days ≤ x4 then some (x3, v_rows) else (f_X3_partner v_teams v_days v_rows x4 p1).bind (fun r_2 => (f_X3_partner v_teams v_days v_rows x4 p2).bind (fun r_4 => if r_2 = p2 then bd (x4 + (1 : Int32)) (fun x4_7 => self (x3, x4_7, v_rows)) else (f_X3_pair v_teams v_days v_rows x4 p1 r_4).bind (fun v_rows_8 => (f_X3_pair v_teams v_days v_rows_8 x4 p2 r_2).bind (fun v_rows_10 => bd (x3 + (1 : Int32)) (fun x3_12 => bd (x4 + (1 : Int32)) (fun x4_13 => self (x3_12, x4_13, v_rows_10)))))))
def f_X3_swapTeams (v_teams : Int32) (v_days : Int32) (v_rows : Nat → Int32) (p1 : Int32) (p2 : Int32) : Option (Int32 × (Nat → Int32)) := (f_X3_hasTwoTeams v_teams p1 p2).bind (fun r_14 => if r_14 = 0 then some ((0 : Int32), v_rows) else lp (f_X3_swapTeams_L16 v_teams v_days p1 p2) 20000 ((0 : Int32), (0 : Int32), v_rows))
set_option maxHeartbeats 4000000 in
set_option maxRecDepth 100000 in
theorem c_X3_swapTeams (l : Launch) (D : va_G) (cI cZ cP : ClassId) (a_this : Nat) (a_rows : Nat) (v_teams : Int32) (v_days : Int32) (v_rows : Nat → Int32) (p1 : Int32) (p2 : Int32) (r : Int32) (nv_rows : Nat → Int32) (h : f_X3_swapTeams v_teams v_days v_rows p1 p2 = some (r, nv_rows)) : rd_I l yX3_swapTeams wsX3_swapTeams { frames := 2, cells := 0, slots := 0, locals := 45 } [.ref a_this, .int p1, .int p2] D (tyA cI cZ cP) (wd_X3 cI cZ cP a_this a_rows v_teams v_days v_rows) (wd_X3 cI cZ cP a_this a_rows v_teams v_days nv_rows) r := by
  unfold f_X3_swapTeams at h
  refine rd_enterI (cc := cX3_swapTeams) (maxL := 7) (by decide) rfl (Nat.le_of_ble_eq_true rfl) ?_
  intro p e s m args below meth c A Q ls hx hb hml hown hts hA hK hP hD hS hl hret
  have hl : lv_has ls 7 [(0, .ref a_this), (1, .int p1), (2, .int p2)] := hl
  have kw1 := hts (.fieldLink RX3 19 "RoundDays$Plan" "days" "I") (List.mem_of_getElem? (i := 1) rfl)
  have w16 : ∀ n : Nat, ∀ (x3 : Int32) (x4 : Int32) (v_rows : Nat → Int32), lp (f_X3_swapTeams_L16 v_teams v_days p1 p2) n (x3, x4, v_rows) = some (r, nv_rows) → ∀ (H : Heap) (locs : List Loc) (ls : Array Slot), va_P D vwCl (wd_X3 cI cZ cP a_this a_rows v_teams v_days v_rows) H → va_D A (wd_X3 cI cZ cP a_this a_rows v_teams v_days v_rows) → va_S A s.heap H locs → lv_has ls 7 [(0, .ref a_this), (1, .int p1), (2, .int p2), (3, .int x3), (4, .int x4)] → W p l e { frames := 2, cells := 0, slots := 0, locals := 45 } s m args below meth c H locs 0 0 Q (F0 m 16 ls []) := by
    refine fun n x3 x4 v_rows h => lp_walk (b := f_X3_swapTeams_L16 v_teams v_days p1 p2) (r := (r, nv_rows)) (P := fun st => match st with | (x3, x4, v_rows) => ∀ (H : Heap) (locs : List Loc) (ls : Array Slot), va_P D vwCl (wd_X3 cI cZ cP a_this a_rows v_teams v_days v_rows) H → va_D A (wd_X3 cI cZ cP a_this a_rows v_teams v_days v_rows) → va_S A s.heap H locs → lv_has ls 7 [(0, .ref a_this), (1, .int p1), (2, .int p2), (3, .int x3), (4, .int x4)] → W p l e { frames := 2, cells := 0, slots := 0, locals := 45 } s m args below meth c H locs 0 0 Q (F0 m 16 ls [])) (fun self hself0 st h => ?_) n (x3, x4, v_rows) h
    obtain ⟨x3, x4, v_rows⟩ := st
    have hself : ∀ (x3 : Int32) (x4 : Int32) (v_rows : Nat → Int32), self (x3, x4, v_rows) = some (r, nv_rows) → ∀ (H : Heap) (locs : List Loc) (ls : Array Slot), va_P D vwCl (wd_X3 cI cZ cP a_this a_rows v_teams v_days v_rows) H → va_D A (wd_X3 cI cZ cP a_this a_rows v_teams v_days v_rows) → va_S A s.heap H locs → lv_has ls 7 [(0, .ref a_this), (1, .int p1), (2, .int p2), (3, .int x3), (4, .int x4)] → W p l e { frames := 2, cells := 0, slots := 0, locals := 45 } s m args below meth c H locs 0 0 Q (F0 m 16 ls []) := fun x3 x4 v_rows h => hself0 (x3, x4, v_rows) h
    clear hself0
    intro H locs ls hP hD hS hl
    replace h : (if v_days ≤ x4 then some (x3, v_rows) else (f_X3_partner v_teams v_days v_rows x4 p1).bind (fun r_2 => (f_X3_partner v_teams v_days v_rows x4 p2).bind (fun r_4 => if r_2 = p2 then bd (x4 + (1 : Int32)) (fun x4_7 => self (x3, x4_7, v_rows)) else (f_X3_pair v_teams v_days v_rows x4 p1 r_4).bind (fun v_rows_8 => (f_X3_pair v_teams v_days v_rows_8 x4 p2 r_2).bind (fun v_rows_10 => bd (x3 + (1 : Int32)) (fun x3_12 => bd (x4 + (1 : Int32)) (fun x4_13 => self (x3_12, x4_13, v_rows_10)))))))) = some (r, nv_rows) := h
    refine lv_iload hx hb dX3_swapTeams_16 (lv_at hl 4 rfl) ?_
    refine lv_aload_n hx hb dX3_swapTeams_18 rfl (lv_at hl 0 rfl) ?_
    refine va_get (D := D) (ci := 3) (v := .int v_days) (C := RX3) (T := TX3) (N := 3) hx hb hts in_X3_swapTeams_X3 hown hK hP 0 rfl rfl 1 (by decide) kw1 (fun _ h9 => h9) rfl dX3_swapTeams_19 ?_
    refine lv_icmp_ge (tgt := 76) hx hb dX3_swapTeams_22 (by decide) (fun c_1 => ?_) (fun c_1 => ?_)
    · replace h := it_pos h c_1
      refine lv_iload_n hx hb dX3_swapTeams_76 rfl (lv_at hl 3 rfl) ?_
      obtain ⟨rfl, rfl⟩ := inj2 h
      exact hret dX3_swapTeams_77 hP hD hS
    · replace h := it_neg h c_1
      refine lv_aload_n hx hb dX3_swapTeams_25 rfl (lv_at hl 0 rfl) ?_
      refine lv_iload hx hb dX3_swapTeams_26 (lv_at hl 4 rfl) ?_
      refine lv_iload_n hx hb dX3_swapTeams_28 rfl (lv_at hl 1 rfl) ?_
      obtain ⟨r_2, hc_3, h⟩ := bi_some h
      refine rd_callVi [.int x4, .int p1] [] (wr := []) (W1 := wd_X3 cI cZ cP a_this a_rows v_teams v_days v_rows) (ci := 3) ⟨hx, hb, hml, hown, hts⟩ (c_X3_partner l D cI cZ cP a_this a_rows v_teams v_days v_rows x4 p1 r_2 hc_3) (cwV 2 hts gX3_swapTeams_X3_partner rfl rfl rfl (by decide +kernel) ⟨Nat.le_of_ble_eq_true rfl, Nat.le_of_ble_eq_true rfl⟩) rfl rfl hl.1 (Nat.le_of_ble_eq_true rfl) dX3_swapTeams_29 ⟨Nat.zero_le _, Nat.zero_le _⟩ hK hP hD hS hA rfl rfl [0, 1] [] [0, 1] ⟨⟨rfl, rfl, rfl⟩, by decide⟩ (fun H locs hP hD hS => ?_)
      refine lv_istore (lv' := [(5, .int r_2), (0, .ref a_this), (1, .int p1), (2, .int p2), (3, .int x3), (4, .int x4)]) hx hb dX3_swapTeams_32 hl (by decide) rfl (fun ls hl => ?_)
      refine lv_aload_n hx hb dX3_swapTeams_34 rfl (lv_at hl 1 rfl) ?_
      refine lv_iload hx hb dX3_swapTeams_35 (lv_at hl 5 rfl) ?_
      refine lv_iload_n hx hb dX3_swapTeams_37 rfl (lv_at hl 3 rfl) ?_
      obtain ⟨r_4, hc_5, h⟩ := bi_some h
      refine rd_callVi [.int x4, .int p2] [] (wr := []) (W1 := wd_X3 cI cZ cP a_this a_rows v_teams v_days v_rows) (ci := 3) ⟨hx, hb, hml, hown, hts⟩ (c_X3_partner l D cI cZ cP a_this a_rows v_teams v_days v_rows x4 p2 r_4 hc_5) (cwV 2 hts gX3_swapTeams_X3_partner rfl rfl rfl (by decide +kernel) ⟨Nat.le_of_ble_eq_true rfl, Nat.le_of_ble_eq_true rfl⟩) rfl rfl hl.1 (Nat.le_of_ble_eq_true rfl) dX3_swapTeams_38 ⟨Nat.zero_le _, Nat.zero_le _⟩ hK hP hD hS hA rfl rfl [0, 1] [] [0, 1] ⟨⟨rfl, rfl, rfl⟩, by decide⟩ (fun H locs hP hD hS => ?_)
      refine lv_istore (lv' := [(6, .int r_4), (5, .int r_2), (0, .ref a_this), (1, .int p1), (2, .int p2), (3, .int x3), (4, .int x4)]) hx hb dX3_swapTeams_41 hl (by decide) rfl (fun ls hl => ?_)
      refine lv_iload hx hb dX3_swapTeams_43 (lv_at hl 1 rfl) ?_
      refine lv_iload_n hx hb dX3_swapTeams_45 rfl (lv_at hl 4 rfl) ?_
      refine lv_icmp_eq (tgt := 70) hx hb dX3_swapTeams_46 (by decide) (fun c_6 => ?_) (fun c_6 => ?_)
      · replace h := it_pos h c_6
        obtain ⟨x4_7, ex4_7, h⟩ := bd_some h
        refine lv_iinc (v := x4_7) (lv' := [(4, .int x4_7), (6, .int r_4), (5, .int r_2), (0, .ref a_this), (1, .int p1), (2, .int p2), (3, .int x3)]) hx hb dX3_swapTeams_70 hl (k := 6) rfl (by rw [ex4_7]; rfl) (by decide) rfl (fun ls hl => ?_)
        refine lv_goto (tgt := 16) hx hb dX3_swapTeams_73 (by decide) ?_
        exact hself x3 x4_7 v_rows h _ _ _ hP hD hS (lv_sub hl [3, 4, 5, 6, 0] rfl)
      · replace h := it_neg h c_6
        refine lv_aload_n hx hb dX3_swapTeams_49 rfl (lv_at hl 2 rfl) ?_
        refine lv_iload hx hb dX3_swapTeams_50 (lv_at hl 6 rfl) ?_
        refine lv_iload_n hx hb dX3_swapTeams_52 rfl (lv_at hl 3 rfl) ?_
        refine lv_iload hx hb dX3_swapTeams_53 (lv_at hl 0 rfl) ?_
        obtain ⟨v_rows_8, hc_9, h⟩ := bi_some h
        refine rd_callVv [.int x4, .int p1, .int r_4] [] (wr := []) (W1 := wd_X3 cI cZ cP a_this a_rows v_teams v_days v_rows_8) (ci := 3) ⟨hx, hb, hml, hown, hts⟩ (c_X3_pair l D cI cZ cP a_this a_rows v_teams v_days v_rows x4 p1 r_4 v_rows_8 hc_9) (cwV 3 hts gX3_swapTeams_X3_pair rfl rfl rfl (by decide +kernel) ⟨Nat.le_of_ble_eq_true rfl, Nat.le_of_ble_eq_true rfl⟩) rfl rfl hl.1 (Nat.le_of_ble_eq_true rfl) dX3_swapTeams_55 ⟨Nat.zero_le _, Nat.zero_le _⟩ hK hP hD hS hA rfl rfl [0, 1] [] [0, 1] ⟨⟨rfl, rfl, rfl⟩, by decide⟩ (fun H locs hP hD hS => ?_)
        refine lv_aload_n hx hb dX3_swapTeams_58 rfl (lv_at hl 2 rfl) ?_
        refine lv_iload hx hb dX3_swapTeams_59 (lv_at hl 6 rfl) ?_
        refine lv_iload_n hx hb dX3_swapTeams_61 rfl (lv_at hl 4 rfl) ?_
        refine lv_iload hx hb dX3_swapTeams_62 (lv_at hl 1 rfl) ?_
        obtain ⟨v_rows_10, hc_11, h⟩ := bi_some h
        refine rd_callVv [.int x4, .int p2, .int r_2] [] (wr := []) (W1 := wd_X3 cI cZ cP a_this a_rows v_teams v_days v_rows_10) (ci := 3) ⟨hx, hb, hml, hown, hts⟩ (c_X3_pair l D cI cZ cP a_this a_rows v_teams v_days v_rows_8 x4 p2 r_2 v_rows_10 hc_11) (cwV 3 hts gX3_swapTeams_X3_pair rfl rfl rfl (by decide +kernel) ⟨Nat.le_of_ble_eq_true rfl, Nat.le_of_ble_eq_true rfl⟩) rfl rfl hl.1 (Nat.le_of_ble_eq_true rfl) dX3_swapTeams_64 ⟨Nat.zero_le _, Nat.zero_le _⟩ hK hP hD hS hA rfl rfl [0, 1] [] [0, 1] ⟨⟨rfl, rfl, rfl⟩, by decide⟩ (fun H locs hP hD hS => ?_)
        obtain ⟨x3_12, ex3_12, h⟩ := bd_some h
        refine lv_iinc (v := x3_12) (lv' := [(3, .int x3_12), (6, .int r_4), (5, .int r_2), (0, .ref a_this), (1, .int p1), (2, .int p2), (4, .int x4)]) hx hb dX3_swapTeams_67 hl (k := 5) rfl (by rw [ex3_12]; rfl) (by decide) rfl (fun ls hl => ?_)
        obtain ⟨x4_13, ex4_13, h⟩ := bd_some h
        refine lv_iinc (v := x4_13) (lv' := [(4, .int x4_13), (3, .int x3_12), (6, .int r_4), (5, .int r_2), (0, .ref a_this), (1, .int p1), (2, .int p2)]) hx hb dX3_swapTeams_70 hl (k := 6) rfl (by rw [ex4_13]; rfl) (by decide) rfl (fun ls hl => ?_)
        refine lv_goto (tgt := 16) hx hb dX3_swapTeams_73 (by decide) ?_
        exact hself x3_12 x4_13 v_rows_10 h _ _ _ hP hD hS (lv_sub hl [4, 5, 6, 1, 0] rfl)
  refine lv_aload_n hx hb dX3_swapTeams_0 rfl (lv_at hl 0 rfl) ?_
  refine lv_iload_n hx hb dX3_swapTeams_1 rfl (lv_at hl 1 rfl) ?_
  refine lv_iload_n hx hb dX3_swapTeams_2 rfl (lv_at hl 2 rfl) ?_
  obtain ⟨r_14, hc_15, h⟩ := bi_some h
  refine rd_callVi [.int p1, .int p2] [] (wr := []) (W1 := wd_X3 cI cZ cP a_this a_rows v_teams v_days v_rows) (ci := 3) ⟨hx, hb, hml, hown, hts⟩ (c_X3_hasTwoTeams l D cI cZ cP a_this a_rows v_teams v_days v_rows p1 p2 r_14 hc_15) (cwV 2 hts gX3_swapTeams_X3_hasTwoTeams rfl rfl rfl (by decide +kernel) ⟨Nat.le_of_ble_eq_true rfl, Nat.le_of_ble_eq_true rfl⟩) rfl rfl hl.1 (Nat.le_of_ble_eq_true rfl) dX3_swapTeams_3 ⟨Nat.zero_le _, Nat.zero_le _⟩ hK hP hD hS hA rfl rfl [0, 1] [] [0, 1] ⟨⟨rfl, rfl, rfl⟩, by decide⟩ (fun H locs hP hD hS => ?_)
  refine lv_if_ne (tgt := 11) hx hb dX3_swapTeams_6 (by decide) (fun c_16 => ?_) (fun c_16 => ?_)
  · replace h := it_neg h c_16
    refine lv_iconst (v := 0) hx hb dX3_swapTeams_11 (by decide) ?_
    refine lv_istore_n (lv' := [(3, .int (0 : Int32)), (0, .ref a_this), (1, .int p1), (2, .int p2)]) hx hb dX3_swapTeams_12 rfl hl (by decide) rfl (fun ls hl => ?_)
    refine lv_iconst (v := 0) hx hb dX3_swapTeams_13 (by decide) ?_
    refine lv_istore (lv' := [(4, .int (0 : Int32)), (3, .int (0 : Int32)), (0, .ref a_this), (1, .int p1), (2, .int p2)]) hx hb dX3_swapTeams_14 hl (by decide) rfl (fun ls hl => ?_)
    exact w16 20000 (0 : Int32) (0 : Int32) v_rows h _ _ _ hP hD hS (lv_sub hl [2, 3, 4, 1, 0] rfl)
  · replace h := it_pos h c_16
    refine lv_iconst (v := 0) hx hb dX3_swapTeams_9 (by decide) ?_
    obtain ⟨rfl, rfl⟩ := inj2 h
    exact hret dX3_swapTeams_10 hP hD hS
