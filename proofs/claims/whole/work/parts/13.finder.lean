def f_J6_bitCount_0f7a4 (p0 : Int32) : Option (Int32) := bd (p0 - (((p0.toUInt32 >>> ((1 : Int32).toUInt32 &&& Int32.toUInt32 31)).toInt32) &&& (1431655765 : Int32))) (fun x0_1 => bd ((x0_1 &&& (858993459 : Int32)) + (((x0_1.toUInt32 >>> ((2 : Int32).toUInt32 &&& Int32.toUInt32 31)).toInt32) &&& (858993459 : Int32))) (fun x0_2 => bd ((x0_2 + ((x0_2.toUInt32 >>> ((4 : Int32).toUInt32 &&& Int32.toUInt32 31)).toInt32)) &&& (252645135 : Int32)) (fun x0_3 => bd (x0_3 + ((x0_3.toUInt32 >>> ((8 : Int32).toUInt32 &&& Int32.toUInt32 31)).toInt32)) (fun x0_4 => bd (x0_4 + ((x0_4.toUInt32 >>> ((16 : Int32).toUInt32 &&& Int32.toUInt32 31)).toInt32)) (fun x0_5 => some (x0_5 &&& (63 : Int32)))))))
set_option maxHeartbeats 4000000 in
set_option maxRecDepth 100000 in
theorem c_J6_bitCount_0f7a4 (l : Launch) (D : va_G) (cI cZ cP : ClassId) (p0 : Int32) (r : Int32) (h : f_J6_bitCount_0f7a4 p0 = some r) : rd_I l yJ6_bitCount_0f7a4 wsJ6_bitCount_0f7a4 { frames := 0, cells := 0, slots := 0, locals := 0 } [.int p0] D (tyA cI cZ cP) ([]) ([]) r := by
  unfold f_J6_bitCount_0f7a4 at h
  refine rd_enterI (cc := cJ6_bitCount_0f7a4) (maxL := 1) (by decide) rfl (Nat.le_of_ble_eq_true rfl) ?_
  intro p e s m args below meth c A Q ls hx hb hml hown hts hA hK hP hD hS hl hret
  have hl : lv_has ls 1 [(0, .int p0)] := hl
  have kw1 := hts (.constant RJ6 265 (1431655765)) (List.mem_of_getElem? (i := 1) rfl)
  have kw2 := hts (.constant RJ6 266 (858993459)) (List.mem_of_getElem? (i := 2) rfl)
  have kw3 := hts (.constant RJ6 267 (252645135)) (List.mem_of_getElem? (i := 3) rfl)
  refine lv_iload_n hx hb dJ6_bitCount_0f7a4_0 rfl (lv_at hl 0 rfl) ?_
  refine lv_iload_n hx hb dJ6_bitCount_0f7a4_1 rfl (lv_at hl 0 rfl) ?_
  refine lv_iconst (v := 1) hx hb dJ6_bitCount_0f7a4_2 (by decide) ?_
  refine lv_iushr (v := (p0.toUInt32 >>> ((1 : Int32).toUInt32 &&& Int32.toUInt32 31)).toInt32) hx hb dJ6_bitCount_0f7a4_3 rfl ?_
  refine lv_ldcw (v := 1431655765) hx hb hown kw1 dJ6_bitCount_0f7a4_4 ?_
  refine lv_iand hx hb dJ6_bitCount_0f7a4_7 ?_
  refine lv_isub hx hb dJ6_bitCount_0f7a4_8 ?_
  obtain ⟨x0_1, ex0_1, h⟩ := bd_some h
  refine rd_top ex0_1 ?_
  refine lv_istore_n (lv' := [(0, .int x0_1)]) hx hb dJ6_bitCount_0f7a4_9 rfl hl (by decide) rfl (fun ls hl => ?_)
  refine lv_iload_n hx hb dJ6_bitCount_0f7a4_10 rfl (lv_at hl 0 rfl) ?_
  refine lv_ldcw (v := 858993459) hx hb hown kw2 dJ6_bitCount_0f7a4_11 ?_
  refine lv_iand hx hb dJ6_bitCount_0f7a4_14 ?_
  refine lv_iload_n hx hb dJ6_bitCount_0f7a4_15 rfl (lv_at hl 0 rfl) ?_
  refine lv_iconst (v := 2) hx hb dJ6_bitCount_0f7a4_16 (by decide) ?_
  refine lv_iushr (v := (x0_1.toUInt32 >>> ((2 : Int32).toUInt32 &&& Int32.toUInt32 31)).toInt32) hx hb dJ6_bitCount_0f7a4_17 rfl ?_
  refine lv_ldcw (v := 858993459) hx hb hown kw2 dJ6_bitCount_0f7a4_18 ?_
  refine lv_iand hx hb dJ6_bitCount_0f7a4_21 ?_
  refine lv_iadd hx hb dJ6_bitCount_0f7a4_22 ?_
  obtain ⟨x0_2, ex0_2, h⟩ := bd_some h
  refine rd_top ex0_2 ?_
  refine lv_istore_n (lv' := [(0, .int x0_2)]) hx hb dJ6_bitCount_0f7a4_23 rfl hl (by decide) rfl (fun ls hl => ?_)
  refine lv_iload_n hx hb dJ6_bitCount_0f7a4_24 rfl (lv_at hl 0 rfl) ?_
  refine lv_iload_n hx hb dJ6_bitCount_0f7a4_25 rfl (lv_at hl 0 rfl) ?_
  refine lv_iconst (v := 4) hx hb dJ6_bitCount_0f7a4_26 (by decide) ?_
  refine lv_iushr (v := (x0_2.toUInt32 >>> ((4 : Int32).toUInt32 &&& Int32.toUInt32 31)).toInt32) hx hb dJ6_bitCount_0f7a4_27 rfl ?_
  refine lv_iadd hx hb dJ6_bitCount_0f7a4_28 ?_
  refine lv_ldcw (v := 252645135) hx hb hown kw3 dJ6_bitCount_0f7a4_29 ?_
  refine lv_iand hx hb dJ6_bitCount_0f7a4_32 ?_
  obtain ⟨x0_3, ex0_3, h⟩ := bd_some h
  refine rd_top ex0_3 ?_
  refine lv_istore_n (lv' := [(0, .int x0_3)]) hx hb dJ6_bitCount_0f7a4_33 rfl hl (by decide) rfl (fun ls hl => ?_)
  refine lv_iload_n hx hb dJ6_bitCount_0f7a4_34 rfl (lv_at hl 0 rfl) ?_
  refine lv_iload_n hx hb dJ6_bitCount_0f7a4_35 rfl (lv_at hl 0 rfl) ?_
  refine lv_bipush (v := 8) hx hb dJ6_bitCount_0f7a4_36 (by decide) ?_
  refine lv_iushr (v := (x0_3.toUInt32 >>> ((8 : Int32).toUInt32 &&& Int32.toUInt32 31)).toInt32) hx hb dJ6_bitCount_0f7a4_38 rfl ?_
  refine lv_iadd hx hb dJ6_bitCount_0f7a4_39 ?_
  obtain ⟨x0_4, ex0_4, h⟩ := bd_some h
  refine rd_top ex0_4 ?_
  refine lv_istore_n (lv' := [(0, .int x0_4)]) hx hb dJ6_bitCount_0f7a4_40 rfl hl (by decide) rfl (fun ls hl => ?_)
  refine lv_iload_n hx hb dJ6_bitCount_0f7a4_41 rfl (lv_at hl 0 rfl) ?_
  refine lv_iload_n hx hb dJ6_bitCount_0f7a4_42 rfl (lv_at hl 0 rfl) ?_
  refine lv_bipush (v := 16) hx hb dJ6_bitCount_0f7a4_43 (by decide) ?_
  refine lv_iushr (v := (x0_4.toUInt32 >>> ((16 : Int32).toUInt32 &&& Int32.toUInt32 31)).toInt32) hx hb dJ6_bitCount_0f7a4_45 rfl ?_
  refine lv_iadd hx hb dJ6_bitCount_0f7a4_46 ?_
  obtain ⟨x0_5, ex0_5, h⟩ := bd_some h
  refine rd_top ex0_5 ?_
  refine lv_istore_n (lv' := [(0, .int x0_5)]) hx hb dJ6_bitCount_0f7a4_47 rfl hl (by decide) rfl (fun ls hl => ?_)
  refine lv_iload_n hx hb dJ6_bitCount_0f7a4_48 rfl (lv_at hl 0 rfl) ?_
  refine lv_bipush (v := 63) hx hb dJ6_bitCount_0f7a4_49 (by decide) ?_
  refine lv_iand hx hb dJ6_bitCount_0f7a4_51 ?_
  obtain rfl := inj1 h
  exact hret dJ6_bitCount_0f7a4_52 hP hD hS
theorem in_X2_look_X2 : ∀ w ∈ wsX20, w ∈ wsX2_look := by decide +kernel
theorem in_X2_look_X3 : ∀ w ∈ wsX30, w ∈ wsX2_look := by decide +kernel
def f_X2_look_L50 (k37 : Int32 × (Nat → Int32) × (Nat → Int32) → Option (Int32 × Int32 × Int32 × (Nat → Int32) × (Nat → Int32))) (v_p1_teams : Int32) (v_p1_days : Int32) (v_p1_rows : Nat → Int32) (x2 : Int32) (v_all : Int32) (v_days : Int32) (v_search : Int32) (v_found : Nat → Int32) (v_free : Nat → Int32) (self : Int32 × Int32 → Option (Int32 × Int32 × Int32 × (Nat → Int32) × (Nat → Int32))) : Int32 × Int32 → Option (Int32 × Int32 × Int32 × (Nat → Int32) × (Nat → Int32)) := fun st => match st with | (x3, x4) => if v_days ≤ x4 then if inb x2 14 then bd (upd v_free x2.toNatClampNeg (v_all &&& (x3 ^^^ (-1 : Int32)))) (fun v_free_3 => if inb x2 14 then bd (upd v_found x2.toNatClampNeg (0 : Int32)) (fun v_found_5 => bd (x2 + (1 : Int32)) (fun x2_6 => k37 (x2_6, v_found_5, v_free_3))) else none) else none else (f_X3_partner v_p1_teams v_p1_days v_p1_rows x4 x2).bind (fun r_7 => bd (x3 ||| ((1 : Int32) <<< (r_7 &&& (31 : Int32)))) (fun x3_9 => bd (x4 + (1 : Int32)) (fun x4_10 => self (x3_9, x4_10))))
def f_X2_look_L37 (v_p1_teams : Int32) (v_p1_days : Int32) (v_p1_rows : Nat → Int32) (v_all : Int32) (v_days : Int32) (v_search : Int32) (self : Int32 × (Nat → Int32) × (Nat → Int32) → Option (Int32 × Int32 × Int32 × (Nat → Int32) × (Nat → Int32))) : Int32 × (Nat → Int32) × (Nat → Int32) → Option (Int32 × Int32 × Int32 × (Nat → Int32) × (Nat → Int32)) := fun st => match st with | (x2, v_found, v_free) => if (14 : Int32) ≤ x2 then some (v_all, v_days, v_search, v_found, v_free) else bd ((1 : Int32) <<< (x2 &&& (31 : Int32))) (fun x3_12 => lp (f_X2_look_L50 self v_p1_teams v_p1_days v_p1_rows x2 v_all v_days v_search v_found v_free) 20000 (x3_12, (0 : Int32)))
def f_X2_look (v_all : Int32) (v_days : Int32) (v_search : Int32) (v_found : Nat → Int32) (v_free : Nat → Int32) (v_p1_teams : Int32) (v_p1_days : Int32) (v_p1_rows : Nat → Int32) : Option (Int32 × Int32 × Int32 × (Nat → Int32) × (Nat → Int32)) := bd (((1 : Int32) <<< (v_p1_teams &&& (31 : Int32))) - (1 : Int32)) (fun v_all_13 => bd (if (13 : Int32) < v_p1_days then (13 : Int32) else v_p1_days) (fun v_days_14 => bd (v_search + (1 : Int32)) (fun v_search_15 => lp (f_X2_look_L37 v_p1_teams v_p1_days v_p1_rows v_all_13 v_days_14 v_search_15) 20000 ((0 : Int32), v_found, v_free))))
set_option maxHeartbeats 4000000 in
set_option maxRecDepth 100000 in
theorem c_X2_look (l : Launch) (D : va_G) (cI cZ cP : ClassId) (a_this : Nat) (a_found : Nat) (a_free : Nat) (a_ends : Nat) (a_stamps : Nat) (a_ways : Nat) (a_p1 : Nat) (a_p1_rows : Nat) (v_all : Int32) (v_days : Int32) (v_search : Int32) (v_found : Nat → Int32) (v_free : Nat → Int32) (v_ends : Nat → Int32) (v_stamps : Nat → Int32) (v_ways : Nat → Int32) (v_p1_teams : Int32) (v_p1_days : Int32) (v_p1_rows : Nat → Int32) (nv_all : Int32) (nv_days : Int32) (nv_search : Int32) (nv_found : Nat → Int32) (nv_free : Nat → Int32) (h : f_X2_look v_all v_days v_search v_found v_free v_p1_teams v_p1_days v_p1_rows = some (nv_all, nv_days, nv_search, nv_found, nv_free)) : rd_V l yX2_look wsX2_look { frames := 1, cells := 0, slots := 0, locals := 22 } [.ref a_this, .ref a_p1] D (tyA cI cZ cP) ((wd_X2 cI cZ cP a_this a_found a_free a_ends a_stamps a_ways v_all v_days v_search v_found v_free v_ends v_stamps v_ways) ++ (wd_X3 cI cZ cP a_p1 a_p1_rows v_p1_teams v_p1_days v_p1_rows)) ((wd_X2 cI cZ cP a_this a_found a_free a_ends a_stamps a_ways nv_all nv_days nv_search nv_found nv_free v_ends v_stamps v_ways) ++ (wd_X3 cI cZ cP a_p1 a_p1_rows v_p1_teams v_p1_days v_p1_rows)) := by
  unfold f_X2_look at h
  refine rd_enterV (cc := cX2_look) (maxL := 5) (by decide) rfl (Nat.le_of_ble_eq_true rfl) ?_
  intro p e s m args below meth c A Q ls hx hb hml hown hts hA hK hP hD hS hl hret
  have hl : lv_has ls 5 [(0, .ref a_this), (1, .ref a_p1)] := hl
  have kw1 := hts (.fieldLink RX2 27 "RoundDays$Plan" "teams" "I") (List.mem_of_getElem? (i := 1) rfl)
  have kw2 := hts (.fieldLink RX2 37 "RoundDays$Finder" "all" "I") (List.mem_of_getElem? (i := 2) rfl)
  have kw3 := hts (.fieldLink RX2 65 "RoundDays$Plan" "days" "I") (List.mem_of_getElem? (i := 3) rfl)
  have kw4 := hts (.methodLink RX2 68 Lib.Math.min.name) (List.mem_of_getElem? (i := 4) rfl)
  have kw5 := hts (.static Lib.Math.min.name) (List.mem_of_getElem? (i := 5) rfl)
  have kw6 := hts (.initialized "java/lang/Math") (List.mem_of_getElem? (i := 6) rfl)
  have kw7 := hts (.code Lib.Math.min.name Lib.Math.min.code 2 (some .int)) (List.mem_of_getElem? (i := 7) rfl)
  have kw8 := hts (.fieldLink RX2 73 "RoundDays$Finder" "days" "I") (List.mem_of_getElem? (i := 8) rfl)
  have kw9 := hts (.fieldLink RX2 62 "RoundDays$Finder" "search" "I") (List.mem_of_getElem? (i := 9) rfl)
  have kw10 := hts (.fieldLink RX2 15 "RoundDays$Finder" "free" "[I") (List.mem_of_getElem? (i := 10) rfl)
  have kw11 := hts (.fieldLink RX2 9 "RoundDays$Finder" "found" "[I") (List.mem_of_getElem? (i := 11) rfl)
  have w50 : ∀ x2 : Int32, ∀ v_all : Int32, ∀ v_days : Int32, ∀ v_search : Int32, ∀ v_found : Nat → Int32, ∀ v_free : Nat → Int32, ∀ k37 : Int32 × (Nat → Int32) × (Nat → Int32) → Option (Int32 × Int32 × Int32 × (Nat → Int32) × (Nat → Int32)), (∀ (x2 : Int32) (v_found : Nat → Int32) (v_free : Nat → Int32), k37 (x2, v_found, v_free) = some (nv_all, nv_days, nv_search, nv_found, nv_free) → ∀ (H : Heap) (locs : List Loc) (ls : Array Slot), va_P D vwCl ((wd_X2 cI cZ cP a_this a_found a_free a_ends a_stamps a_ways v_all v_days v_search v_found v_free v_ends v_stamps v_ways) ++ (wd_X3 cI cZ cP a_p1 a_p1_rows v_p1_teams v_p1_days v_p1_rows)) H → va_D A ((wd_X2 cI cZ cP a_this a_found a_free a_ends a_stamps a_ways v_all v_days v_search v_found v_free v_ends v_stamps v_ways) ++ (wd_X3 cI cZ cP a_p1 a_p1_rows v_p1_teams v_p1_days v_p1_rows)) → va_S A s.heap H locs → lv_has ls 5 [(0, .ref a_this), (1, .ref a_p1), (2, .int x2)] → W p l e { frames := 1, cells := 0, slots := 0, locals := 22 } s m args below meth c H locs 0 0 Q (F0 m 37 ls [])) → ∀ n : Nat, ∀ (x3 : Int32) (x4 : Int32), lp (f_X2_look_L50 k37 v_p1_teams v_p1_days v_p1_rows x2 v_all v_days v_search v_found v_free) n (x3, x4) = some (nv_all, nv_days, nv_search, nv_found, nv_free) → ∀ (H : Heap) (locs : List Loc) (ls : Array Slot), va_P D vwCl ((wd_X2 cI cZ cP a_this a_found a_free a_ends a_stamps a_ways v_all v_days v_search v_found v_free v_ends v_stamps v_ways) ++ (wd_X3 cI cZ cP a_p1 a_p1_rows v_p1_teams v_p1_days v_p1_rows)) H → va_D A ((wd_X2 cI cZ cP a_this a_found a_free a_ends a_stamps a_ways v_all v_days v_search v_found v_free v_ends v_stamps v_ways) ++ (wd_X3 cI cZ cP a_p1 a_p1_rows v_p1_teams v_p1_days v_p1_rows)) → va_S A s.heap H locs → lv_has ls 5 [(0, .ref a_this), (1, .ref a_p1), (2, .int x2), (3, .int x3), (4, .int x4)] → W p l e { frames := 1, cells := 0, slots := 0, locals := 22 } s m args below meth c H locs 0 0 Q (F0 m 50 ls []) := by
    intro x2 v_all v_days v_search v_found v_free k37 hk37
    refine fun n x3 x4 h => lp_walk (b := f_X2_look_L50 k37 v_p1_teams v_p1_days v_p1_rows x2 v_all v_days v_search v_found v_free) (r := (nv_all, nv_days, nv_search, nv_found, nv_free)) (P := fun st => match st with | (x3, x4) => ∀ (H : Heap) (locs : List Loc) (ls : Array Slot), va_P D vwCl ((wd_X2 cI cZ cP a_this a_found a_free a_ends a_stamps a_ways v_all v_days v_search v_found v_free v_ends v_stamps v_ways) ++ (wd_X3 cI cZ cP a_p1 a_p1_rows v_p1_teams v_p1_days v_p1_rows)) H → va_D A ((wd_X2 cI cZ cP a_this a_found a_free a_ends a_stamps a_ways v_all v_days v_search v_found v_free v_ends v_stamps v_ways) ++ (wd_X3 cI cZ cP a_p1 a_p1_rows v_p1_teams v_p1_days v_p1_rows)) → va_S A s.heap H locs → lv_has ls 5 [(0, .ref a_this), (1, .ref a_p1), (2, .int x2), (3, .int x3), (4, .int x4)] → W p l e { frames := 1, cells := 0, slots := 0, locals := 22 } s m args below meth c H locs 0 0 Q (F0 m 50 ls [])) (fun self hself0 st h => ?_) n (x3, x4) h
    obtain ⟨x3, x4⟩ := st
    have hself : ∀ (x3 : Int32) (x4 : Int32), self (x3, x4) = some (nv_all, nv_days, nv_search, nv_found, nv_free) → ∀ (H : Heap) (locs : List Loc) (ls : Array Slot), va_P D vwCl ((wd_X2 cI cZ cP a_this a_found a_free a_ends a_stamps a_ways v_all v_days v_search v_found v_free v_ends v_stamps v_ways) ++ (wd_X3 cI cZ cP a_p1 a_p1_rows v_p1_teams v_p1_days v_p1_rows)) H → va_D A ((wd_X2 cI cZ cP a_this a_found a_free a_ends a_stamps a_ways v_all v_days v_search v_found v_free v_ends v_stamps v_ways) ++ (wd_X3 cI cZ cP a_p1 a_p1_rows v_p1_teams v_p1_days v_p1_rows)) → va_S A s.heap H locs → lv_has ls 5 [(0, .ref a_this), (1, .ref a_p1), (2, .int x2), (3, .int x3), (4, .int x4)] → W p l e { frames := 1, cells := 0, slots := 0, locals := 22 } s m args below meth c H locs 0 0 Q (F0 m 50 ls []) := fun x3 x4 h => hself0 (x3, x4) h
    clear hself0
    intro H locs ls hP hD hS hl
    replace h : (if v_days ≤ x4 then if inb x2 14 then bd (upd v_free x2.toNatClampNeg (v_all &&& (x3 ^^^ (-1 : Int32)))) (fun v_free_3 => if inb x2 14 then bd (upd v_found x2.toNatClampNeg (0 : Int32)) (fun v_found_5 => bd (x2 + (1 : Int32)) (fun x2_6 => k37 (x2_6, v_found_5, v_free_3))) else none) else none else (f_X3_partner v_p1_teams v_p1_days v_p1_rows x4 x2).bind (fun r_7 => bd (x3 ||| ((1 : Int32) <<< (r_7 &&& (31 : Int32)))) (fun x3_9 => bd (x4 + (1 : Int32)) (fun x4_10 => self (x3_9, x4_10))))) = some (nv_all, nv_days, nv_search, nv_found, nv_free) := h
    refine lv_iload hx hb dX2_look_50 (lv_at hl 4 rfl) ?_
    refine lv_aload_n hx hb dX2_look_52 rfl (lv_at hl 0 rfl) ?_
    refine va_get (D := D) (ci := 2) (v := .int v_days) (C := RX2) (T := TX2) (N := 8) hx hb hts in_X2_look_X2 hown hK hP 0 rfl rfl 3 (by decide) kw8 (fun _ h9 => h9) rfl dX2_look_53 ?_
    refine lv_icmp_ge (tgt := 77) hx hb dX2_look_56 (by decide) (fun c_1 => ?_) (fun c_1 => ?_)
    · replace h := it_pos h c_1
      refine lv_aload_n hx hb dX2_look_77 rfl (lv_at hl 0 rfl) ?_
      refine va_get (D := D) (ci := 2) (v := .ref a_free) (C := RX2) (T := TX2) (N := 8) hx hb hts in_X2_look_X2 hown hK hP 0 rfl rfl 1 (by decide) kw10 (fun _ h9 => h9) rfl dX2_look_78 ?_
      refine lv_iload_n hx hb dX2_look_81 rfl (lv_at hl 2 rfl) ?_
      refine lv_aload_n hx hb dX2_look_82 rfl (lv_at hl 0 rfl) ?_
      refine va_get (D := D) (ci := 2) (v := .int v_all) (C := RX2) (T := TX2) (N := 8) hx hb hts in_X2_look_X2 hown hK hP 0 rfl rfl 2 (by decide) kw2 (fun _ h9 => h9) rfl dX2_look_83 ?_
      refine lv_iload_n hx hb dX2_look_86 rfl (lv_at hl 3 rfl) ?_
      refine lv_iconst (v := -1) hx hb dX2_look_87 (by decide) ?_
      refine lv_ixor hx hb dX2_look_88 ?_
      refine lv_iand hx hb dX2_look_89 ?_
      obtain ⟨hi_2, h⟩ := gd_some h
      obtain ⟨v_free_3, ev_free_3, h⟩ := bd_some h
      refine rd_iast (W1 := (wd_X2 cI cZ cP a_this a_found a_free a_ends a_stamps a_ways v_all v_days v_search v_found v_free_3 v_ends v_stamps v_ways) ++ (wd_X3 cI cZ cP a_p1 a_p1_rows v_p1_teams v_p1_days v_p1_rows)) hx hb hK hP hD hS 2 0 rfl rfl hi_2 ev_free_3 rfl dX2_look_90 (fun H locs hP hD hS => ?_)
      refine lv_aload_n hx hb dX2_look_91 rfl (lv_at hl 0 rfl) ?_
      refine va_get (D := D) (ci := 2) (v := .ref a_found) (C := RX2) (T := TX2) (N := 8) hx hb hts in_X2_look_X2 hown hK hP 0 rfl rfl 0 (by decide) kw11 (fun _ h9 => h9) rfl dX2_look_92 ?_
      refine lv_iload_n hx hb dX2_look_95 rfl (lv_at hl 2 rfl) ?_
      refine lv_iconst (v := 0) hx hb dX2_look_96 (by decide) ?_
      obtain ⟨hi_4, h⟩ := gd_some h
      obtain ⟨v_found_5, ev_found_5, h⟩ := bd_some h
      refine rd_iast (W1 := (wd_X2 cI cZ cP a_this a_found a_free a_ends a_stamps a_ways v_all v_days v_search v_found_5 v_free_3 v_ends v_stamps v_ways) ++ (wd_X3 cI cZ cP a_p1 a_p1_rows v_p1_teams v_p1_days v_p1_rows)) hx hb hK hP hD hS 1 0 rfl rfl hi_4 ev_found_5 rfl dX2_look_97 (fun H locs hP hD hS => ?_)
      obtain ⟨x2_6, ex2_6, h⟩ := bd_some h
      refine lv_iinc (v := x2_6) (lv' := [(2, .int x2_6), (0, .ref a_this), (1, .ref a_p1), (3, .int x3), (4, .int x4)]) hx hb dX2_look_98 hl (k := 2) rfl (by rw [ex2_6]; rfl) (by decide) rfl (fun ls hl => ?_)
      refine lv_goto (tgt := 37) hx hb dX2_look_101 (by decide) ?_
      exact hk37 x2_6 v_found_5 v_free_3 h _ _ _ hP hD hS (lv_sub hl [1, 2, 0] rfl)
    · replace h := it_neg h c_1
      refine lv_iload_n hx hb dX2_look_59 rfl (lv_at hl 3 rfl) ?_
      refine lv_iconst (v := 1) hx hb dX2_look_60 (by decide) ?_
      refine lv_aload_n hx hb dX2_look_61 rfl (lv_at hl 1 rfl) ?_
      refine lv_iload hx hb dX2_look_62 (lv_at hl 4 rfl) ?_
      refine lv_iload_n hx hb dX2_look_64 rfl (lv_at hl 2 rfl) ?_
      obtain ⟨r_7, hc_8, h⟩ := bi_some h
      refine rd_callVi [.int x4, .int x2] [.int (1 : Int32), .int x3] (wr := [(a_this, .inr (2, [.ref a_found, .ref a_free, .int v_all, .int v_days, .ref a_ends, .ref a_stamps, .ref a_ways, .int v_search])), (a_found, .inl (cI, 14, .inl v_found)), (a_free, .inl (cI, 14, .inl v_free)), (a_ends, .inl (cI, 182, .inl v_ends)), (a_stamps, .inl (cI, 4096, .inl v_stamps)), (a_ways, .inl (cI, 4096, .inl v_ways))]) (W1 := (wd_X2 cI cZ cP a_this a_found a_free a_ends a_stamps a_ways v_all v_days v_search v_found v_free v_ends v_stamps v_ways) ++ (wd_X3 cI cZ cP a_p1 a_p1_rows v_p1_teams v_p1_days v_p1_rows)) (ci := 3) ⟨hx, hb, hml, hown, hts⟩ (c_X3_partner l D cI cZ cP a_p1 a_p1_rows v_p1_teams v_p1_days v_p1_rows x4 x2 r_7 hc_8) (cwV 2 hts gX2_look_X3_partner rfl rfl rfl (by decide +kernel) ⟨Nat.le_of_ble_eq_true rfl, Nat.le_of_ble_eq_true rfl⟩) rfl rfl hl.1 (Nat.le_of_ble_eq_true rfl) dX2_look_65 ⟨Nat.zero_le _, Nat.zero_le _⟩ hK hP hD hS hA rfl rfl [6, 7] [0, 1, 2, 3, 4, 5] [0, 1, 2, 3, 4, 5, 6, 7] ⟨⟨rfl, rfl, rfl⟩, by decide⟩ (fun H locs hP hD hS => ?_)
      refine lv_ishl hx hb dX2_look_68 ?_
      refine lv_ior hx hb dX2_look_69 ?_
      obtain ⟨x3_9, ex3_9, h⟩ := bd_some h
      refine rd_top ex3_9 ?_
      refine lv_istore_n (lv' := [(3, .int x3_9), (0, .ref a_this), (1, .ref a_p1), (2, .int x2), (4, .int x4)]) hx hb dX2_look_70 rfl hl (by decide) rfl (fun ls hl => ?_)
      obtain ⟨x4_10, ex4_10, h⟩ := bd_some h
      refine lv_iinc (v := x4_10) (lv' := [(4, .int x4_10), (3, .int x3_9), (0, .ref a_this), (1, .ref a_p1), (2, .int x2)]) hx hb dX2_look_71 hl (k := 4) rfl (by rw [ex4_10]; rfl) (by decide) rfl (fun ls hl => ?_)
      refine lv_goto (tgt := 50) hx hb dX2_look_74 (by decide) ?_
      exact hself x3_9 x4_10 h _ _ _ hP hD hS (lv_sub hl [2, 3, 4, 1, 0] rfl)
  have w37 : ∀ v_all : Int32, ∀ v_days : Int32, ∀ v_search : Int32, ∀ n : Nat, ∀ (x2 : Int32) (v_found : Nat → Int32) (v_free : Nat → Int32), lp (f_X2_look_L37 v_p1_teams v_p1_days v_p1_rows v_all v_days v_search) n (x2, v_found, v_free) = some (nv_all, nv_days, nv_search, nv_found, nv_free) → ∀ (H : Heap) (locs : List Loc) (ls : Array Slot), va_P D vwCl ((wd_X2 cI cZ cP a_this a_found a_free a_ends a_stamps a_ways v_all v_days v_search v_found v_free v_ends v_stamps v_ways) ++ (wd_X3 cI cZ cP a_p1 a_p1_rows v_p1_teams v_p1_days v_p1_rows)) H → va_D A ((wd_X2 cI cZ cP a_this a_found a_free a_ends a_stamps a_ways v_all v_days v_search v_found v_free v_ends v_stamps v_ways) ++ (wd_X3 cI cZ cP a_p1 a_p1_rows v_p1_teams v_p1_days v_p1_rows)) → va_S A s.heap H locs → lv_has ls 5 [(0, .ref a_this), (1, .ref a_p1), (2, .int x2)] → W p l e { frames := 1, cells := 0, slots := 0, locals := 22 } s m args below meth c H locs 0 0 Q (F0 m 37 ls []) := by
    intro v_all v_days v_search
    refine fun n x2 v_found v_free h => lp_walk (b := f_X2_look_L37 v_p1_teams v_p1_days v_p1_rows v_all v_days v_search) (r := (nv_all, nv_days, nv_search, nv_found, nv_free)) (P := fun st => match st with | (x2, v_found, v_free) => ∀ (H : Heap) (locs : List Loc) (ls : Array Slot), va_P D vwCl ((wd_X2 cI cZ cP a_this a_found a_free a_ends a_stamps a_ways v_all v_days v_search v_found v_free v_ends v_stamps v_ways) ++ (wd_X3 cI cZ cP a_p1 a_p1_rows v_p1_teams v_p1_days v_p1_rows)) H → va_D A ((wd_X2 cI cZ cP a_this a_found a_free a_ends a_stamps a_ways v_all v_days v_search v_found v_free v_ends v_stamps v_ways) ++ (wd_X3 cI cZ cP a_p1 a_p1_rows v_p1_teams v_p1_days v_p1_rows)) → va_S A s.heap H locs → lv_has ls 5 [(0, .ref a_this), (1, .ref a_p1), (2, .int x2)] → W p l e { frames := 1, cells := 0, slots := 0, locals := 22 } s m args below meth c H locs 0 0 Q (F0 m 37 ls [])) (fun self hself0 st h => ?_) n (x2, v_found, v_free) h
    obtain ⟨x2, v_found, v_free⟩ := st
    have hself : ∀ (x2 : Int32) (v_found : Nat → Int32) (v_free : Nat → Int32), self (x2, v_found, v_free) = some (nv_all, nv_days, nv_search, nv_found, nv_free) → ∀ (H : Heap) (locs : List Loc) (ls : Array Slot), va_P D vwCl ((wd_X2 cI cZ cP a_this a_found a_free a_ends a_stamps a_ways v_all v_days v_search v_found v_free v_ends v_stamps v_ways) ++ (wd_X3 cI cZ cP a_p1 a_p1_rows v_p1_teams v_p1_days v_p1_rows)) H → va_D A ((wd_X2 cI cZ cP a_this a_found a_free a_ends a_stamps a_ways v_all v_days v_search v_found v_free v_ends v_stamps v_ways) ++ (wd_X3 cI cZ cP a_p1 a_p1_rows v_p1_teams v_p1_days v_p1_rows)) → va_S A s.heap H locs → lv_has ls 5 [(0, .ref a_this), (1, .ref a_p1), (2, .int x2)] → W p l e { frames := 1, cells := 0, slots := 0, locals := 22 } s m args below meth c H locs 0 0 Q (F0 m 37 ls []) := fun x2 v_found v_free h => hself0 (x2, v_found, v_free) h
    clear hself0
    intro H locs ls hP hD hS hl
    replace h : (if (14 : Int32) ≤ x2 then some (v_all, v_days, v_search, v_found, v_free) else bd ((1 : Int32) <<< (x2 &&& (31 : Int32))) (fun x3_12 => lp (f_X2_look_L50 self v_p1_teams v_p1_days v_p1_rows x2 v_all v_days v_search v_found v_free) 20000 (x3_12, (0 : Int32)))) = some (nv_all, nv_days, nv_search, nv_found, nv_free) := h
    refine lv_iload_n hx hb dX2_look_37 rfl (lv_at hl 2 rfl) ?_
    refine lv_bipush (v := 14) hx hb dX2_look_38 (by decide) ?_
    refine lv_icmp_ge (tgt := 104) hx hb dX2_look_40 (by decide) (fun c_11 => ?_) (fun c_11 => ?_)
    · replace h := it_pos h c_11
      obtain ⟨rfl, rfl, rfl, rfl, rfl⟩ := inj5 h
      exact hret dX2_look_104 hP hD hS
    · replace h := it_neg h c_11
      refine lv_iconst (v := 1) hx hb dX2_look_43 (by decide) ?_
      refine lv_iload_n hx hb dX2_look_44 rfl (lv_at hl 2 rfl) ?_
      refine lv_ishl hx hb dX2_look_45 ?_
      obtain ⟨x3_12, ex3_12, h⟩ := bd_some h
      refine rd_top ex3_12 ?_
      refine lv_istore_n (lv' := [(3, .int x3_12), (0, .ref a_this), (1, .ref a_p1), (2, .int x2)]) hx hb dX2_look_46 rfl hl (by decide) rfl (fun ls hl => ?_)
      refine lv_iconst (v := 0) hx hb dX2_look_47 (by decide) ?_
      refine lv_istore (lv' := [(4, .int (0 : Int32)), (3, .int x3_12), (0, .ref a_this), (1, .ref a_p1), (2, .int x2)]) hx hb dX2_look_48 hl (by decide) rfl (fun ls hl => ?_)
      exact w50 x2 v_all v_days v_search v_found v_free _ hself 20000 x3_12 (0 : Int32) h _ _ _ hP hD hS (lv_sub hl [2, 3, 4, 1, 0] rfl)
  refine lv_aload_n hx hb dX2_look_0 rfl (lv_at hl 0 rfl) ?_
  refine lv_iconst (v := 1) hx hb dX2_look_1 (by decide) ?_
  refine lv_aload_n hx hb dX2_look_2 rfl (lv_at hl 1 rfl) ?_
  refine va_get (D := D) (ci := 3) (v := .int v_p1_teams) (C := RX3) (T := TX3) (N := 3) hx hb hts in_X2_look_X3 hown hK hP 6 rfl rfl 0 (by decide) kw1 (fun _ h9 => h9) rfl dX2_look_3 ?_
  refine lv_ishl hx hb dX2_look_6 ?_
  refine lv_iconst (v := 1) hx hb dX2_look_7 (by decide) ?_
  refine lv_isub hx hb dX2_look_8 ?_
  obtain ⟨v_all_13, ev_all_13, h⟩ := bd_some h
  refine rd_top ev_all_13 ?_
  refine rd_put (W1 := (wd_X2 cI cZ cP a_this a_found a_free a_ends a_stamps a_ways v_all_13 v_days v_search v_found v_free v_ends v_stamps v_ways) ++ (wd_X3 cI cZ cP a_p1 a_p1_rows v_p1_teams v_p1_days v_p1_rows)) (C := RX2) (T := TX2) (N := 8) (ci := 2) hx hb hts in_X2_look_X2 tyX2 tyX2_ok nmX2 hown hK hP hD hS 0 rfl rfl 2 (by decide) kw2 (fun _ h9 => h9) rfl rfl rfl (Nat.le_of_ble_eq_true rfl) rfl dX2_look_9 (fun H locs hP hD hS => ?_)
  refine lv_aload_n hx hb dX2_look_12 rfl (lv_at hl 0 rfl) ?_
  refine lv_aload_n hx hb dX2_look_13 rfl (lv_at hl 1 rfl) ?_
  refine va_get (D := D) (ci := 3) (v := .int v_p1_days) (C := RX3) (T := TX3) (N := 3) hx hb hts in_X2_look_X3 hown hK hP 6 rfl rfl 1 (by decide) kw3 (fun _ h9 => h9) rfl dX2_look_14 ?_
  refine lv_bipush (v := 13) hx hb dX2_look_17 (by decide) ?_
  refine va_mmin hx hb (by rw [hml]; exact hl.1.symm) hown kw4 kw5 kw6 kw7 (Nat.le_of_ble_eq_true rfl) (Nat.le_of_ble_eq_true rfl) (Nat.zero_le _) (Nat.zero_le _) dX2_look_19 ?_
  obtain ⟨v_days_14, ev_days_14, h⟩ := bd_some h
  refine rd_top ev_days_14 ?_
  refine rd_put (W1 := (wd_X2 cI cZ cP a_this a_found a_free a_ends a_stamps a_ways v_all_13 v_days_14 v_search v_found v_free v_ends v_stamps v_ways) ++ (wd_X3 cI cZ cP a_p1 a_p1_rows v_p1_teams v_p1_days v_p1_rows)) (C := RX2) (T := TX2) (N := 8) (ci := 2) hx hb hts in_X2_look_X2 tyX2 tyX2_ok nmX2 hown hK hP hD hS 0 rfl rfl 3 (by decide) kw8 (fun _ h9 => h9) rfl rfl rfl (Nat.le_of_ble_eq_true rfl) rfl dX2_look_22 (fun H locs hP hD hS => ?_)
  refine lv_aload_n hx hb dX2_look_25 rfl (lv_at hl 0 rfl) ?_
  refine lv_dup hx hb dX2_look_26 rfl ?_
  refine va_get (D := D) (ci := 2) (v := .int v_search) (C := RX2) (T := TX2) (N := 8) hx hb hts in_X2_look_X2 hown hK hP 0 rfl rfl 7 (by decide) kw9 (fun _ h9 => h9) rfl dX2_look_27 ?_
  refine lv_iconst (v := 1) hx hb dX2_look_30 (by decide) ?_
  refine lv_iadd hx hb dX2_look_31 ?_
  obtain ⟨v_search_15, ev_search_15, h⟩ := bd_some h
  refine rd_top ev_search_15 ?_
  refine rd_put (W1 := (wd_X2 cI cZ cP a_this a_found a_free a_ends a_stamps a_ways v_all_13 v_days_14 v_search_15 v_found v_free v_ends v_stamps v_ways) ++ (wd_X3 cI cZ cP a_p1 a_p1_rows v_p1_teams v_p1_days v_p1_rows)) (C := RX2) (T := TX2) (N := 8) (ci := 2) hx hb hts in_X2_look_X2 tyX2 tyX2_ok nmX2 hown hK hP hD hS 0 rfl rfl 7 (by decide) kw9 (fun _ h9 => h9) rfl rfl rfl (Nat.le_of_ble_eq_true rfl) rfl dX2_look_32 (fun H locs hP hD hS => ?_)
  refine lv_iconst (v := 0) hx hb dX2_look_35 (by decide) ?_
  refine lv_istore_n (lv' := [(2, .int (0 : Int32)), (0, .ref a_this), (1, .ref a_p1)]) hx hb dX2_look_36 rfl hl (by decide) rfl (fun ls hl => ?_)
  exact w37 v_all_13 v_days_14 v_search_15 20000 (0 : Int32) v_found v_free h _ _ _ hP hD hS (lv_sub hl [1, 2, 0] rfl)
def f_X2_lowest_L2 (p0 : Int32) (p1 : Int32) (self : Int32 → Option (Int32)) : Int32 → Option (Int32) := fun x2 => if (14 : Int32) ≤ x2 then some x2 else if ((p0 >>> (x2 &&& (31 : Int32))) &&& (1 : Int32)) = 0 then bd (x2 + (1 : Int32)) (fun x2_3 => self x2_3) else some x2
def f_X2_lowest (p0 : Int32) (p1 : Int32) : Option (Int32) := lp (f_X2_lowest_L2 p0 p1) 20000 p1
set_option maxHeartbeats 4000000 in
set_option maxRecDepth 100000 in
theorem c_X2_lowest (l : Launch) (D : va_G) (cI cZ cP : ClassId) (p0 : Int32) (p1 : Int32) (r : Int32) (h : f_X2_lowest p0 p1 = some r) : rd_I l yX2_lowest wsX2_lowest { frames := 0, cells := 0, slots := 0, locals := 0 } [.int p0, .int p1] D (tyA cI cZ cP) ([]) ([]) r := by
  unfold f_X2_lowest at h
  refine rd_enterI (cc := cX2_lowest) (maxL := 3) (by decide) rfl (Nat.le_of_ble_eq_true rfl) ?_
  intro p e s m args below meth c A Q ls hx hb hml hown hts hA hK hP hD hS hl hret
  have hl : lv_has ls 3 [(0, .int p0), (1, .int p1)] := hl
  have w2 : ∀ n : Nat, ∀ (x2 : Int32), lp (f_X2_lowest_L2 p0 p1) n x2 = some r → ∀ (H : Heap) (locs : List Loc) (ls : Array Slot), va_P D vwCl ([]) H → va_D A ([]) → va_S A s.heap H locs → lv_has ls 3 [(0, .int p0), (2, .int x2)] → W p l e { frames := 0, cells := 0, slots := 0, locals := 0 } s m args below meth c H locs 0 0 Q (F0 m 2 ls []) := by
    refine fun n x2 h => lp_walk (b := f_X2_lowest_L2 p0 p1) (r := r) (P := fun x2 => ∀ (H : Heap) (locs : List Loc) (ls : Array Slot), va_P D vwCl ([]) H → va_D A ([]) → va_S A s.heap H locs → lv_has ls 3 [(0, .int p0), (2, .int x2)] → W p l e { frames := 0, cells := 0, slots := 0, locals := 0 } s m args below meth c H locs 0 0 Q (F0 m 2 ls [])) (fun self hself0 st h => ?_) n x2 h
    revert h; revert st; intro x2 h
    have hself : ∀ (x2 : Int32), self x2 = some r → ∀ (H : Heap) (locs : List Loc) (ls : Array Slot), va_P D vwCl ([]) H → va_D A ([]) → va_S A s.heap H locs → lv_has ls 3 [(0, .int p0), (2, .int x2)] → W p l e { frames := 0, cells := 0, slots := 0, locals := 0 } s m args below meth c H locs 0 0 Q (F0 m 2 ls []) := fun x2 h => hself0 x2 h
    clear hself0
    intro H locs ls hP hD hS hl
    replace h : (if (14 : Int32) ≤ x2 then some x2 else if ((p0 >>> (x2 &&& (31 : Int32))) &&& (1 : Int32)) = 0 then bd (x2 + (1 : Int32)) (fun x2_3 => self x2_3) else some x2) = some r := h
    refine lv_iload_n hx hb dX2_lowest_2 rfl (lv_at hl 1 rfl) ?_
    refine lv_bipush (v := 14) hx hb dX2_lowest_3 (by decide) ?_
    refine lv_icmp_ge (tgt := 22) hx hb dX2_lowest_5 (by decide) (fun c_1 => ?_) (fun c_1 => ?_)
    · replace h := it_pos h c_1
      refine lv_iload_n hx hb dX2_lowest_22 rfl (lv_at hl 1 rfl) ?_
      obtain rfl := inj1 h
      exact hret dX2_lowest_23 hP hD hS
    · replace h := it_neg h c_1
      refine lv_iload_n hx hb dX2_lowest_8 rfl (lv_at hl 0 rfl) ?_
      refine lv_iload_n hx hb dX2_lowest_9 rfl (lv_at hl 1 rfl) ?_
      refine lv_ishr hx hb dX2_lowest_10 ?_
      refine lv_iconst (v := 1) hx hb dX2_lowest_11 (by decide) ?_
      refine lv_iand hx hb dX2_lowest_12 ?_
      refine lv_if_ne (tgt := 22) hx hb dX2_lowest_13 (by decide) (fun c_2 => ?_) (fun c_2 => ?_)
      · replace h := it_neg h c_2
        refine lv_iload_n hx hb dX2_lowest_22 rfl (lv_at hl 1 rfl) ?_
        obtain rfl := inj1 h
        exact hret dX2_lowest_23 hP hD hS
      · replace h := it_pos h c_2
        obtain ⟨x2_3, ex2_3, h⟩ := bd_some h
        refine lv_iinc (v := x2_3) (lv' := [(2, .int x2_3), (0, .int p0)]) hx hb dX2_lowest_16 hl (k := 1) rfl (by rw [ex2_3]; rfl) (by decide) rfl (fun ls hl => ?_)
        refine lv_goto (tgt := 2) hx hb dX2_lowest_19 (by decide) ?_
        exact hself x2_3 h _ _ _ hP hD hS (lv_sub hl [1, 0] rfl)
  refine lv_iload_n hx hb dX2_lowest_0 rfl (lv_at hl 1 rfl) ?_
  refine lv_istore_n (lv' := [(2, .int p1), (0, .int p0), (1, .int p1)]) hx hb dX2_lowest_1 rfl hl (by decide) rfl (fun ls hl => ?_)
  exact w2 20000 p1 h _ _ _ hP hD hS (lv_sub hl [1, 0] rfl)
def f_X2_slot (p0 : Int32) : Option (Int32) := some ((p0 >>> ((1 : Int32) &&& (31 : Int32))) &&& (4095 : Int32))
set_option maxHeartbeats 4000000 in
set_option maxRecDepth 100000 in
theorem c_X2_slot (l : Launch) (D : va_G) (cI cZ cP : ClassId) (p0 : Int32) (r : Int32) (h : f_X2_slot p0 = some r) : rd_I l yX2_slot wsX2_slot { frames := 0, cells := 0, slots := 0, locals := 0 } [.int p0] D (tyA cI cZ cP) ([]) ([]) r := by
  unfold f_X2_slot at h
  refine rd_enterI (cc := cX2_slot) (maxL := 1) (by decide) rfl (Nat.le_of_ble_eq_true rfl) ?_
  intro p e s m args below meth c A Q ls hx hb hml hown hts hA hK hP hD hS hl hret
  have hl : lv_has ls 1 [(0, .int p0)] := hl
  refine lv_iload_n hx hb dX2_slot_0 rfl (lv_at hl 0 rfl) ?_
  refine lv_iconst (v := 1) hx hb dX2_slot_1 (by decide) ?_
  refine lv_ishr hx hb dX2_slot_2 ?_
  refine lv_sipush (v := 4095) hx hb dX2_slot_3 (by decide) ?_
  refine lv_iand hx hb dX2_slot_6 ?_
  obtain rfl := inj1 h
  exact hret dX2_slot_7 hP hD hS
theorem in_X2_countFrom_X2 : ∀ w ∈ wsX20, w ∈ wsX2_countFrom := by decide +kernel
def f_X2_countFrom_L66 (self_ : (Nat → Int32) × (Nat → Int32) × Int32 × Int32 → Option (Int32 × (Nat → Int32) × (Nat → Int32))) (v_search : Int32) (v_free : Nat → Int32) (p1 : Int32) (p2 : Int32) (x3 : Int32) (x4 : Int32) (x5 : Int32) (self : Int32 × Int32 × (Nat → Int32) × (Nat → Int32) → Option (Int32 × (Nat → Int32) × (Nat → Int32))) : Int32 × Int32 × (Nat → Int32) × (Nat → Int32) → Option (Int32 × (Nat → Int32) × (Nat → Int32)) := fun st => match st with | (x6, x7, v_stamps, v_ways) => if (14 : Int32) ≤ x7 then if inb x4 4096 then bd (upd v_stamps x4.toNatClampNeg v_search) (fun v_stamps_3 => if inb x4 4096 then bd (upd v_ways x4.toNatClampNeg x6) (fun v_ways_5 => some (x6, v_stamps_3, v_ways_5)) else none) else none else if ((x5 >>> (x7 &&& (31 : Int32))) &&& (1 : Int32)) = (1 : Int32) then (self_ (v_stamps, v_ways, (p1 &&& ((((1 : Int32) <<< (x3 &&& (31 : Int32))) ||| ((1 : Int32) <<< (x7 &&& (31 : Int32)))) ^^^ (-1 : Int32))), (x3 + (1 : Int32)))).bind (fun t => match t with | (r_8, v_stamps_9, v_ways_10) => bd (x6 + r_8) (fun x6_12 => bd (x7 + (1 : Int32)) (fun x7_13 => self (x6_12, x7_13, v_stamps_9, v_ways_10)))) else bd (x7 + (1 : Int32)) (fun x7_7 => self (x6, x7_7, v_stamps, v_ways))
def f_X2_countFrom_B (v_search : Int32) (v_free : Nat → Int32) (self_ : (Nat → Int32) × (Nat → Int32) × Int32 × Int32 → Option (Int32 × (Nat → Int32) × (Nat → Int32))) : (Nat → Int32) × (Nat → Int32) × Int32 × Int32 → Option (Int32 × (Nat → Int32) × (Nat → Int32)) := fun st => match st with | (v_stamps, v_ways, p1, p2) => if p1 = 0 then some ((1 : Int32), v_stamps, v_ways) else (f_X2_lowest p1 p2).bind (fun r_15 => if r_15 < (14 : Int32) then (f_X2_slot p1).bind (fun r_18 => if inb r_18 4096 then if (v_stamps r_18.toNatClampNeg) = v_search then if inb r_18 4096 then some (v_ways r_18.toNatClampNeg, v_stamps, v_ways) else none else if inb r_15 14 then bd ((v_free r_15.toNatClampNeg) &&& p1) (fun x5_23 => bd (r_15 + (1 : Int32)) (fun x7_24 => lp (f_X2_countFrom_L66 self_ v_search v_free p1 p2 r_15 r_18 x5_23) 20000 ((0 : Int32), x7_24, v_stamps, v_ways))) else none else none) else some ((0 : Int32), v_stamps, v_ways))
def f_X2_countFrom (v_search : Int32) (v_free : Nat → Int32) : Nat → (Nat → Int32) × (Nat → Int32) × Int32 × Int32 → Option (Int32 × (Nat → Int32) × (Nat → Int32)) := lp (f_X2_countFrom_B v_search v_free)
set_option maxHeartbeats 4000000 in
set_option maxRecDepth 100000 in
theorem c_X2_countFrom (dp : Nat) (l : Launch) (D : va_G) (cI cZ cP : ClassId) (a_this : Nat) (a_found : Nat) (a_free : Nat) (a_ends : Nat) (a_stamps : Nat) (a_ways : Nat) (v_all : Int32) (v_days : Int32) (v_search : Int32) (v_found : Nat → Int32) (v_free : Nat → Int32) (v_ends : Nat → Int32) (v_stamps : Nat → Int32) (v_ways : Nat → Int32) (p1 : Int32) (p2 : Int32) (r : Int32) (nv_stamps : Nat → Int32) (nv_ways : Nat → Int32) (h : f_X2_countFrom v_search v_free dp (v_stamps, v_ways, p1, p2) = some (r, nv_stamps, nv_ways)) : rd_I l yX2_countFrom wsX2_countFrom { frames := dp + 1, cells := 0, slots := 0, locals := 27 * dp + 22 } [.ref a_this, .int p1, .int p2] D (tyA cI cZ cP) (wd_X2 cI cZ cP a_this a_found a_free a_ends a_stamps a_ways v_all v_days v_search v_found v_free v_ends v_stamps v_ways) (wd_X2 cI cZ cP a_this a_found a_free a_ends a_stamps a_ways v_all v_days v_search v_found v_free v_ends nv_stamps nv_ways) r := by
  induction dp generalizing v_stamps v_ways p1 p2 r nv_stamps nv_ways with
  | zero => cases h
  | succ dp ih =>
    replace h : f_X2_countFrom_B v_search v_free (f_X2_countFrom v_search v_free dp) (v_stamps, v_ways, p1, p2) = some (r, nv_stamps, nv_ways) := h
    have hself_ := ih
    generalize f_X2_countFrom v_search v_free dp = self_ at h hself_
    clear ih
    unfold f_X2_countFrom_B at h
    refine rd_enterI (cc := cX2_countFrom) (maxL := 8) (by decide) rfl (Nat.le_of_ble_eq_true rfl) ?_
    intro p e s m args below meth c A Q ls hx hb hml hown hts hA hK hP hD hS hl hret
    have hl : lv_has ls 8 [(0, .ref a_this), (1, .int p1), (2, .int p2)] := hl
    have kw1 := hts (.fieldLink RX2 21 "RoundDays$Finder" "stamps" "[I") (List.mem_of_getElem? (i := 1) rfl)
    have kw2 := hts (.fieldLink RX2 62 "RoundDays$Finder" "search" "I") (List.mem_of_getElem? (i := 2) rfl)
    have kw3 := hts (.fieldLink RX2 24 "RoundDays$Finder" "ways" "[I") (List.mem_of_getElem? (i := 3) rfl)
    have kw4 := hts (.fieldLink RX2 15 "RoundDays$Finder" "free" "[I") (List.mem_of_getElem? (i := 4) rfl)
    have w66 : ∀ x3 : Int32, ∀ x4 : Int32, ∀ x5 : Int32, ∀ n : Nat, ∀ (x6 : Int32) (x7 : Int32) (v_stamps : Nat → Int32) (v_ways : Nat → Int32), lp (f_X2_countFrom_L66 self_ v_search v_free p1 p2 x3 x4 x5) n (x6, x7, v_stamps, v_ways) = some (r, nv_stamps, nv_ways) → ∀ (H : Heap) (locs : List Loc) (ls : Array Slot), va_P D vwCl (wd_X2 cI cZ cP a_this a_found a_free a_ends a_stamps a_ways v_all v_days v_search v_found v_free v_ends v_stamps v_ways) H → va_D A (wd_X2 cI cZ cP a_this a_found a_free a_ends a_stamps a_ways v_all v_days v_search v_found v_free v_ends v_stamps v_ways) → va_S A s.heap H locs → lv_has ls 8 [(0, .ref a_this), (1, .int p1), (3, .int x3), (4, .int x4), (5, .int x5), (6, .int x6), (7, .int x7)] → W p l e { frames := dp + 1 + 1, cells := 0, slots := 0, locals := 27 * (dp + 1) + 22 } s m args below meth c H locs 0 0 Q (F0 m 66 ls []) := by
      intro x3 x4 x5
      refine fun n x6 x7 v_stamps v_ways h => lp_walk (b := f_X2_countFrom_L66 self_ v_search v_free p1 p2 x3 x4 x5) (r := (r, nv_stamps, nv_ways)) (P := fun st => match st with | (x6, x7, v_stamps, v_ways) => ∀ (H : Heap) (locs : List Loc) (ls : Array Slot), va_P D vwCl (wd_X2 cI cZ cP a_this a_found a_free a_ends a_stamps a_ways v_all v_days v_search v_found v_free v_ends v_stamps v_ways) H → va_D A (wd_X2 cI cZ cP a_this a_found a_free a_ends a_stamps a_ways v_all v_days v_search v_found v_free v_ends v_stamps v_ways) → va_S A s.heap H locs → lv_has ls 8 [(0, .ref a_this), (1, .int p1), (3, .int x3), (4, .int x4), (5, .int x5), (6, .int x6), (7, .int x7)] → W p l e { frames := dp + 1 + 1, cells := 0, slots := 0, locals := 27 * (dp + 1) + 22 } s m args below meth c H locs 0 0 Q (F0 m 66 ls [])) (fun self hself0 st h => ?_) n (x6, x7, v_stamps, v_ways) h
      obtain ⟨x6, x7, v_stamps, v_ways⟩ := st
      have hself : ∀ (x6 : Int32) (x7 : Int32) (v_stamps : Nat → Int32) (v_ways : Nat → Int32), self (x6, x7, v_stamps, v_ways) = some (r, nv_stamps, nv_ways) → ∀ (H : Heap) (locs : List Loc) (ls : Array Slot), va_P D vwCl (wd_X2 cI cZ cP a_this a_found a_free a_ends a_stamps a_ways v_all v_days v_search v_found v_free v_ends v_stamps v_ways) H → va_D A (wd_X2 cI cZ cP a_this a_found a_free a_ends a_stamps a_ways v_all v_days v_search v_found v_free v_ends v_stamps v_ways) → va_S A s.heap H locs → lv_has ls 8 [(0, .ref a_this), (1, .int p1), (3, .int x3), (4, .int x4), (5, .int x5), (6, .int x6), (7, .int x7)] → W p l e { frames := dp + 1 + 1, cells := 0, slots := 0, locals := 27 * (dp + 1) + 22 } s m args below meth c H locs 0 0 Q (F0 m 66 ls []) := fun x6 x7 v_stamps v_ways h => hself0 (x6, x7, v_stamps, v_ways) h
      clear hself0
      intro H locs ls hP hD hS hl
      replace h : (if (14 : Int32) ≤ x7 then if inb x4 4096 then bd (upd v_stamps x4.toNatClampNeg v_search) (fun v_stamps_3 => if inb x4 4096 then bd (upd v_ways x4.toNatClampNeg x6) (fun v_ways_5 => some (x6, v_stamps_3, v_ways_5)) else none) else none else if ((x5 >>> (x7 &&& (31 : Int32))) &&& (1 : Int32)) = (1 : Int32) then (self_ (v_stamps, v_ways, (p1 &&& ((((1 : Int32) <<< (x3 &&& (31 : Int32))) ||| ((1 : Int32) <<< (x7 &&& (31 : Int32)))) ^^^ (-1 : Int32))), (x3 + (1 : Int32)))).bind (fun t => match t with | (r_8, v_stamps_9, v_ways_10) => bd (x6 + r_8) (fun x6_12 => bd (x7 + (1 : Int32)) (fun x7_13 => self (x6_12, x7_13, v_stamps_9, v_ways_10)))) else bd (x7 + (1 : Int32)) (fun x7_7 => self (x6, x7_7, v_stamps, v_ways))) = some (r, nv_stamps, nv_ways) := h
      refine lv_iload hx hb dX2_countFrom_66 (lv_at hl 6 rfl) ?_
      refine lv_bipush (v := 14) hx hb dX2_countFrom_68 (by decide) ?_
      refine lv_icmp_ge (tgt := 114) hx hb dX2_countFrom_70 (by decide) (fun c_1 => ?_) (fun c_1 => ?_)
      · replace h := it_pos h c_1
        refine lv_aload_n hx hb dX2_countFrom_114 rfl (lv_at hl 0 rfl) ?_
        refine va_get (D := D) (ci := 2) (v := .ref a_stamps) (C := RX2) (T := TX2) (N := 8) hx hb hts in_X2_countFrom_X2 hown hK hP 0 rfl rfl 5 (by decide) kw1 (fun _ h9 => h9) rfl dX2_countFrom_115 ?_
        refine lv_iload hx hb dX2_countFrom_118 (lv_at hl 3 rfl) ?_
        refine lv_aload_n hx hb dX2_countFrom_120 rfl (lv_at hl 0 rfl) ?_
        refine va_get (D := D) (ci := 2) (v := .int v_search) (C := RX2) (T := TX2) (N := 8) hx hb hts in_X2_countFrom_X2 hown hK hP 0 rfl rfl 7 (by decide) kw2 (fun _ h9 => h9) rfl dX2_countFrom_121 ?_
        obtain ⟨hi_2, h⟩ := gd_some h
        obtain ⟨v_stamps_3, ev_stamps_3, h⟩ := bd_some h
        refine rd_iast (W1 := wd_X2 cI cZ cP a_this a_found a_free a_ends a_stamps a_ways v_all v_days v_search v_found v_free v_ends v_stamps_3 v_ways) hx hb hK hP hD hS 4 0 rfl rfl hi_2 ev_stamps_3 rfl dX2_countFrom_124 (fun H locs hP hD hS => ?_)
        refine lv_aload_n hx hb dX2_countFrom_125 rfl (lv_at hl 0 rfl) ?_
        refine va_get (D := D) (ci := 2) (v := .ref a_ways) (C := RX2) (T := TX2) (N := 8) hx hb hts in_X2_countFrom_X2 hown hK hP 0 rfl rfl 6 (by decide) kw3 (fun _ h9 => h9) rfl dX2_countFrom_126 ?_
        refine lv_iload hx hb dX2_countFrom_129 (lv_at hl 3 rfl) ?_
        refine lv_iload hx hb dX2_countFrom_131 (lv_at hl 5 rfl) ?_
        obtain ⟨hi_4, h⟩ := gd_some h
        obtain ⟨v_ways_5, ev_ways_5, h⟩ := bd_some h
        refine rd_iast (W1 := wd_X2 cI cZ cP a_this a_found a_free a_ends a_stamps a_ways v_all v_days v_search v_found v_free v_ends v_stamps_3 v_ways_5) hx hb hK hP hD hS 5 0 rfl rfl hi_4 ev_ways_5 rfl dX2_countFrom_133 (fun H locs hP hD hS => ?_)
        refine lv_iload hx hb dX2_countFrom_134 (lv_at hl 5 rfl) ?_
        obtain ⟨rfl, rfl, rfl⟩ := inj3 h
        exact hret dX2_countFrom_136 hP hD hS
      · replace h := it_neg h c_1
        refine lv_iload hx hb dX2_countFrom_73 (lv_at hl 4 rfl) ?_
        refine lv_iload hx hb dX2_countFrom_75 (lv_at hl 6 rfl) ?_
        refine lv_ishr hx hb dX2_countFrom_77 ?_
        refine lv_iconst (v := 1) hx hb dX2_countFrom_78 (by decide) ?_
        refine lv_iand hx hb dX2_countFrom_79 ?_
        refine lv_iconst (v := 1) hx hb dX2_countFrom_80 (by decide) ?_
        refine lv_icmp_ne (tgt := 108) hx hb dX2_countFrom_81 (by decide) (fun c_6 => ?_) (fun c_6 => ?_)
        · replace h := it_neg h c_6
          obtain ⟨x7_7, ex7_7, h⟩ := bd_some h
          refine lv_iinc (v := x7_7) (lv' := [(7, .int x7_7), (0, .ref a_this), (1, .int p1), (3, .int x3), (4, .int x4), (5, .int x5), (6, .int x6)]) hx hb dX2_countFrom_108 hl (k := 6) rfl (by rw [ex7_7]; rfl) (by decide) rfl (fun ls hl => ?_)
          refine lv_goto (tgt := 66) hx hb dX2_countFrom_111 (by decide) ?_
          exact hself x6 x7_7 v_stamps v_ways h _ _ _ hP hD hS (lv_sub hl [1, 2, 3, 4, 5, 6, 0] rfl)
        · replace h := it_pos h c_6
          refine lv_iload hx hb dX2_countFrom_84 (lv_at hl 5 rfl) ?_
          refine lv_aload_n hx hb dX2_countFrom_86 rfl (lv_at hl 0 rfl) ?_
          refine lv_iload_n hx hb dX2_countFrom_87 rfl (lv_at hl 1 rfl) ?_
          refine lv_iconst (v := 1) hx hb dX2_countFrom_88 (by decide) ?_
          refine lv_iload_n hx hb dX2_countFrom_89 rfl (lv_at hl 2 rfl) ?_
          refine lv_ishl hx hb dX2_countFrom_90 ?_
          refine lv_iconst (v := 1) hx hb dX2_countFrom_91 (by decide) ?_
          refine lv_iload hx hb dX2_countFrom_92 (lv_at hl 6 rfl) ?_
          refine lv_ishl hx hb dX2_countFrom_94 ?_
          refine lv_ior hx hb dX2_countFrom_95 ?_
          refine lv_iconst (v := -1) hx hb dX2_countFrom_96 (by decide) ?_
          refine lv_ixor hx hb dX2_countFrom_97 ?_
          refine lv_iand hx hb dX2_countFrom_98 ?_
          refine lv_iload_n hx hb dX2_countFrom_99 rfl (lv_at hl 2 rfl) ?_
          refine lv_iconst (v := 1) hx hb dX2_countFrom_100 (by decide) ?_
          refine lv_iadd hx hb dX2_countFrom_101 ?_
          obtain ⟨⟨r_8, v_stamps_9, v_ways_10⟩, hc_11, h⟩ := bi_some h
          refine rd_callVi [.int (p1 &&& ((((1 : Int32) <<< (x3 &&& (31 : Int32))) ||| ((1 : Int32) <<< (x7 &&& (31 : Int32)))) ^^^ (-1 : Int32))), .int (x3 + (1 : Int32))] [.int x6] (wr := []) (W1 := wd_X2 cI cZ cP a_this a_found a_free a_ends a_stamps a_ways v_all v_days v_search v_found v_free v_ends v_stamps_9 v_ways_10) (ci := 2) ⟨hx, hb, hml, hown, hts⟩ (hself_  v_stamps v_ways (p1 &&& ((((1 : Int32) <<< (x3 &&& (31 : Int32))) ||| ((1 : Int32) <<< (x7 &&& (31 : Int32)))) ^^^ (-1 : Int32))) (x3 + (1 : Int32)) r_8 v_stamps_9 v_ways_10 hc_11) (cwV 2 hts gX2_countFrom_X2_countFrom rfl rfl rfl (by decide +kernel) ⟨by show _ ≤ _; dsimp only; omega, by show _ ≤ _; dsimp only; omega⟩) rfl rfl hl.1 (Nat.le_of_ble_eq_true rfl) dX2_countFrom_102 ⟨Nat.zero_le _, Nat.zero_le _⟩ hK hP hD hS hA rfl rfl [0, 1, 2, 3, 4, 5] [] [0, 1, 2, 3, 4, 5] ⟨⟨rfl, rfl, rfl⟩, by decide⟩ (fun H locs hP hD hS => ?_)
          refine lv_iadd hx hb dX2_countFrom_105 ?_
          obtain ⟨x6_12, ex6_12, h⟩ := bd_some h
          refine rd_top ex6_12 ?_
          refine lv_istore (lv' := [(6, .int x6_12), (0, .ref a_this), (1, .int p1), (3, .int x3), (4, .int x4), (5, .int x5), (7, .int x7)]) hx hb dX2_countFrom_106 hl (by decide) rfl (fun ls hl => ?_)
          obtain ⟨x7_13, ex7_13, h⟩ := bd_some h
          refine lv_iinc (v := x7_13) (lv' := [(7, .int x7_13), (6, .int x6_12), (0, .ref a_this), (1, .int p1), (3, .int x3), (4, .int x4), (5, .int x5)]) hx hb dX2_countFrom_108 hl (k := 6) rfl (by rw [ex7_13]; rfl) (by decide) rfl (fun ls hl => ?_)
          refine lv_goto (tgt := 66) hx hb dX2_countFrom_111 (by decide) ?_
          exact hself x6_12 x7_13 v_stamps_9 v_ways_10 h _ _ _ hP hD hS (lv_sub hl [2, 3, 4, 5, 6, 1, 0] rfl)
    refine lv_iload_n hx hb dX2_countFrom_0 rfl (lv_at hl 1 rfl) ?_
    refine lv_if_ne (tgt := 6) hx hb dX2_countFrom_1 (by decide) (fun c_14 => ?_) (fun c_14 => ?_)
    · replace h := it_neg h c_14
      refine lv_iload_n hx hb dX2_countFrom_6 rfl (lv_at hl 1 rfl) ?_
      refine lv_iload_n hx hb dX2_countFrom_7 rfl (lv_at hl 2 rfl) ?_
      obtain ⟨r_15, hc_16, h⟩ := bi_some h
      refine rd_callSi [.int p1, .int p2] [] (wr := [(a_this, .inr (2, [.ref a_found, .ref a_free, .int v_all, .int v_days, .ref a_ends, .ref a_stamps, .ref a_ways, .int v_search])), (a_found, .inl (cI, 14, .inl v_found)), (a_free, .inl (cI, 14, .inl v_free)), (a_ends, .inl (cI, 182, .inl v_ends)), (a_stamps, .inl (cI, 4096, .inl v_stamps)), (a_ways, .inl (cI, 4096, .inl v_ways))]) (W1 := wd_X2 cI cZ cP a_this a_found a_free a_ends a_stamps a_ways v_all v_days v_search v_found v_free v_ends v_stamps v_ways) ⟨hx, hb, hml, hown, hts⟩ (c_X2_lowest l D cI cZ cP p1 p2 r_15 hc_16) (va_cwS 2 hts gX2_countFrom_X2_lowest rfl rfl rfl (by decide +kernel) ⟨by show _ ≤ _; dsimp only; omega, by show _ ≤ _; dsimp only; omega⟩) rfl rfl hl.1 (Nat.le_of_ble_eq_true rfl) dX2_countFrom_8 ⟨Nat.zero_le _, Nat.zero_le _⟩ hK hP hD hS hA [] [0, 1, 2, 3, 4, 5] [0, 1, 2, 3, 4, 5] ⟨⟨rfl, rfl, rfl⟩, by decide⟩ (fun H locs hP hD hS => ?_)
      refine lv_istore_n (lv' := [(3, .int r_15), (0, .ref a_this), (1, .int p1), (2, .int p2)]) hx hb dX2_countFrom_11 rfl hl (by decide) rfl (fun ls hl => ?_)
      refine lv_iload_n hx hb dX2_countFrom_12 rfl (lv_at hl 0 rfl) ?_
      refine lv_bipush (v := 14) hx hb dX2_countFrom_13 (by decide) ?_
      refine lv_icmp_lt (tgt := 20) hx hb dX2_countFrom_15 (by decide) (fun c_17 => ?_) (fun c_17 => ?_)
      · replace h := it_pos h c_17
        refine lv_iload_n hx hb dX2_countFrom_20 rfl (lv_at hl 2 rfl) ?_
        obtain ⟨r_18, hc_19, h⟩ := bi_some h
        refine rd_callSi [.int p1] [] (wr := [(a_this, .inr (2, [.ref a_found, .ref a_free, .int v_all, .int v_days, .ref a_ends, .ref a_stamps, .ref a_ways, .int v_search])), (a_found, .inl (cI, 14, .inl v_found)), (a_free, .inl (cI, 14, .inl v_free)), (a_ends, .inl (cI, 182, .inl v_ends)), (a_stamps, .inl (cI, 4096, .inl v_stamps)), (a_ways, .inl (cI, 4096, .inl v_ways))]) (W1 := wd_X2 cI cZ cP a_this a_found a_free a_ends a_stamps a_ways v_all v_days v_search v_found v_free v_ends v_stamps v_ways) ⟨hx, hb, hml, hown, hts⟩ (c_X2_slot l D cI cZ cP p1 r_18 hc_19) (va_cwS 1 hts gX2_countFrom_X2_slot rfl rfl rfl (by decide +kernel) ⟨by show _ ≤ _; dsimp only; omega, by show _ ≤ _; dsimp only; omega⟩) rfl rfl hl.1 (Nat.le_of_ble_eq_true rfl) dX2_countFrom_21 ⟨Nat.zero_le _, Nat.zero_le _⟩ hK hP hD hS hA [] [0, 1, 2, 3, 4, 5] [0, 1, 2, 3, 4, 5] ⟨⟨rfl, rfl, rfl⟩, by decide⟩ (fun H locs hP hD hS => ?_)
        refine lv_istore (lv' := [(4, .int r_18), (3, .int r_15), (0, .ref a_this), (1, .int p1), (2, .int p2)]) hx hb dX2_countFrom_24 hl (by decide) rfl (fun ls hl => ?_)
        refine lv_aload_n hx hb dX2_countFrom_26 rfl (lv_at hl 2 rfl) ?_
        refine va_get (D := D) (ci := 2) (v := .ref a_stamps) (C := RX2) (T := TX2) (N := 8) hx hb hts in_X2_countFrom_X2 hown hK hP 0 rfl rfl 5 (by decide) kw1 (fun _ h9 => h9) rfl dX2_countFrom_27 ?_
        refine lv_iload hx hb dX2_countFrom_30 (lv_at hl 0 rfl) ?_
        obtain ⟨hi_20, h⟩ := gd_some h
        refine va_iald hx hb hK hP 4 0 rfl rfl (inb_in hi_20) dX2_countFrom_32 ?_
        refine lv_aload_n hx hb dX2_countFrom_33 rfl (lv_at hl 2 rfl) ?_
        refine va_get (D := D) (ci := 2) (v := .int v_search) (C := RX2) (T := TX2) (N := 8) hx hb hts in_X2_countFrom_X2 hown hK hP 0 rfl rfl 7 (by decide) kw2 (fun _ h9 => h9) rfl dX2_countFrom_34 ?_
        refine lv_icmp_ne (tgt := 48) hx hb dX2_countFrom_37 (by decide) (fun c_21 => ?_) (fun c_21 => ?_)
        · replace h := it_neg h c_21
          refine lv_aload_n hx hb dX2_countFrom_48 rfl (lv_at hl 2 rfl) ?_
          refine va_get (D := D) (ci := 2) (v := .ref a_free) (C := RX2) (T := TX2) (N := 8) hx hb hts in_X2_countFrom_X2 hown hK hP 0 rfl rfl 1 (by decide) kw4 (fun _ h9 => h9) rfl dX2_countFrom_49 ?_
          refine lv_iload_n hx hb dX2_countFrom_52 rfl (lv_at hl 1 rfl) ?_
          obtain ⟨hi_22, h⟩ := gd_some h
          refine va_iald hx hb hK hP 2 0 rfl rfl (inb_in hi_22) dX2_countFrom_53 ?_
          refine lv_iload_n hx hb dX2_countFrom_54 rfl (lv_at hl 3 rfl) ?_
          refine lv_iand hx hb dX2_countFrom_55 ?_
          obtain ⟨x5_23, ex5_23, h⟩ := bd_some h
          refine rd_top ex5_23 ?_
          refine lv_istore (lv' := [(5, .int x5_23), (4, .int r_18), (3, .int r_15), (0, .ref a_this), (1, .int p1), (2, .int p2)]) hx hb dX2_countFrom_56 hl (by decide) rfl (fun ls hl => ?_)
          refine lv_iconst (v := 0) hx hb dX2_countFrom_58 (by decide) ?_
          refine lv_istore (lv' := [(6, .int (0 : Int32)), (5, .int x5_23), (4, .int r_18), (3, .int r_15), (0, .ref a_this), (1, .int p1), (2, .int p2)]) hx hb dX2_countFrom_59 hl (by decide) rfl (fun ls hl => ?_)
          refine lv_iload_n hx hb dX2_countFrom_61 rfl (lv_at hl 3 rfl) ?_
          refine lv_iconst (v := 1) hx hb dX2_countFrom_62 (by decide) ?_
          refine lv_iadd hx hb dX2_countFrom_63 ?_
          obtain ⟨x7_24, ex7_24, h⟩ := bd_some h
          refine rd_top ex7_24 ?_
          refine lv_istore (lv' := [(7, .int x7_24), (6, .int (0 : Int32)), (5, .int x5_23), (4, .int r_18), (3, .int r_15), (0, .ref a_this), (1, .int p1), (2, .int p2)]) hx hb dX2_countFrom_64 hl (by decide) rfl (fun ls hl => ?_)
          exact w66 r_15 r_18 x5_23 20000 (0 : Int32) x7_24 v_stamps v_ways h _ _ _ hP hD hS (lv_sub hl [5, 6, 4, 3, 2, 1, 0] rfl)
        · replace h := it_pos h c_21
          refine lv_aload_n hx hb dX2_countFrom_40 rfl (lv_at hl 2 rfl) ?_
          refine va_get (D := D) (ci := 2) (v := .ref a_ways) (C := RX2) (T := TX2) (N := 8) hx hb hts in_X2_countFrom_X2 hown hK hP 0 rfl rfl 6 (by decide) kw3 (fun _ h9 => h9) rfl dX2_countFrom_41 ?_
          refine lv_iload hx hb dX2_countFrom_44 (lv_at hl 0 rfl) ?_
          obtain ⟨hi_25, h⟩ := gd_some h
          refine va_iald hx hb hK hP 5 0 rfl rfl (inb_in hi_25) dX2_countFrom_46 ?_
          obtain ⟨rfl, rfl, rfl⟩ := inj3 h
          exact hret dX2_countFrom_47 hP hD hS
      · replace h := it_neg h c_17
        refine lv_iconst (v := 0) hx hb dX2_countFrom_18 (by decide) ?_
        obtain ⟨rfl, rfl, rfl⟩ := inj3 h
        exact hret dX2_countFrom_19 hP hD hS
    · replace h := it_pos h c_14
      refine lv_iconst (v := 1) hx hb dX2_countFrom_4 (by decide) ?_
      obtain ⟨rfl, rfl, rfl⟩ := inj3 h
      exact hret dX2_countFrom_5 hP hD hS
theorem in_X2_countAll_X2 : ∀ w ∈ wsX20, w ∈ wsX2_countAll := by decide +kernel
theorem in_X2_countAll_X3 : ∀ w ∈ wsX30, w ∈ wsX2_countAll := by decide +kernel
def f_X2_countAll (v_all : Int32) (v_days : Int32) (v_search : Int32) (v_found : Nat → Int32) (v_free : Nat → Int32) (v_stamps : Nat → Int32) (v_ways : Nat → Int32) (v_p1_teams : Int32) (v_p1_days : Int32) (v_p1_rows : Nat → Int32) : Option (Int32 × Int32 × Int32 × Int32 × (Nat → Int32) × (Nat → Int32) × (Nat → Int32) × (Nat → Int32)) := if v_p1_teams = 0 then some ((0 : Int32), v_all, v_days, v_search, v_found, v_free, v_stamps, v_ways) else (f_X2_look v_all v_days v_search v_found v_free v_p1_teams v_p1_days v_p1_rows).bind (fun t => match t with | (v_all_2, v_days_3, v_search_4, v_found_5, v_free_6) => (f_X2_countFrom v_search_4 v_free_6 9 (v_stamps, v_ways, v_all_2, (0 : Int32))).bind (fun t => match t with | (r_8, v_stamps_9, v_ways_10) => some (r_8, v_all_2, v_days_3, v_search_4, v_found_5, v_free_6, v_stamps_9, v_ways_10)))
set_option maxHeartbeats 4000000 in
set_option maxRecDepth 100000 in
theorem c_X2_countAll (l : Launch) (D : va_G) (cI cZ cP : ClassId) (a_this : Nat) (a_found : Nat) (a_free : Nat) (a_ends : Nat) (a_stamps : Nat) (a_ways : Nat) (a_p1 : Nat) (a_p1_rows : Nat) (v_all : Int32) (v_days : Int32) (v_search : Int32) (v_found : Nat → Int32) (v_free : Nat → Int32) (v_ends : Nat → Int32) (v_stamps : Nat → Int32) (v_ways : Nat → Int32) (v_p1_teams : Int32) (v_p1_days : Int32) (v_p1_rows : Nat → Int32) (r : Int32) (nv_all : Int32) (nv_days : Int32) (nv_search : Int32) (nv_found : Nat → Int32) (nv_free : Nat → Int32) (nv_stamps : Nat → Int32) (nv_ways : Nat → Int32) (h : f_X2_countAll v_all v_days v_search v_found v_free v_stamps v_ways v_p1_teams v_p1_days v_p1_rows = some (r, nv_all, nv_days, nv_search, nv_found, nv_free, nv_stamps, nv_ways)) : rd_I l yX2_countAll wsX2_countAll { frames := 11, cells := 0, slots := 0, locals := 292 } [.ref a_this, .ref a_p1] D (tyA cI cZ cP) ((wd_X2 cI cZ cP a_this a_found a_free a_ends a_stamps a_ways v_all v_days v_search v_found v_free v_ends v_stamps v_ways) ++ (wd_X3 cI cZ cP a_p1 a_p1_rows v_p1_teams v_p1_days v_p1_rows)) ((wd_X2 cI cZ cP a_this a_found a_free a_ends a_stamps a_ways nv_all nv_days nv_search nv_found nv_free v_ends nv_stamps nv_ways) ++ (wd_X3 cI cZ cP a_p1 a_p1_rows v_p1_teams v_p1_days v_p1_rows)) r := by
  unfold f_X2_countAll at h
  refine rd_enterI (cc := cX2_countAll) (maxL := 2) (by decide) rfl (Nat.le_of_ble_eq_true rfl) ?_
  intro p e s m args below meth c A Q ls hx hb hml hown hts hA hK hP hD hS hl hret
  have hl : lv_has ls 2 [(0, .ref a_this), (1, .ref a_p1)] := hl
  have kw1 := hts (.fieldLink RX2 27 "RoundDays$Plan" "teams" "I") (List.mem_of_getElem? (i := 1) rfl)
  have kw2 := hts (.fieldLink RX2 37 "RoundDays$Finder" "all" "I") (List.mem_of_getElem? (i := 2) rfl)
  refine lv_aload_n hx hb dX2_countAll_0 rfl (lv_at hl 1 rfl) ?_
  refine va_get (D := D) (ci := 3) (v := .int v_p1_teams) (C := RX3) (T := TX3) (N := 3) hx hb hts in_X2_countAll_X3 hown hK hP 6 rfl rfl 0 (by decide) kw1 (fun _ h9 => h9) rfl dX2_countAll_1 ?_
  refine lv_if_ne (tgt := 9) hx hb dX2_countAll_4 (by decide) (fun c_1 => ?_) (fun c_1 => ?_)
  · replace h := it_neg h c_1
    refine lv_aload_n hx hb dX2_countAll_9 rfl (lv_at hl 0 rfl) ?_
    refine lv_aload_n hx hb dX2_countAll_10 rfl (lv_at hl 1 rfl) ?_
    obtain ⟨⟨v_all_2, v_days_3, v_search_4, v_found_5, v_free_6⟩, hc_7, h⟩ := bi_some h
    refine rd_callVv [.ref a_p1] [] (wr := []) (W1 := (wd_X2 cI cZ cP a_this a_found a_free a_ends a_stamps a_ways v_all_2 v_days_3 v_search_4 v_found_5 v_free_6 v_ends v_stamps v_ways) ++ (wd_X3 cI cZ cP a_p1 a_p1_rows v_p1_teams v_p1_days v_p1_rows)) (ci := 2) ⟨hx, hb, hml, hown, hts⟩ (c_X2_look l D cI cZ cP a_this a_found a_free a_ends a_stamps a_ways a_p1 a_p1_rows v_all v_days v_search v_found v_free v_ends v_stamps v_ways v_p1_teams v_p1_days v_p1_rows v_all_2 v_days_3 v_search_4 v_found_5 v_free_6 hc_7) (cwV 1 hts gX2_countAll_X2_look rfl rfl rfl (by decide +kernel) ⟨Nat.le_of_ble_eq_true rfl, Nat.le_of_ble_eq_true rfl⟩) rfl rfl hl.1 (Nat.le_of_ble_eq_true rfl) dX2_countAll_11 ⟨Nat.zero_le _, Nat.zero_le _⟩ hK hP hD hS hA rfl rfl [0, 1, 2, 3, 4, 5, 6, 7] [] [0, 1, 2, 3, 4, 5, 6, 7] ⟨⟨rfl, rfl, rfl⟩, by decide⟩ (fun H locs hP hD hS => ?_)
    refine lv_aload_n hx hb dX2_countAll_14 rfl (lv_at hl 0 rfl) ?_
    refine lv_aload_n hx hb dX2_countAll_15 rfl (lv_at hl 0 rfl) ?_
    refine va_get (D := D) (ci := 2) (v := .int v_all_2) (C := RX2) (T := TX2) (N := 8) hx hb hts in_X2_countAll_X2 hown hK hP 0 rfl rfl 2 (by decide) kw2 (fun _ h9 => h9) rfl dX2_countAll_16 ?_
    refine lv_iconst (v := 0) hx hb dX2_countAll_19 (by decide) ?_
    obtain ⟨⟨r_8, v_stamps_9, v_ways_10⟩, hc_11, h⟩ := bi_some h
    refine rd_callVi [.int v_all_2, .int (0 : Int32)] [] (wr := [(a_p1, .inr (3, [.int v_p1_teams, .int v_p1_days, .ref a_p1_rows])), (a_p1_rows, .inl (cI, 182, .inl v_p1_rows))]) (W1 := (wd_X2 cI cZ cP a_this a_found a_free a_ends a_stamps a_ways v_all_2 v_days_3 v_search_4 v_found_5 v_free_6 v_ends v_stamps_9 v_ways_10) ++ (wd_X3 cI cZ cP a_p1 a_p1_rows v_p1_teams v_p1_days v_p1_rows)) (ci := 2) ⟨hx, hb, hml, hown, hts⟩ (c_X2_countFrom 9 l D cI cZ cP a_this a_found a_free a_ends a_stamps a_ways v_all_2 v_days_3 v_search_4 v_found_5 v_free_6 v_ends v_stamps v_ways v_all_2 (0 : Int32) r_8 v_stamps_9 v_ways_10 hc_11) (cwV 2 hts gX2_countAll_X2_countFrom rfl rfl rfl (by decide +kernel) ⟨Nat.le_of_ble_eq_true rfl, Nat.le_of_ble_eq_true rfl⟩) rfl rfl hl.1 (Nat.le_of_ble_eq_true rfl) dX2_countAll_20 ⟨Nat.zero_le _, Nat.zero_le _⟩ hK hP hD hS hA rfl rfl [0, 1, 2, 3, 4, 5] [6, 7] [2, 3, 4, 5, 6, 7, 0, 1] ⟨⟨rfl, rfl, rfl⟩, by decide⟩ (fun H locs hP hD hS => ?_)
    obtain ⟨rfl, rfl, rfl, rfl, rfl, rfl, rfl, rfl⟩ := inj8 h
    exact hret dX2_countAll_23 hP hD hS
  · replace h := it_pos h c_1
    refine lv_iconst (v := 0) hx hb dX2_countAll_7 (by decide) ?_
    obtain ⟨rfl, rfl, rfl, rfl, rfl, rfl, rfl, rfl⟩ := inj8 h
    exact hret dX2_countAll_8 hP hD hS
theorem in_X2_firstFrom_X2 : ∀ w ∈ wsX20, w ∈ wsX2_firstFrom := by decide +kernel
def f_X2_firstFrom_L51 (self_ : (Nat → Int32) × (Nat → Int32) × Int32 × Int32 → Option (Int32 × (Nat → Int32) × (Nat → Int32))) (v_search : Int32) (v_free : Nat → Int32) (p1 : Int32) (p2 : Int32) (x3 : Int32) (x4 : Int32) (self : Int32 × (Nat → Int32) × (Nat → Int32) → Option (Int32 × (Nat → Int32) × (Nat → Int32))) : Int32 × (Nat → Int32) × (Nat → Int32) → Option (Int32 × (Nat → Int32) × (Nat → Int32)) := fun st => match st with | (x5, v_found, v_stamps) => if (14 : Int32) ≤ x5 then (f_X2_slot p1).bind (fun r_2 => if inb r_2 4096 then bd (upd v_stamps r_2.toNatClampNeg v_search) (fun v_stamps_5 => some ((0 : Int32), v_found, v_stamps_5)) else none) else if ((x4 >>> (x5 &&& (31 : Int32))) &&& (1 : Int32)) = (1 : Int32) then (self_ (v_found, v_stamps, (p1 &&& ((((1 : Int32) <<< (x3 &&& (31 : Int32))) ||| ((1 : Int32) <<< (x5 &&& (31 : Int32)))) ^^^ (-1 : Int32))), (x3 + (1 : Int32)))).bind (fun t => match t with | (r_8, v_found_9, v_stamps_10) => if r_8 = 0 then bd (x5 + (1 : Int32)) (fun x5_13 => self (x5_13, v_found_9, v_stamps_10)) else if inb x3 14 then bd (upd v_found_9 x3.toNatClampNeg x5) (fun v_found_15 => if inb x5 14 then bd (upd v_found_15 x5.toNatClampNeg x3) (fun v_found_17 => some ((1 : Int32), v_found_17, v_stamps_10)) else none) else none) else bd (x5 + (1 : Int32)) (fun x5_7 => self (x5_7, v_found, v_stamps))
def f_X2_firstFrom_B (v_search : Int32) (v_free : Nat → Int32) (self_ : (Nat → Int32) × (Nat → Int32) × Int32 × Int32 → Option (Int32 × (Nat → Int32) × (Nat → Int32))) : (Nat → Int32) × (Nat → Int32) × Int32 × Int32 → Option (Int32 × (Nat → Int32) × (Nat → Int32)) := fun st => match st with | (v_found, v_stamps, p1, p2) => if p1 = 0 then some ((1 : Int32), v_found, v_stamps) else (f_X2_lowest p1 p2).bind (fun r_19 => if (14 : Int32) ≤ r_19 then some ((0 : Int32), v_found, v_stamps) else (f_X2_slot p1).bind (fun r_22 => if inb r_22 4096 then if (v_stamps r_22.toNatClampNeg) = v_search then some ((0 : Int32), v_found, v_stamps) else if inb r_19 14 then bd ((v_free r_19.toNatClampNeg) &&& p1) (fun x4_27 => bd (r_19 + (1 : Int32)) (fun x5_28 => lp (f_X2_firstFrom_L51 self_ v_search v_free p1 p2 r_19 x4_27) 20000 (x5_28, v_found, v_stamps))) else none else none))
def f_X2_firstFrom (v_search : Int32) (v_free : Nat → Int32) : Nat → (Nat → Int32) × (Nat → Int32) × Int32 × Int32 → Option (Int32 × (Nat → Int32) × (Nat → Int32)) := lp (f_X2_firstFrom_B v_search v_free)
set_option maxHeartbeats 4000000 in
set_option maxRecDepth 100000 in
theorem c_X2_firstFrom (dp : Nat) (l : Launch) (D : va_G) (cI cZ cP : ClassId) (a_this : Nat) (a_found : Nat) (a_free : Nat) (a_ends : Nat) (a_stamps : Nat) (a_ways : Nat) (v_all : Int32) (v_days : Int32) (v_search : Int32) (v_found : Nat → Int32) (v_free : Nat → Int32) (v_ends : Nat → Int32) (v_stamps : Nat → Int32) (v_ways : Nat → Int32) (p1 : Int32) (p2 : Int32) (r : Int32) (nv_found : Nat → Int32) (nv_stamps : Nat → Int32) (h : f_X2_firstFrom v_search v_free dp (v_found, v_stamps, p1, p2) = some (r, nv_found, nv_stamps)) : rd_I l yX2_firstFrom wsX2_firstFrom { frames := dp + 1, cells := 0, slots := 0, locals := 25 * dp + 22 } [.ref a_this, .int p1, .int p2] D (tyA cI cZ cP) (wd_X2 cI cZ cP a_this a_found a_free a_ends a_stamps a_ways v_all v_days v_search v_found v_free v_ends v_stamps v_ways) (wd_X2 cI cZ cP a_this a_found a_free a_ends a_stamps a_ways v_all v_days v_search nv_found v_free v_ends nv_stamps v_ways) r := by
  induction dp generalizing v_found v_stamps p1 p2 r nv_found nv_stamps with
  | zero => cases h
  | succ dp ih =>
    replace h : f_X2_firstFrom_B v_search v_free (f_X2_firstFrom v_search v_free dp) (v_found, v_stamps, p1, p2) = some (r, nv_found, nv_stamps) := h
    have hself_ := ih
    generalize f_X2_firstFrom v_search v_free dp = self_ at h hself_
    clear ih
    unfold f_X2_firstFrom_B at h
    refine rd_enterZ (cc := cX2_firstFrom) (maxL := 6) (by decide) rfl (Nat.le_of_ble_eq_true rfl) ?_
    intro p e s m args below meth c A Q ls hx hb hml hown hts hA hK hP hD hS hl hret
    have hl : lv_has ls 6 [(0, .ref a_this), (1, .int p1), (2, .int p2)] := hl
    have kw1 := hts (.fieldLink RX2 21 "RoundDays$Finder" "stamps" "[I") (List.mem_of_getElem? (i := 1) rfl)
    have kw2 := hts (.fieldLink RX2 62 "RoundDays$Finder" "search" "I") (List.mem_of_getElem? (i := 2) rfl)
    have kw3 := hts (.fieldLink RX2 15 "RoundDays$Finder" "free" "[I") (List.mem_of_getElem? (i := 3) rfl)
    have kw4 := hts (.fieldLink RX2 9 "RoundDays$Finder" "found" "[I") (List.mem_of_getElem? (i := 4) rfl)
    have w51 : ∀ x3 : Int32, ∀ x4 : Int32, ∀ n : Nat, ∀ (x5 : Int32) (v_found : Nat → Int32) (v_stamps : Nat → Int32), lp (f_X2_firstFrom_L51 self_ v_search v_free p1 p2 x3 x4) n (x5, v_found, v_stamps) = some (r, nv_found, nv_stamps) → ∀ (H : Heap) (locs : List Loc) (ls : Array Slot), va_P D vwCl (wd_X2 cI cZ cP a_this a_found a_free a_ends a_stamps a_ways v_all v_days v_search v_found v_free v_ends v_stamps v_ways) H → va_D A (wd_X2 cI cZ cP a_this a_found a_free a_ends a_stamps a_ways v_all v_days v_search v_found v_free v_ends v_stamps v_ways) → va_S A s.heap H locs → lv_has ls 6 [(0, .ref a_this), (1, .int p1), (3, .int x3), (4, .int x4), (5, .int x5)] → W p l e { frames := dp + 1 + 1, cells := 0, slots := 0, locals := 25 * (dp + 1) + 22 } s m args below meth c H locs 0 0 Q (F0 m 51 ls []) := by
      intro x3 x4
      refine fun n x5 v_found v_stamps h => lp_walk (b := f_X2_firstFrom_L51 self_ v_search v_free p1 p2 x3 x4) (r := (r, nv_found, nv_stamps)) (P := fun st => match st with | (x5, v_found, v_stamps) => ∀ (H : Heap) (locs : List Loc) (ls : Array Slot), va_P D vwCl (wd_X2 cI cZ cP a_this a_found a_free a_ends a_stamps a_ways v_all v_days v_search v_found v_free v_ends v_stamps v_ways) H → va_D A (wd_X2 cI cZ cP a_this a_found a_free a_ends a_stamps a_ways v_all v_days v_search v_found v_free v_ends v_stamps v_ways) → va_S A s.heap H locs → lv_has ls 6 [(0, .ref a_this), (1, .int p1), (3, .int x3), (4, .int x4), (5, .int x5)] → W p l e { frames := dp + 1 + 1, cells := 0, slots := 0, locals := 25 * (dp + 1) + 22 } s m args below meth c H locs 0 0 Q (F0 m 51 ls [])) (fun self hself0 st h => ?_) n (x5, v_found, v_stamps) h
      obtain ⟨x5, v_found, v_stamps⟩ := st
      have hself : ∀ (x5 : Int32) (v_found : Nat → Int32) (v_stamps : Nat → Int32), self (x5, v_found, v_stamps) = some (r, nv_found, nv_stamps) → ∀ (H : Heap) (locs : List Loc) (ls : Array Slot), va_P D vwCl (wd_X2 cI cZ cP a_this a_found a_free a_ends a_stamps a_ways v_all v_days v_search v_found v_free v_ends v_stamps v_ways) H → va_D A (wd_X2 cI cZ cP a_this a_found a_free a_ends a_stamps a_ways v_all v_days v_search v_found v_free v_ends v_stamps v_ways) → va_S A s.heap H locs → lv_has ls 6 [(0, .ref a_this), (1, .int p1), (3, .int x3), (4, .int x4), (5, .int x5)] → W p l e { frames := dp + 1 + 1, cells := 0, slots := 0, locals := 25 * (dp + 1) + 22 } s m args below meth c H locs 0 0 Q (F0 m 51 ls []) := fun x5 v_found v_stamps h => hself0 (x5, v_found, v_stamps) h
      clear hself0
      intro H locs ls hP hD hS hl
      replace h : (if (14 : Int32) ≤ x5 then (f_X2_slot p1).bind (fun r_2 => if inb r_2 4096 then bd (upd v_stamps r_2.toNatClampNeg v_search) (fun v_stamps_5 => some ((0 : Int32), v_found, v_stamps_5)) else none) else if ((x4 >>> (x5 &&& (31 : Int32))) &&& (1 : Int32)) = (1 : Int32) then (self_ (v_found, v_stamps, (p1 &&& ((((1 : Int32) <<< (x3 &&& (31 : Int32))) ||| ((1 : Int32) <<< (x5 &&& (31 : Int32)))) ^^^ (-1 : Int32))), (x3 + (1 : Int32)))).bind (fun t => match t with | (r_8, v_found_9, v_stamps_10) => if r_8 = 0 then bd (x5 + (1 : Int32)) (fun x5_13 => self (x5_13, v_found_9, v_stamps_10)) else if inb x3 14 then bd (upd v_found_9 x3.toNatClampNeg x5) (fun v_found_15 => if inb x5 14 then bd (upd v_found_15 x5.toNatClampNeg x3) (fun v_found_17 => some ((1 : Int32), v_found_17, v_stamps_10)) else none) else none) else bd (x5 + (1 : Int32)) (fun x5_7 => self (x5_7, v_found, v_stamps))) = some (r, nv_found, nv_stamps) := h
      refine lv_iload hx hb dX2_firstFrom_51 (lv_at hl 4 rfl) ?_
      refine lv_bipush (v := 14) hx hb dX2_firstFrom_53 (by decide) ?_
      refine lv_icmp_ge (tgt := 115) hx hb dX2_firstFrom_55 (by decide) (fun c_1 => ?_) (fun c_1 => ?_)
      · replace h := it_pos h c_1
        refine lv_aload_n hx hb dX2_firstFrom_115 rfl (lv_at hl 0 rfl) ?_
        refine va_get (D := D) (ci := 2) (v := .ref a_stamps) (C := RX2) (T := TX2) (N := 8) hx hb hts in_X2_firstFrom_X2 hown hK hP 0 rfl rfl 5 (by decide) kw1 (fun _ h9 => h9) rfl dX2_firstFrom_116 ?_
        refine lv_iload_n hx hb dX2_firstFrom_119 rfl (lv_at hl 1 rfl) ?_
        obtain ⟨r_2, hc_3, h⟩ := bi_some h
        refine rd_callSi [.int p1] [.ref a_stamps] (wr := [(a_this, .inr (2, [.ref a_found, .ref a_free, .int v_all, .int v_days, .ref a_ends, .ref a_stamps, .ref a_ways, .int v_search])), (a_found, .inl (cI, 14, .inl v_found)), (a_free, .inl (cI, 14, .inl v_free)), (a_ends, .inl (cI, 182, .inl v_ends)), (a_stamps, .inl (cI, 4096, .inl v_stamps)), (a_ways, .inl (cI, 4096, .inl v_ways))]) (W1 := wd_X2 cI cZ cP a_this a_found a_free a_ends a_stamps a_ways v_all v_days v_search v_found v_free v_ends v_stamps v_ways) ⟨hx, hb, hml, hown, hts⟩ (c_X2_slot l D cI cZ cP p1 r_2 hc_3) (va_cwS 1 hts gX2_firstFrom_X2_slot rfl rfl rfl (by decide +kernel) ⟨by show _ ≤ _; dsimp only; omega, by show _ ≤ _; dsimp only; omega⟩) rfl rfl hl.1 (Nat.le_of_ble_eq_true rfl) dX2_firstFrom_120 ⟨Nat.zero_le _, Nat.zero_le _⟩ hK hP hD hS hA [] [0, 1, 2, 3, 4, 5] [0, 1, 2, 3, 4, 5] ⟨⟨rfl, rfl, rfl⟩, by decide⟩ (fun H locs hP hD hS => ?_)
        refine lv_aload_n hx hb dX2_firstFrom_123 rfl (lv_at hl 0 rfl) ?_
        refine va_get (D := D) (ci := 2) (v := .int v_search) (C := RX2) (T := TX2) (N := 8) hx hb hts in_X2_firstFrom_X2 hown hK hP 0 rfl rfl 7 (by decide) kw2 (fun _ h9 => h9) rfl dX2_firstFrom_124 ?_
        obtain ⟨hi_4, h⟩ := gd_some h
        obtain ⟨v_stamps_5, ev_stamps_5, h⟩ := bd_some h
        refine rd_iast (W1 := wd_X2 cI cZ cP a_this a_found a_free a_ends a_stamps a_ways v_all v_days v_search v_found v_free v_ends v_stamps_5 v_ways) hx hb hK hP hD hS 4 0 rfl rfl hi_4 ev_stamps_5 rfl dX2_firstFrom_127 (fun H locs hP hD hS => ?_)
        refine lv_iconst (v := 0) hx hb dX2_firstFrom_128 (by decide) ?_
        obtain ⟨rfl, rfl, rfl⟩ := inj3 h
        exact hret (by decide) dX2_firstFrom_129 hP hD hS
      · replace h := it_neg h c_1
        refine lv_iload hx hb dX2_firstFrom_58 (lv_at hl 3 rfl) ?_
        refine lv_iload hx hb dX2_firstFrom_60 (lv_at hl 4 rfl) ?_
        refine lv_ishr hx hb dX2_firstFrom_62 ?_
        refine lv_iconst (v := 1) hx hb dX2_firstFrom_63 (by decide) ?_
        refine lv_iand hx hb dX2_firstFrom_64 ?_
        refine lv_iconst (v := 1) hx hb dX2_firstFrom_65 (by decide) ?_
        refine lv_icmp_ne (tgt := 109) hx hb dX2_firstFrom_66 (by decide) (fun c_6 => ?_) (fun c_6 => ?_)
        · replace h := it_neg h c_6
          obtain ⟨x5_7, ex5_7, h⟩ := bd_some h
          refine lv_iinc (v := x5_7) (lv' := [(5, .int x5_7), (0, .ref a_this), (1, .int p1), (3, .int x3), (4, .int x4)]) hx hb dX2_firstFrom_109 hl (k := 4) rfl (by rw [ex5_7]; rfl) (by decide) rfl (fun ls hl => ?_)
          refine lv_goto (tgt := 51) hx hb dX2_firstFrom_112 (by decide) ?_
          exact hself x5_7 v_found v_stamps h _ _ _ hP hD hS (lv_sub hl [1, 2, 3, 4, 0] rfl)
        · replace h := it_pos h c_6
          refine lv_aload_n hx hb dX2_firstFrom_69 rfl (lv_at hl 0 rfl) ?_
          refine lv_iload_n hx hb dX2_firstFrom_70 rfl (lv_at hl 1 rfl) ?_
          refine lv_iconst (v := 1) hx hb dX2_firstFrom_71 (by decide) ?_
          refine lv_iload_n hx hb dX2_firstFrom_72 rfl (lv_at hl 2 rfl) ?_
          refine lv_ishl hx hb dX2_firstFrom_73 ?_
          refine lv_iconst (v := 1) hx hb dX2_firstFrom_74 (by decide) ?_
          refine lv_iload hx hb dX2_firstFrom_75 (lv_at hl 4 rfl) ?_
          refine lv_ishl hx hb dX2_firstFrom_77 ?_
          refine lv_ior hx hb dX2_firstFrom_78 ?_
          refine lv_iconst (v := -1) hx hb dX2_firstFrom_79 (by decide) ?_
          refine lv_ixor hx hb dX2_firstFrom_80 ?_
          refine lv_iand hx hb dX2_firstFrom_81 ?_
          refine lv_iload_n hx hb dX2_firstFrom_82 rfl (lv_at hl 2 rfl) ?_
          refine lv_iconst (v := 1) hx hb dX2_firstFrom_83 (by decide) ?_
          refine lv_iadd hx hb dX2_firstFrom_84 ?_
          obtain ⟨⟨r_8, v_found_9, v_stamps_10⟩, hc_11, h⟩ := bi_some h
          refine rd_callVi [.int (p1 &&& ((((1 : Int32) <<< (x3 &&& (31 : Int32))) ||| ((1 : Int32) <<< (x5 &&& (31 : Int32)))) ^^^ (-1 : Int32))), .int (x3 + (1 : Int32))] [] (wr := []) (W1 := wd_X2 cI cZ cP a_this a_found a_free a_ends a_stamps a_ways v_all v_days v_search v_found_9 v_free v_ends v_stamps_10 v_ways) (ci := 2) ⟨hx, hb, hml, hown, hts⟩ (hself_  v_found v_stamps (p1 &&& ((((1 : Int32) <<< (x3 &&& (31 : Int32))) ||| ((1 : Int32) <<< (x5 &&& (31 : Int32)))) ^^^ (-1 : Int32))) (x3 + (1 : Int32)) r_8 v_found_9 v_stamps_10 hc_11) (cwV 2 hts gX2_firstFrom_X2_firstFrom rfl rfl rfl (by decide +kernel) ⟨by show _ ≤ _; dsimp only; omega, by show _ ≤ _; dsimp only; omega⟩) rfl rfl hl.1 (Nat.le_of_ble_eq_true rfl) dX2_firstFrom_85 ⟨Nat.zero_le _, Nat.zero_le _⟩ hK hP hD hS hA rfl rfl [0, 1, 2, 3, 4, 5] [] [0, 1, 2, 3, 4, 5] ⟨⟨rfl, rfl, rfl⟩, by decide⟩ (fun H locs hP hD hS => ?_)
          refine lv_if_eq (tgt := 109) hx hb dX2_firstFrom_88 (by decide) (fun c_12 => ?_) (fun c_12 => ?_)
          · replace h := it_pos h c_12
            obtain ⟨x5_13, ex5_13, h⟩ := bd_some h
            refine lv_iinc (v := x5_13) (lv' := [(5, .int x5_13), (0, .ref a_this), (1, .int p1), (3, .int x3), (4, .int x4)]) hx hb dX2_firstFrom_109 hl (k := 4) rfl (by rw [ex5_13]; rfl) (by decide) rfl (fun ls hl => ?_)
            refine lv_goto (tgt := 51) hx hb dX2_firstFrom_112 (by decide) ?_
            exact hself x5_13 v_found_9 v_stamps_10 h _ _ _ hP hD hS (lv_sub hl [1, 2, 3, 4, 0] rfl)
          · replace h := it_neg h c_12
            refine lv_aload_n hx hb dX2_firstFrom_91 rfl (lv_at hl 0 rfl) ?_
            refine va_get (D := D) (ci := 2) (v := .ref a_found) (C := RX2) (T := TX2) (N := 8) hx hb hts in_X2_firstFrom_X2 hown hK hP 0 rfl rfl 0 (by decide) kw4 (fun _ h9 => h9) rfl dX2_firstFrom_92 ?_
            refine lv_iload_n hx hb dX2_firstFrom_95 rfl (lv_at hl 2 rfl) ?_
            refine lv_iload hx hb dX2_firstFrom_96 (lv_at hl 4 rfl) ?_
            obtain ⟨hi_14, h⟩ := gd_some h
            obtain ⟨v_found_15, ev_found_15, h⟩ := bd_some h
            refine rd_iast (W1 := wd_X2 cI cZ cP a_this a_found a_free a_ends a_stamps a_ways v_all v_days v_search v_found_15 v_free v_ends v_stamps_10 v_ways) hx hb hK hP hD hS 1 0 rfl rfl hi_14 ev_found_15 rfl dX2_firstFrom_98 (fun H locs hP hD hS => ?_)
            refine lv_aload_n hx hb dX2_firstFrom_99 rfl (lv_at hl 0 rfl) ?_
            refine va_get (D := D) (ci := 2) (v := .ref a_found) (C := RX2) (T := TX2) (N := 8) hx hb hts in_X2_firstFrom_X2 hown hK hP 0 rfl rfl 0 (by decide) kw4 (fun _ h9 => h9) rfl dX2_firstFrom_100 ?_
            refine lv_iload hx hb dX2_firstFrom_103 (lv_at hl 4 rfl) ?_
            refine lv_iload_n hx hb dX2_firstFrom_105 rfl (lv_at hl 2 rfl) ?_
            obtain ⟨hi_16, h⟩ := gd_some h
            obtain ⟨v_found_17, ev_found_17, h⟩ := bd_some h
            refine rd_iast (W1 := wd_X2 cI cZ cP a_this a_found a_free a_ends a_stamps a_ways v_all v_days v_search v_found_17 v_free v_ends v_stamps_10 v_ways) hx hb hK hP hD hS 1 0 rfl rfl hi_16 ev_found_17 rfl dX2_firstFrom_106 (fun H locs hP hD hS => ?_)
            refine lv_iconst (v := 1) hx hb dX2_firstFrom_107 (by decide) ?_
            obtain ⟨rfl, rfl, rfl⟩ := inj3 h
            exact hret (by decide) dX2_firstFrom_108 hP hD hS
    refine lv_iload_n hx hb dX2_firstFrom_0 rfl (lv_at hl 1 rfl) ?_
    refine lv_if_ne (tgt := 6) hx hb dX2_firstFrom_1 (by decide) (fun c_18 => ?_) (fun c_18 => ?_)
    · replace h := it_neg h c_18
      refine lv_iload_n hx hb dX2_firstFrom_6 rfl (lv_at hl 1 rfl) ?_
      refine lv_iload_n hx hb dX2_firstFrom_7 rfl (lv_at hl 2 rfl) ?_
      obtain ⟨r_19, hc_20, h⟩ := bi_some h
      refine rd_callSi [.int p1, .int p2] [] (wr := [(a_this, .inr (2, [.ref a_found, .ref a_free, .int v_all, .int v_days, .ref a_ends, .ref a_stamps, .ref a_ways, .int v_search])), (a_found, .inl (cI, 14, .inl v_found)), (a_free, .inl (cI, 14, .inl v_free)), (a_ends, .inl (cI, 182, .inl v_ends)), (a_stamps, .inl (cI, 4096, .inl v_stamps)), (a_ways, .inl (cI, 4096, .inl v_ways))]) (W1 := wd_X2 cI cZ cP a_this a_found a_free a_ends a_stamps a_ways v_all v_days v_search v_found v_free v_ends v_stamps v_ways) ⟨hx, hb, hml, hown, hts⟩ (c_X2_lowest l D cI cZ cP p1 p2 r_19 hc_20) (va_cwS 2 hts gX2_firstFrom_X2_lowest rfl rfl rfl (by decide +kernel) ⟨by show _ ≤ _; dsimp only; omega, by show _ ≤ _; dsimp only; omega⟩) rfl rfl hl.1 (Nat.le_of_ble_eq_true rfl) dX2_firstFrom_8 ⟨Nat.zero_le _, Nat.zero_le _⟩ hK hP hD hS hA [] [0, 1, 2, 3, 4, 5] [0, 1, 2, 3, 4, 5] ⟨⟨rfl, rfl, rfl⟩, by decide⟩ (fun H locs hP hD hS => ?_)
      refine lv_istore_n (lv' := [(3, .int r_19), (0, .ref a_this), (1, .int p1), (2, .int p2)]) hx hb dX2_firstFrom_11 rfl hl (by decide) rfl (fun ls hl => ?_)
      refine lv_iload_n hx hb dX2_firstFrom_12 rfl (lv_at hl 0 rfl) ?_
      refine lv_bipush (v := 14) hx hb dX2_firstFrom_13 (by decide) ?_
      refine lv_icmp_ge (tgt := 34) hx hb dX2_firstFrom_15 (by decide) (fun c_21 => ?_) (fun c_21 => ?_)
      · replace h := it_pos h c_21
        refine lv_iconst (v := 0) hx hb dX2_firstFrom_34 (by decide) ?_
        obtain ⟨rfl, rfl, rfl⟩ := inj3 h
        exact hret (by decide) dX2_firstFrom_35 hP hD hS
      · replace h := it_neg h c_21
        refine lv_aload_n hx hb dX2_firstFrom_18 rfl (lv_at hl 1 rfl) ?_
        refine va_get (D := D) (ci := 2) (v := .ref a_stamps) (C := RX2) (T := TX2) (N := 8) hx hb hts in_X2_firstFrom_X2 hown hK hP 0 rfl rfl 5 (by decide) kw1 (fun _ h9 => h9) rfl dX2_firstFrom_19 ?_
        refine lv_iload_n hx hb dX2_firstFrom_22 rfl (lv_at hl 2 rfl) ?_
        obtain ⟨r_22, hc_23, h⟩ := bi_some h
        refine rd_callSi [.int p1] [.ref a_stamps] (wr := [(a_this, .inr (2, [.ref a_found, .ref a_free, .int v_all, .int v_days, .ref a_ends, .ref a_stamps, .ref a_ways, .int v_search])), (a_found, .inl (cI, 14, .inl v_found)), (a_free, .inl (cI, 14, .inl v_free)), (a_ends, .inl (cI, 182, .inl v_ends)), (a_stamps, .inl (cI, 4096, .inl v_stamps)), (a_ways, .inl (cI, 4096, .inl v_ways))]) (W1 := wd_X2 cI cZ cP a_this a_found a_free a_ends a_stamps a_ways v_all v_days v_search v_found v_free v_ends v_stamps v_ways) ⟨hx, hb, hml, hown, hts⟩ (c_X2_slot l D cI cZ cP p1 r_22 hc_23) (va_cwS 1 hts gX2_firstFrom_X2_slot rfl rfl rfl (by decide +kernel) ⟨by show _ ≤ _; dsimp only; omega, by show _ ≤ _; dsimp only; omega⟩) rfl rfl hl.1 (Nat.le_of_ble_eq_true rfl) dX2_firstFrom_23 ⟨Nat.zero_le _, Nat.zero_le _⟩ hK hP hD hS hA [] [0, 1, 2, 3, 4, 5] [0, 1, 2, 3, 4, 5] ⟨⟨rfl, rfl, rfl⟩, by decide⟩ (fun H locs hP hD hS => ?_)
        obtain ⟨hi_24, h⟩ := gd_some h
        refine va_iald hx hb hK hP 4 0 rfl rfl (inb_in hi_24) dX2_firstFrom_26 ?_
        refine lv_aload_n hx hb dX2_firstFrom_27 rfl (lv_at hl 1 rfl) ?_
        refine va_get (D := D) (ci := 2) (v := .int v_search) (C := RX2) (T := TX2) (N := 8) hx hb hts in_X2_firstFrom_X2 hown hK hP 0 rfl rfl 7 (by decide) kw2 (fun _ h9 => h9) rfl dX2_firstFrom_28 ?_
        refine lv_icmp_ne (tgt := 36) hx hb dX2_firstFrom_31 (by decide) (fun c_25 => ?_) (fun c_25 => ?_)
        · replace h := it_neg h c_25
          refine lv_aload_n hx hb dX2_firstFrom_36 rfl (lv_at hl 1 rfl) ?_
          refine va_get (D := D) (ci := 2) (v := .ref a_free) (C := RX2) (T := TX2) (N := 8) hx hb hts in_X2_firstFrom_X2 hown hK hP 0 rfl rfl 1 (by decide) kw3 (fun _ h9 => h9) rfl dX2_firstFrom_37 ?_
          refine lv_iload_n hx hb dX2_firstFrom_40 rfl (lv_at hl 0 rfl) ?_
          obtain ⟨hi_26, h⟩ := gd_some h
          refine va_iald hx hb hK hP 2 0 rfl rfl (inb_in hi_26) dX2_firstFrom_41 ?_
          refine lv_iload_n hx hb dX2_firstFrom_42 rfl (lv_at hl 2 rfl) ?_
          refine lv_iand hx hb dX2_firstFrom_43 ?_
          obtain ⟨x4_27, ex4_27, h⟩ := bd_some h
          refine rd_top ex4_27 ?_
          refine lv_istore (lv' := [(4, .int x4_27), (3, .int r_19), (0, .ref a_this), (1, .int p1), (2, .int p2)]) hx hb dX2_firstFrom_44 hl (by decide) rfl (fun ls hl => ?_)
          refine lv_iload_n hx hb dX2_firstFrom_46 rfl (lv_at hl 1 rfl) ?_
          refine lv_iconst (v := 1) hx hb dX2_firstFrom_47 (by decide) ?_
          refine lv_iadd hx hb dX2_firstFrom_48 ?_
          obtain ⟨x5_28, ex5_28, h⟩ := bd_some h
          refine rd_top ex5_28 ?_
          refine lv_istore (lv' := [(5, .int x5_28), (4, .int x4_27), (3, .int r_19), (0, .ref a_this), (1, .int p1), (2, .int p2)]) hx hb dX2_firstFrom_49 hl (by decide) rfl (fun ls hl => ?_)
          exact w51 r_19 x4_27 20000 x5_28 v_found v_stamps h _ _ _ hP hD hS (lv_sub hl [3, 4, 2, 1, 0] rfl)
        · replace h := it_pos h c_25
          refine lv_iconst (v := 0) hx hb dX2_firstFrom_34 (by decide) ?_
          obtain ⟨rfl, rfl, rfl⟩ := inj3 h
          exact hret (by decide) dX2_firstFrom_35 hP hD hS
    · replace h := it_pos h c_18
      refine lv_iconst (v := 1) hx hb dX2_firstFrom_4 (by decide) ?_
      obtain ⟨rfl, rfl, rfl⟩ := inj3 h
      exact hret (by decide) dX2_firstFrom_5 hP hD hS
theorem in_X2_lookAtEnds_X2 : ∀ w ∈ wsX20, w ∈ wsX2_lookAtEnds := by decide +kernel
theorem in_X2_lookAtEnds_X3 : ∀ w ∈ wsX30, w ∈ wsX2_lookAtEnds := by decide +kernel
def f_X2_lookAtEnds_L12 (k2 : Int32 × (Nat → Int32) → Option ((Nat → Int32))) (v_days : Int32) (v_p1_teams : Int32) (v_p1_days : Int32) (v_p1_rows : Nat → Int32) (x2 : Int32) (self : Int32 × (Nat → Int32) → Option ((Nat → Int32))) : Int32 × (Nat → Int32) → Option ((Nat → Int32)) := fun st => match st with | (x3, v_ends) => if v_p1_teams ≤ x3 then bd (x2 + (1 : Int32)) (fun x2_2 => k2 (x2_2, v_ends)) else (f_X3_partner v_p1_teams v_p1_days v_p1_rows x2 x3).bind (fun r_3 => if inb ((x2 * (14 : Int32)) + x3) 182 then bd (upd v_ends ((x2 * (14 : Int32)) + x3).toNatClampNeg r_3) (fun v_ends_6 => bd (x3 + (1 : Int32)) (fun x3_7 => self (x3_7, v_ends_6))) else none)
def f_X2_lookAtEnds_L2 (v_days : Int32) (v_p1_teams : Int32) (v_p1_days : Int32) (v_p1_rows : Nat → Int32) (self : Int32 × (Nat → Int32) → Option ((Nat → Int32))) : Int32 × (Nat → Int32) → Option ((Nat → Int32)) := fun st => match st with | (x2, v_ends) => if v_days ≤ x2 then some v_ends else lp (f_X2_lookAtEnds_L12 self v_days v_p1_teams v_p1_days v_p1_rows x2) 20000 ((0 : Int32), v_ends)
def f_X2_lookAtEnds (v_days : Int32) (v_ends : Nat → Int32) (v_p1_teams : Int32) (v_p1_days : Int32) (v_p1_rows : Nat → Int32) : Option ((Nat → Int32)) := lp (f_X2_lookAtEnds_L2 v_days v_p1_teams v_p1_days v_p1_rows) 20000 ((0 : Int32), v_ends)
set_option maxHeartbeats 4000000 in
set_option maxRecDepth 100000 in
theorem c_X2_lookAtEnds (l : Launch) (D : va_G) (cI cZ cP : ClassId) (a_this : Nat) (a_found : Nat) (a_free : Nat) (a_ends : Nat) (a_stamps : Nat) (a_ways : Nat) (a_p1 : Nat) (a_p1_rows : Nat) (v_all : Int32) (v_days : Int32) (v_search : Int32) (v_found : Nat → Int32) (v_free : Nat → Int32) (v_ends : Nat → Int32) (v_stamps : Nat → Int32) (v_ways : Nat → Int32) (v_p1_teams : Int32) (v_p1_days : Int32) (v_p1_rows : Nat → Int32) (nv_ends : Nat → Int32) (h : f_X2_lookAtEnds v_days v_ends v_p1_teams v_p1_days v_p1_rows = some nv_ends) : rd_V l yX2_lookAtEnds wsX2_lookAtEnds { frames := 1, cells := 0, slots := 0, locals := 22 } [.ref a_this, .ref a_p1] D (tyA cI cZ cP) ((wd_X2 cI cZ cP a_this a_found a_free a_ends a_stamps a_ways v_all v_days v_search v_found v_free v_ends v_stamps v_ways) ++ (wd_X3 cI cZ cP a_p1 a_p1_rows v_p1_teams v_p1_days v_p1_rows)) ((wd_X2 cI cZ cP a_this a_found a_free a_ends a_stamps a_ways v_all v_days v_search v_found v_free nv_ends v_stamps v_ways) ++ (wd_X3 cI cZ cP a_p1 a_p1_rows v_p1_teams v_p1_days v_p1_rows)) := by
  unfold f_X2_lookAtEnds at h
  refine rd_enterV (cc := cX2_lookAtEnds) (maxL := 4) (by decide) rfl (Nat.le_of_ble_eq_true rfl) ?_
  intro p e s m args below meth c A Q ls hx hb hml hown hts hA hK hP hD hS hl hret
  have hl : lv_has ls 4 [(0, .ref a_this), (1, .ref a_p1)] := hl
  have kw1 := hts (.fieldLink RX2 73 "RoundDays$Finder" "days" "I") (List.mem_of_getElem? (i := 1) rfl)
  have kw2 := hts (.fieldLink RX2 27 "RoundDays$Plan" "teams" "I") (List.mem_of_getElem? (i := 2) rfl)
  have kw3 := hts (.fieldLink RX2 18 "RoundDays$Finder" "ends" "[I") (List.mem_of_getElem? (i := 3) rfl)
  have w12 : ∀ x2 : Int32, ∀ k2 : Int32 × (Nat → Int32) → Option ((Nat → Int32)), (∀ (x2 : Int32) (v_ends : Nat → Int32), k2 (x2, v_ends) = some nv_ends → ∀ (H : Heap) (locs : List Loc) (ls : Array Slot), va_P D vwCl ((wd_X2 cI cZ cP a_this a_found a_free a_ends a_stamps a_ways v_all v_days v_search v_found v_free v_ends v_stamps v_ways) ++ (wd_X3 cI cZ cP a_p1 a_p1_rows v_p1_teams v_p1_days v_p1_rows)) H → va_D A ((wd_X2 cI cZ cP a_this a_found a_free a_ends a_stamps a_ways v_all v_days v_search v_found v_free v_ends v_stamps v_ways) ++ (wd_X3 cI cZ cP a_p1 a_p1_rows v_p1_teams v_p1_days v_p1_rows)) → va_S A s.heap H locs → lv_has ls 4 [(0, .ref a_this), (1, .ref a_p1), (2, .int x2)] → W p l e { frames := 1, cells := 0, slots := 0, locals := 22 } s m args below meth c H locs 0 0 Q (F0 m 2 ls [])) → ∀ n : Nat, ∀ (x3 : Int32) (v_ends : Nat → Int32), lp (f_X2_lookAtEnds_L12 k2 v_days v_p1_teams v_p1_days v_p1_rows x2) n (x3, v_ends) = some nv_ends → ∀ (H : Heap) (locs : List Loc) (ls : Array Slot), va_P D vwCl ((wd_X2 cI cZ cP a_this a_found a_free a_ends a_stamps a_ways v_all v_days v_search v_found v_free v_ends v_stamps v_ways) ++ (wd_X3 cI cZ cP a_p1 a_p1_rows v_p1_teams v_p1_days v_p1_rows)) H → va_D A ((wd_X2 cI cZ cP a_this a_found a_free a_ends a_stamps a_ways v_all v_days v_search v_found v_free v_ends v_stamps v_ways) ++ (wd_X3 cI cZ cP a_p1 a_p1_rows v_p1_teams v_p1_days v_p1_rows)) → va_S A s.heap H locs → lv_has ls 4 [(0, .ref a_this), (1, .ref a_p1), (2, .int x2), (3, .int x3)] → W p l e { frames := 1, cells := 0, slots := 0, locals := 22 } s m args below meth c H locs 0 0 Q (F0 m 12 ls []) := by
    intro x2 k2 hk2
    refine fun n x3 v_ends h => lp_walk (b := f_X2_lookAtEnds_L12 k2 v_days v_p1_teams v_p1_days v_p1_rows x2) (r := nv_ends) (P := fun st => match st with | (x3, v_ends) => ∀ (H : Heap) (locs : List Loc) (ls : Array Slot), va_P D vwCl ((wd_X2 cI cZ cP a_this a_found a_free a_ends a_stamps a_ways v_all v_days v_search v_found v_free v_ends v_stamps v_ways) ++ (wd_X3 cI cZ cP a_p1 a_p1_rows v_p1_teams v_p1_days v_p1_rows)) H → va_D A ((wd_X2 cI cZ cP a_this a_found a_free a_ends a_stamps a_ways v_all v_days v_search v_found v_free v_ends v_stamps v_ways) ++ (wd_X3 cI cZ cP a_p1 a_p1_rows v_p1_teams v_p1_days v_p1_rows)) → va_S A s.heap H locs → lv_has ls 4 [(0, .ref a_this), (1, .ref a_p1), (2, .int x2), (3, .int x3)] → W p l e { frames := 1, cells := 0, slots := 0, locals := 22 } s m args below meth c H locs 0 0 Q (F0 m 12 ls [])) (fun self hself0 st h => ?_) n (x3, v_ends) h
    obtain ⟨x3, v_ends⟩ := st
    have hself : ∀ (x3 : Int32) (v_ends : Nat → Int32), self (x3, v_ends) = some nv_ends → ∀ (H : Heap) (locs : List Loc) (ls : Array Slot), va_P D vwCl ((wd_X2 cI cZ cP a_this a_found a_free a_ends a_stamps a_ways v_all v_days v_search v_found v_free v_ends v_stamps v_ways) ++ (wd_X3 cI cZ cP a_p1 a_p1_rows v_p1_teams v_p1_days v_p1_rows)) H → va_D A ((wd_X2 cI cZ cP a_this a_found a_free a_ends a_stamps a_ways v_all v_days v_search v_found v_free v_ends v_stamps v_ways) ++ (wd_X3 cI cZ cP a_p1 a_p1_rows v_p1_teams v_p1_days v_p1_rows)) → va_S A s.heap H locs → lv_has ls 4 [(0, .ref a_this), (1, .ref a_p1), (2, .int x2), (3, .int x3)] → W p l e { frames := 1, cells := 0, slots := 0, locals := 22 } s m args below meth c H locs 0 0 Q (F0 m 12 ls []) := fun x3 v_ends h => hself0 (x3, v_ends) h
    clear hself0
    intro H locs ls hP hD hS hl
    replace h : (if v_p1_teams ≤ x3 then bd (x2 + (1 : Int32)) (fun x2_2 => k2 (x2_2, v_ends)) else (f_X3_partner v_p1_teams v_p1_days v_p1_rows x2 x3).bind (fun r_3 => if inb ((x2 * (14 : Int32)) + x3) 182 then bd (upd v_ends ((x2 * (14 : Int32)) + x3).toNatClampNeg r_3) (fun v_ends_6 => bd (x3 + (1 : Int32)) (fun x3_7 => self (x3_7, v_ends_6))) else none)) = some nv_ends := h
    refine lv_iload_n hx hb dX2_lookAtEnds_12 rfl (lv_at hl 3 rfl) ?_
    refine lv_aload_n hx hb dX2_lookAtEnds_13 rfl (lv_at hl 1 rfl) ?_
    refine va_get (D := D) (ci := 3) (v := .int v_p1_teams) (C := RX3) (T := TX3) (N := 3) hx hb hts in_X2_lookAtEnds_X3 hown hK hP 6 rfl rfl 0 (by decide) kw2 (fun _ h9 => h9) rfl dX2_lookAtEnds_14 ?_
    refine lv_icmp_ge (tgt := 43) hx hb dX2_lookAtEnds_17 (by decide) (fun c_1 => ?_) (fun c_1 => ?_)
    · replace h := it_pos h c_1
      obtain ⟨x2_2, ex2_2, h⟩ := bd_some h
      refine lv_iinc (v := x2_2) (lv' := [(2, .int x2_2), (0, .ref a_this), (1, .ref a_p1), (3, .int x3)]) hx hb dX2_lookAtEnds_43 hl (k := 2) rfl (by rw [ex2_2]; rfl) (by decide) rfl (fun ls hl => ?_)
      refine lv_goto (tgt := 2) hx hb dX2_lookAtEnds_46 (by decide) ?_
      exact hk2 x2_2 v_ends h _ _ _ hP hD hS (lv_sub hl [1, 2, 0] rfl)
    · replace h := it_neg h c_1
      refine lv_aload_n hx hb dX2_lookAtEnds_20 rfl (lv_at hl 0 rfl) ?_
      refine va_get (D := D) (ci := 2) (v := .ref a_ends) (C := RX2) (T := TX2) (N := 8) hx hb hts in_X2_lookAtEnds_X2 hown hK hP 0 rfl rfl 4 (by decide) kw3 (fun _ h9 => h9) rfl dX2_lookAtEnds_21 ?_
      refine lv_iload_n hx hb dX2_lookAtEnds_24 rfl (lv_at hl 2 rfl) ?_
      refine lv_bipush (v := 14) hx hb dX2_lookAtEnds_25 (by decide) ?_
      refine lv_imul hx hb dX2_lookAtEnds_27 ?_
      refine lv_iload_n hx hb dX2_lookAtEnds_28 rfl (lv_at hl 3 rfl) ?_
      refine lv_iadd hx hb dX2_lookAtEnds_29 ?_
      refine lv_aload_n hx hb dX2_lookAtEnds_30 rfl (lv_at hl 1 rfl) ?_
      refine lv_iload_n hx hb dX2_lookAtEnds_31 rfl (lv_at hl 2 rfl) ?_
      refine lv_iload_n hx hb dX2_lookAtEnds_32 rfl (lv_at hl 3 rfl) ?_
      obtain ⟨r_3, hc_4, h⟩ := bi_some h
      refine rd_callVi [.int x2, .int x3] [.int ((x2 * (14 : Int32)) + x3), .ref a_ends] (wr := [(a_this, .inr (2, [.ref a_found, .ref a_free, .int v_all, .int v_days, .ref a_ends, .ref a_stamps, .ref a_ways, .int v_search])), (a_found, .inl (cI, 14, .inl v_found)), (a_free, .inl (cI, 14, .inl v_free)), (a_ends, .inl (cI, 182, .inl v_ends)), (a_stamps, .inl (cI, 4096, .inl v_stamps)), (a_ways, .inl (cI, 4096, .inl v_ways))]) (W1 := (wd_X2 cI cZ cP a_this a_found a_free a_ends a_stamps a_ways v_all v_days v_search v_found v_free v_ends v_stamps v_ways) ++ (wd_X3 cI cZ cP a_p1 a_p1_rows v_p1_teams v_p1_days v_p1_rows)) (ci := 3) ⟨hx, hb, hml, hown, hts⟩ (c_X3_partner l D cI cZ cP a_p1 a_p1_rows v_p1_teams v_p1_days v_p1_rows x2 x3 r_3 hc_4) (cwV 2 hts gX2_lookAtEnds_X3_partner rfl rfl rfl (by decide +kernel) ⟨Nat.le_of_ble_eq_true rfl, Nat.le_of_ble_eq_true rfl⟩) rfl rfl hl.1 (Nat.le_of_ble_eq_true rfl) dX2_lookAtEnds_33 ⟨Nat.zero_le _, Nat.zero_le _⟩ hK hP hD hS hA rfl rfl [6, 7] [0, 1, 2, 3, 4, 5] [0, 1, 2, 3, 4, 5, 6, 7] ⟨⟨rfl, rfl, rfl⟩, by decide⟩ (fun H locs hP hD hS => ?_)
      obtain ⟨hi_5, h⟩ := gd_some h
      obtain ⟨v_ends_6, ev_ends_6, h⟩ := bd_some h
      refine rd_iast (W1 := (wd_X2 cI cZ cP a_this a_found a_free a_ends a_stamps a_ways v_all v_days v_search v_found v_free v_ends_6 v_stamps v_ways) ++ (wd_X3 cI cZ cP a_p1 a_p1_rows v_p1_teams v_p1_days v_p1_rows)) hx hb hK hP hD hS 3 0 rfl rfl hi_5 ev_ends_6 rfl dX2_lookAtEnds_36 (fun H locs hP hD hS => ?_)
      obtain ⟨x3_7, ex3_7, h⟩ := bd_some h
      refine lv_iinc (v := x3_7) (lv' := [(3, .int x3_7), (0, .ref a_this), (1, .ref a_p1), (2, .int x2)]) hx hb dX2_lookAtEnds_37 hl (k := 3) rfl (by rw [ex3_7]; rfl) (by decide) rfl (fun ls hl => ?_)
      refine lv_goto (tgt := 12) hx hb dX2_lookAtEnds_40 (by decide) ?_
      exact hself x3_7 v_ends_6 h _ _ _ hP hD hS (lv_sub hl [1, 2, 3, 0] rfl)
  have w2 : ∀ n : Nat, ∀ (x2 : Int32) (v_ends : Nat → Int32), lp (f_X2_lookAtEnds_L2 v_days v_p1_teams v_p1_days v_p1_rows) n (x2, v_ends) = some nv_ends → ∀ (H : Heap) (locs : List Loc) (ls : Array Slot), va_P D vwCl ((wd_X2 cI cZ cP a_this a_found a_free a_ends a_stamps a_ways v_all v_days v_search v_found v_free v_ends v_stamps v_ways) ++ (wd_X3 cI cZ cP a_p1 a_p1_rows v_p1_teams v_p1_days v_p1_rows)) H → va_D A ((wd_X2 cI cZ cP a_this a_found a_free a_ends a_stamps a_ways v_all v_days v_search v_found v_free v_ends v_stamps v_ways) ++ (wd_X3 cI cZ cP a_p1 a_p1_rows v_p1_teams v_p1_days v_p1_rows)) → va_S A s.heap H locs → lv_has ls 4 [(0, .ref a_this), (1, .ref a_p1), (2, .int x2)] → W p l e { frames := 1, cells := 0, slots := 0, locals := 22 } s m args below meth c H locs 0 0 Q (F0 m 2 ls []) := by
    refine fun n x2 v_ends h => lp_walk (b := f_X2_lookAtEnds_L2 v_days v_p1_teams v_p1_days v_p1_rows) (r := nv_ends) (P := fun st => match st with | (x2, v_ends) => ∀ (H : Heap) (locs : List Loc) (ls : Array Slot), va_P D vwCl ((wd_X2 cI cZ cP a_this a_found a_free a_ends a_stamps a_ways v_all v_days v_search v_found v_free v_ends v_stamps v_ways) ++ (wd_X3 cI cZ cP a_p1 a_p1_rows v_p1_teams v_p1_days v_p1_rows)) H → va_D A ((wd_X2 cI cZ cP a_this a_found a_free a_ends a_stamps a_ways v_all v_days v_search v_found v_free v_ends v_stamps v_ways) ++ (wd_X3 cI cZ cP a_p1 a_p1_rows v_p1_teams v_p1_days v_p1_rows)) → va_S A s.heap H locs → lv_has ls 4 [(0, .ref a_this), (1, .ref a_p1), (2, .int x2)] → W p l e { frames := 1, cells := 0, slots := 0, locals := 22 } s m args below meth c H locs 0 0 Q (F0 m 2 ls [])) (fun self hself0 st h => ?_) n (x2, v_ends) h
    obtain ⟨x2, v_ends⟩ := st
    have hself : ∀ (x2 : Int32) (v_ends : Nat → Int32), self (x2, v_ends) = some nv_ends → ∀ (H : Heap) (locs : List Loc) (ls : Array Slot), va_P D vwCl ((wd_X2 cI cZ cP a_this a_found a_free a_ends a_stamps a_ways v_all v_days v_search v_found v_free v_ends v_stamps v_ways) ++ (wd_X3 cI cZ cP a_p1 a_p1_rows v_p1_teams v_p1_days v_p1_rows)) H → va_D A ((wd_X2 cI cZ cP a_this a_found a_free a_ends a_stamps a_ways v_all v_days v_search v_found v_free v_ends v_stamps v_ways) ++ (wd_X3 cI cZ cP a_p1 a_p1_rows v_p1_teams v_p1_days v_p1_rows)) → va_S A s.heap H locs → lv_has ls 4 [(0, .ref a_this), (1, .ref a_p1), (2, .int x2)] → W p l e { frames := 1, cells := 0, slots := 0, locals := 22 } s m args below meth c H locs 0 0 Q (F0 m 2 ls []) := fun x2 v_ends h => hself0 (x2, v_ends) h
    clear hself0
    intro H locs ls hP hD hS hl
    replace h : (if v_days ≤ x2 then some v_ends else lp (f_X2_lookAtEnds_L12 self v_days v_p1_teams v_p1_days v_p1_rows x2) 20000 ((0 : Int32), v_ends)) = some nv_ends := h
    refine lv_iload_n hx hb dX2_lookAtEnds_2 rfl (lv_at hl 2 rfl) ?_
    refine lv_aload_n hx hb dX2_lookAtEnds_3 rfl (lv_at hl 0 rfl) ?_
    refine va_get (D := D) (ci := 2) (v := .int v_days) (C := RX2) (T := TX2) (N := 8) hx hb hts in_X2_lookAtEnds_X2 hown hK hP 0 rfl rfl 3 (by decide) kw1 (fun _ h9 => h9) rfl dX2_lookAtEnds_4 ?_
    refine lv_icmp_ge (tgt := 49) hx hb dX2_lookAtEnds_7 (by decide) (fun c_8 => ?_) (fun c_8 => ?_)
    · replace h := it_pos h c_8
      obtain rfl := inj1 h
      exact hret dX2_lookAtEnds_49 hP hD hS
    · replace h := it_neg h c_8
      refine lv_iconst (v := 0) hx hb dX2_lookAtEnds_10 (by decide) ?_
      refine lv_istore_n (lv' := [(3, .int (0 : Int32)), (0, .ref a_this), (1, .ref a_p1), (2, .int x2)]) hx hb dX2_lookAtEnds_11 rfl hl (by decide) rfl (fun ls hl => ?_)
      exact w12 x2 _ hself 20000 (0 : Int32) v_ends h _ _ _ hP hD hS (lv_sub hl [1, 2, 3, 0] rfl)
  refine lv_iconst (v := 0) hx hb dX2_lookAtEnds_0 (by decide) ?_
  refine lv_istore_n (lv' := [(2, .int (0 : Int32)), (0, .ref a_this), (1, .ref a_p1)]) hx hb dX2_lookAtEnds_1 rfl hl (by decide) rfl (fun ls hl => ?_)
  exact w2 20000 (0 : Int32) v_ends h _ _ _ hP hD hS (lv_sub hl [1, 2, 0] rfl)
theorem in_X2_closers_X2 : ∀ w ∈ wsX20, w ∈ wsX2_closers := by decide +kernel
def f_X2_closers_L15 (v_days : Int32) (v_ends : Nat → Int32) (p1 : Int32) (p2 : Int32) (self : Int32 × Int32 → Option (Int32)) : Int32 × Int32 → Option (Int32) := fun st => match st with | (x3, x4) => if v_days ≤ x4 then some x3 else if inb ((x4 * (14 : Int32)) + p2) 182 then bd (x3 ||| ((1 : Int32) <<< ((v_ends ((x4 * (14 : Int32)) + p2).toNatClampNeg) &&& (31 : Int32)))) (fun x3_3 => bd (x4 + (1 : Int32)) (fun x4_4 => self (x3_3, x4_4))) else none
def f_X2_closers (v_days : Int32) (v_ends : Nat → Int32) (p1 : Int32) (p2 : Int32) : Option (Int32) := (f_J6_bitCount_0f7a4 p1).bind (fun r_5 => if r_5 = (2 : Int32) then some (0 : Int32) else lp (f_X2_closers_L15 v_days v_ends p1 p2) 20000 ((0 : Int32), (0 : Int32)))
set_option maxHeartbeats 4000000 in
set_option maxRecDepth 100000 in
theorem c_X2_closers (l : Launch) (D : va_G) (cI cZ cP : ClassId) (a_this : Nat) (a_found : Nat) (a_free : Nat) (a_ends : Nat) (a_stamps : Nat) (a_ways : Nat) (v_all : Int32) (v_days : Int32) (v_search : Int32) (v_found : Nat → Int32) (v_free : Nat → Int32) (v_ends : Nat → Int32) (v_stamps : Nat → Int32) (v_ways : Nat → Int32) (p1 : Int32) (p2 : Int32) (r : Int32) (h : f_X2_closers v_days v_ends p1 p2 = some r) : rd_I l yX2_closers wsX2_closers { frames := 1, cells := 0, slots := 0, locals := 20 } [.ref a_this, .int p1, .int p2] D (tyA cI cZ cP) (wd_X2 cI cZ cP a_this a_found a_free a_ends a_stamps a_ways v_all v_days v_search v_found v_free v_ends v_stamps v_ways) (wd_X2 cI cZ cP a_this a_found a_free a_ends a_stamps a_ways v_all v_days v_search v_found v_free v_ends v_stamps v_ways) r := by
  unfold f_X2_closers at h
  refine rd_enterI (cc := cX2_closers) (maxL := 5) (by decide) rfl (Nat.le_of_ble_eq_true rfl) ?_
  intro p e s m args below meth c A Q ls hx hb hml hown hts hA hK hP hD hS hl hret
  have hl : lv_has ls 5 [(0, .ref a_this), (1, .int p1), (2, .int p2)] := hl
  have kw1 := hts (.fieldLink RX2 73 "RoundDays$Finder" "days" "I") (List.mem_of_getElem? (i := 1) rfl)
  have kw2 := hts (.fieldLink RX2 18 "RoundDays$Finder" "ends" "[I") (List.mem_of_getElem? (i := 2) rfl)
  have w15 : ∀ n : Nat, ∀ (x3 : Int32) (x4 : Int32), lp (f_X2_closers_L15 v_days v_ends p1 p2) n (x3, x4) = some r → ∀ (H : Heap) (locs : List Loc) (ls : Array Slot), va_P D vwCl (wd_X2 cI cZ cP a_this a_found a_free a_ends a_stamps a_ways v_all v_days v_search v_found v_free v_ends v_stamps v_ways) H → va_D A (wd_X2 cI cZ cP a_this a_found a_free a_ends a_stamps a_ways v_all v_days v_search v_found v_free v_ends v_stamps v_ways) → va_S A s.heap H locs → lv_has ls 5 [(0, .ref a_this), (2, .int p2), (3, .int x3), (4, .int x4)] → W p l e { frames := 1, cells := 0, slots := 0, locals := 20 } s m args below meth c H locs 0 0 Q (F0 m 15 ls []) := by
    refine fun n x3 x4 h => lp_walk (b := f_X2_closers_L15 v_days v_ends p1 p2) (r := r) (P := fun st => match st with | (x3, x4) => ∀ (H : Heap) (locs : List Loc) (ls : Array Slot), va_P D vwCl (wd_X2 cI cZ cP a_this a_found a_free a_ends a_stamps a_ways v_all v_days v_search v_found v_free v_ends v_stamps v_ways) H → va_D A (wd_X2 cI cZ cP a_this a_found a_free a_ends a_stamps a_ways v_all v_days v_search v_found v_free v_ends v_stamps v_ways) → va_S A s.heap H locs → lv_has ls 5 [(0, .ref a_this), (2, .int p2), (3, .int x3), (4, .int x4)] → W p l e { frames := 1, cells := 0, slots := 0, locals := 20 } s m args below meth c H locs 0 0 Q (F0 m 15 ls [])) (fun self hself0 st h => ?_) n (x3, x4) h
    obtain ⟨x3, x4⟩ := st
    have hself : ∀ (x3 : Int32) (x4 : Int32), self (x3, x4) = some r → ∀ (H : Heap) (locs : List Loc) (ls : Array Slot), va_P D vwCl (wd_X2 cI cZ cP a_this a_found a_free a_ends a_stamps a_ways v_all v_days v_search v_found v_free v_ends v_stamps v_ways) H → va_D A (wd_X2 cI cZ cP a_this a_found a_free a_ends a_stamps a_ways v_all v_days v_search v_found v_free v_ends v_stamps v_ways) → va_S A s.heap H locs → lv_has ls 5 [(0, .ref a_this), (2, .int p2), (3, .int x3), (4, .int x4)] → W p l e { frames := 1, cells := 0, slots := 0, locals := 20 } s m args below meth c H locs 0 0 Q (F0 m 15 ls []) := fun x3 x4 h => hself0 (x3, x4) h
    clear hself0
    intro H locs ls hP hD hS hl
    replace h : (if v_days ≤ x4 then some x3 else if inb ((x4 * (14 : Int32)) + p2) 182 then bd (x3 ||| ((1 : Int32) <<< ((v_ends ((x4 * (14 : Int32)) + p2).toNatClampNeg) &&& (31 : Int32)))) (fun x3_3 => bd (x4 + (1 : Int32)) (fun x4_4 => self (x3_3, x4_4))) else none) = some r := h
    refine lv_iload hx hb dX2_closers_15 (lv_at hl 3 rfl) ?_
    refine lv_aload_n hx hb dX2_closers_17 rfl (lv_at hl 0 rfl) ?_
    refine va_get (D := D) (ci := 2) (v := .int v_days) (C := RX2) (T := TX2) (N := 8) hx hb hts in_X2_closers_X2 hown hK hP 0 rfl rfl 3 (by decide) kw1 (fun _ h9 => h9) rfl dX2_closers_18 ?_
    refine lv_icmp_ge (tgt := 47) hx hb dX2_closers_21 (by decide) (fun c_1 => ?_) (fun c_1 => ?_)
    · replace h := it_pos h c_1
      refine lv_iload_n hx hb dX2_closers_47 rfl (lv_at hl 2 rfl) ?_
      obtain rfl := inj1 h
      exact hret dX2_closers_48 hP hD hS
    · replace h := it_neg h c_1
      refine lv_iload_n hx hb dX2_closers_24 rfl (lv_at hl 2 rfl) ?_
      refine lv_iconst (v := 1) hx hb dX2_closers_25 (by decide) ?_
      refine lv_aload_n hx hb dX2_closers_26 rfl (lv_at hl 0 rfl) ?_
      refine va_get (D := D) (ci := 2) (v := .ref a_ends) (C := RX2) (T := TX2) (N := 8) hx hb hts in_X2_closers_X2 hown hK hP 0 rfl rfl 4 (by decide) kw2 (fun _ h9 => h9) rfl dX2_closers_27 ?_
      refine lv_iload hx hb dX2_closers_30 (lv_at hl 3 rfl) ?_
      refine lv_bipush (v := 14) hx hb dX2_closers_32 (by decide) ?_
      refine lv_imul hx hb dX2_closers_34 ?_
      refine lv_iload_n hx hb dX2_closers_35 rfl (lv_at hl 1 rfl) ?_
      refine lv_iadd hx hb dX2_closers_36 ?_
      obtain ⟨hi_2, h⟩ := gd_some h
      refine va_iald hx hb hK hP 3 0 rfl rfl (inb_in hi_2) dX2_closers_37 ?_
      refine lv_ishl hx hb dX2_closers_38 ?_
      refine lv_ior hx hb dX2_closers_39 ?_
      obtain ⟨x3_3, ex3_3, h⟩ := bd_some h
      refine rd_top ex3_3 ?_
      refine lv_istore_n (lv' := [(3, .int x3_3), (0, .ref a_this), (2, .int p2), (4, .int x4)]) hx hb dX2_closers_40 rfl hl (by decide) rfl (fun ls hl => ?_)
      obtain ⟨x4_4, ex4_4, h⟩ := bd_some h
      refine lv_iinc (v := x4_4) (lv' := [(4, .int x4_4), (3, .int x3_3), (0, .ref a_this), (2, .int p2)]) hx hb dX2_closers_41 hl (k := 3) rfl (by rw [ex4_4]; rfl) (by decide) rfl (fun ls hl => ?_)
      refine lv_goto (tgt := 15) hx hb dX2_closers_44 (by decide) ?_
      exact hself x3_3 x4_4 h _ _ _ hP hD hS (lv_sub hl [2, 3, 1, 0] rfl)
  refine lv_iload_n hx hb dX2_closers_0 rfl (lv_at hl 1 rfl) ?_
  obtain ⟨r_5, hc_6, h⟩ := bi_some h
  refine rd_callSi [.int p1] [] (wr := [(a_this, .inr (2, [.ref a_found, .ref a_free, .int v_all, .int v_days, .ref a_ends, .ref a_stamps, .ref a_ways, .int v_search])), (a_found, .inl (cI, 14, .inl v_found)), (a_free, .inl (cI, 14, .inl v_free)), (a_ends, .inl (cI, 182, .inl v_ends)), (a_stamps, .inl (cI, 4096, .inl v_stamps)), (a_ways, .inl (cI, 4096, .inl v_ways))]) (W1 := wd_X2 cI cZ cP a_this a_found a_free a_ends a_stamps a_ways v_all v_days v_search v_found v_free v_ends v_stamps v_ways) ⟨hx, hb, hml, hown, hts⟩ (c_J6_bitCount_0f7a4 l D cI cZ cP p1 r_5 hc_6) (va_cwS 1 hts gX2_closers_J6_bitCount_0f7a4 rfl rfl rfl (by decide +kernel) ⟨Nat.le_of_ble_eq_true rfl, Nat.le_of_ble_eq_true rfl⟩) rfl rfl hl.1 (Nat.le_of_ble_eq_true rfl) dX2_closers_1 ⟨Nat.zero_le _, Nat.zero_le _⟩ hK hP hD hS hA [] [0, 1, 2, 3, 4, 5] [0, 1, 2, 3, 4, 5] ⟨⟨rfl, rfl, rfl⟩, by decide⟩ (fun H locs hP hD hS => ?_)
  refine lv_iconst (v := 2) hx hb dX2_closers_4 (by decide) ?_
  refine lv_icmp_ne (tgt := 10) hx hb dX2_closers_5 (by decide) (fun c_7 => ?_) (fun c_7 => ?_)
  · replace h := it_neg h c_7
    refine lv_iconst (v := 0) hx hb dX2_closers_10 (by decide) ?_
    refine lv_istore_n (lv' := [(3, .int (0 : Int32)), (0, .ref a_this), (1, .int p1), (2, .int p2)]) hx hb dX2_closers_11 rfl hl (by decide) rfl (fun ls hl => ?_)
    refine lv_iconst (v := 0) hx hb dX2_closers_12 (by decide) ?_
    refine lv_istore (lv' := [(4, .int (0 : Int32)), (3, .int (0 : Int32)), (0, .ref a_this), (1, .int p1), (2, .int p2)]) hx hb dX2_closers_13 hl (by decide) rfl (fun ls hl => ?_)
    exact w15 20000 (0 : Int32) (0 : Int32) h _ _ _ hP hD hS (lv_sub hl [2, 4, 1, 0] rfl)
  · replace h := it_pos h c_7
    refine lv_iconst (v := 0) hx hb dX2_closers_8 (by decide) ?_
    obtain rfl := inj1 h
    exact hret dX2_closers_9 hP hD hS
theorem in_X2_setEnd_X2 : ∀ w ∈ wsX20, w ∈ wsX2_setEnd := by decide +kernel
def f_X2_setEnd (v_ends : Nat → Int32) (p1 : Int32) (p2 : Int32) (p3 : Int32) : Option ((Nat → Int32)) := if p2 < 0 then some v_ends else if (14 : Int32) ≤ p2 then some v_ends else if inb (p1 + p2) 182 then bd (upd v_ends (p1 + p2).toNatClampNeg p3) (fun v_ends_4 => some v_ends_4) else none
set_option maxHeartbeats 4000000 in
set_option maxRecDepth 100000 in
theorem c_X2_setEnd (l : Launch) (D : va_G) (cI cZ cP : ClassId) (a_this : Nat) (a_found : Nat) (a_free : Nat) (a_ends : Nat) (a_stamps : Nat) (a_ways : Nat) (v_all : Int32) (v_days : Int32) (v_search : Int32) (v_found : Nat → Int32) (v_free : Nat → Int32) (v_ends : Nat → Int32) (v_stamps : Nat → Int32) (v_ways : Nat → Int32) (p1 : Int32) (p2 : Int32) (p3 : Int32) (nv_ends : Nat → Int32) (h : f_X2_setEnd v_ends p1 p2 p3 = some nv_ends) : rd_V l yX2_setEnd wsX2_setEnd { frames := 0, cells := 0, slots := 0, locals := 0 } [.ref a_this, .int p1, .int p2, .int p3] D (tyA cI cZ cP) (wd_X2 cI cZ cP a_this a_found a_free a_ends a_stamps a_ways v_all v_days v_search v_found v_free v_ends v_stamps v_ways) (wd_X2 cI cZ cP a_this a_found a_free a_ends a_stamps a_ways v_all v_days v_search v_found v_free nv_ends v_stamps v_ways) := by
  unfold f_X2_setEnd at h
  refine rd_enterV (cc := cX2_setEnd) (maxL := 4) (by decide) rfl (Nat.le_of_ble_eq_true rfl) ?_
  intro p e s m args below meth c A Q ls hx hb hml hown hts hA hK hP hD hS hl hret
  have hl : lv_has ls 4 [(0, .ref a_this), (1, .int p1), (2, .int p2), (3, .int p3)] := hl
  have kw1 := hts (.fieldLink RX2 18 "RoundDays$Finder" "ends" "[I") (List.mem_of_getElem? (i := 1) rfl)
  refine lv_iload_n hx hb dX2_setEnd_0 rfl (lv_at hl 2 rfl) ?_
  refine lv_if_lt (tgt := 19) hx hb dX2_setEnd_1 (by decide) (fun c_1 => ?_) (fun c_1 => ?_)
  · replace h := it_pos h c_1
    obtain rfl := inj1 h
    exact hret dX2_setEnd_19 hP hD hS
  · replace h := it_neg h c_1
    refine lv_iload_n hx hb dX2_setEnd_4 rfl (lv_at hl 2 rfl) ?_
    refine lv_bipush (v := 14) hx hb dX2_setEnd_5 (by decide) ?_
    refine lv_icmp_ge (tgt := 19) hx hb dX2_setEnd_7 (by decide) (fun c_2 => ?_) (fun c_2 => ?_)
    · replace h := it_pos h c_2
      obtain rfl := inj1 h
      exact hret dX2_setEnd_19 hP hD hS
    · replace h := it_neg h c_2
      refine lv_aload_n hx hb dX2_setEnd_10 rfl (lv_at hl 0 rfl) ?_
      refine va_get (D := D) (ci := 2) (v := .ref a_ends) (C := RX2) (T := TX2) (N := 8) hx hb hts in_X2_setEnd_X2 hown hK hP 0 rfl rfl 4 (by decide) kw1 (fun _ h9 => h9) rfl dX2_setEnd_11 ?_
      refine lv_iload_n hx hb dX2_setEnd_14 rfl (lv_at hl 1 rfl) ?_
      refine lv_iload_n hx hb dX2_setEnd_15 rfl (lv_at hl 2 rfl) ?_
      refine lv_iadd hx hb dX2_setEnd_16 ?_
      refine lv_iload_n hx hb dX2_setEnd_17 rfl (lv_at hl 3 rfl) ?_
      obtain ⟨hi_3, h⟩ := gd_some h
      obtain ⟨v_ends_4, ev_ends_4, h⟩ := bd_some h
      refine rd_iast (W1 := wd_X2 cI cZ cP a_this a_found a_free a_ends a_stamps a_ways v_all v_days v_search v_found v_free v_ends_4 v_stamps v_ways) hx hb hK hP hD hS 3 0 rfl rfl hi_3 ev_ends_4 rfl dX2_setEnd_18 (fun H locs hP hD hS => ?_)
      obtain rfl := inj1 h
      exact hret dX2_setEnd_19 hP hD hS
theorem in_X2_join_X2 : ∀ w ∈ wsX20, w ∈ wsX2_join := by decide +kernel
def f_X2_join_L2 (v_days : Int32) (p1 : Int32) (p2 : Int32) (self : Int32 × (Nat → Int32) → Option ((Nat → Int32))) : Int32 × (Nat → Int32) → Option ((Nat → Int32)) := fun st => match st with | (x3, v_ends) => if v_days ≤ x3 then some v_ends else bd (x3 * (14 : Int32)) (fun x4_2 => if inb (x4_2 + p1) 182 then bd (v_ends (x4_2 + p1).toNatClampNeg) (fun x5_4 => if inb (x4_2 + p2) 182 then bd (v_ends (x4_2 + p2).toNatClampNeg) (fun x6_6 => (f_X2_setEnd v_ends x4_2 x5_4 x6_6).bind (fun v_ends_7 => (f_X2_setEnd v_ends_7 x4_2 x6_6 x5_4).bind (fun v_ends_9 => bd (x3 + (1 : Int32)) (fun x3_11 => self (x3_11, v_ends_9))))) else none) else none)
def f_X2_join (v_days : Int32) (v_ends : Nat → Int32) (p1 : Int32) (p2 : Int32) : Option ((Nat → Int32)) := lp (f_X2_join_L2 v_days p1 p2) 20000 ((0 : Int32), v_ends)
set_option maxHeartbeats 4000000 in
set_option maxRecDepth 100000 in
theorem c_X2_join (l : Launch) (D : va_G) (cI cZ cP : ClassId) (a_this : Nat) (a_found : Nat) (a_free : Nat) (a_ends : Nat) (a_stamps : Nat) (a_ways : Nat) (v_all : Int32) (v_days : Int32) (v_search : Int32) (v_found : Nat → Int32) (v_free : Nat → Int32) (v_ends : Nat → Int32) (v_stamps : Nat → Int32) (v_ways : Nat → Int32) (p1 : Int32) (p2 : Int32) (nv_ends : Nat → Int32) (h : f_X2_join v_days v_ends p1 p2 = some nv_ends) : rd_V l yX2_join wsX2_join { frames := 1, cells := 0, slots := 0, locals := 23 } [.ref a_this, .int p1, .int p2] D (tyA cI cZ cP) (wd_X2 cI cZ cP a_this a_found a_free a_ends a_stamps a_ways v_all v_days v_search v_found v_free v_ends v_stamps v_ways) (wd_X2 cI cZ cP a_this a_found a_free a_ends a_stamps a_ways v_all v_days v_search v_found v_free nv_ends v_stamps v_ways) := by
  unfold f_X2_join at h
  refine rd_enterV (cc := cX2_join) (maxL := 7) (by decide) rfl (Nat.le_of_ble_eq_true rfl) ?_
  intro p e s m args below meth c A Q ls hx hb hml hown hts hA hK hP hD hS hl hret
  have hl : lv_has ls 7 [(0, .ref a_this), (1, .int p1), (2, .int p2)] := hl
  have kw1 := hts (.fieldLink RX2 73 "RoundDays$Finder" "days" "I") (List.mem_of_getElem? (i := 1) rfl)
  have kw2 := hts (.fieldLink RX2 18 "RoundDays$Finder" "ends" "[I") (List.mem_of_getElem? (i := 2) rfl)
  have w2 : ∀ n : Nat, ∀ (x3 : Int32) (v_ends : Nat → Int32), lp (f_X2_join_L2 v_days p1 p2) n (x3, v_ends) = some nv_ends → ∀ (H : Heap) (locs : List Loc) (ls : Array Slot), va_P D vwCl (wd_X2 cI cZ cP a_this a_found a_free a_ends a_stamps a_ways v_all v_days v_search v_found v_free v_ends v_stamps v_ways) H → va_D A (wd_X2 cI cZ cP a_this a_found a_free a_ends a_stamps a_ways v_all v_days v_search v_found v_free v_ends v_stamps v_ways) → va_S A s.heap H locs → lv_has ls 7 [(0, .ref a_this), (1, .int p1), (2, .int p2), (3, .int x3)] → W p l e { frames := 1, cells := 0, slots := 0, locals := 23 } s m args below meth c H locs 0 0 Q (F0 m 2 ls []) := by
    refine fun n x3 v_ends h => lp_walk (b := f_X2_join_L2 v_days p1 p2) (r := nv_ends) (P := fun st => match st with | (x3, v_ends) => ∀ (H : Heap) (locs : List Loc) (ls : Array Slot), va_P D vwCl (wd_X2 cI cZ cP a_this a_found a_free a_ends a_stamps a_ways v_all v_days v_search v_found v_free v_ends v_stamps v_ways) H → va_D A (wd_X2 cI cZ cP a_this a_found a_free a_ends a_stamps a_ways v_all v_days v_search v_found v_free v_ends v_stamps v_ways) → va_S A s.heap H locs → lv_has ls 7 [(0, .ref a_this), (1, .int p1), (2, .int p2), (3, .int x3)] → W p l e { frames := 1, cells := 0, slots := 0, locals := 23 } s m args below meth c H locs 0 0 Q (F0 m 2 ls [])) (fun self hself0 st h => ?_) n (x3, v_ends) h
    obtain ⟨x3, v_ends⟩ := st
    have hself : ∀ (x3 : Int32) (v_ends : Nat → Int32), self (x3, v_ends) = some nv_ends → ∀ (H : Heap) (locs : List Loc) (ls : Array Slot), va_P D vwCl (wd_X2 cI cZ cP a_this a_found a_free a_ends a_stamps a_ways v_all v_days v_search v_found v_free v_ends v_stamps v_ways) H → va_D A (wd_X2 cI cZ cP a_this a_found a_free a_ends a_stamps a_ways v_all v_days v_search v_found v_free v_ends v_stamps v_ways) → va_S A s.heap H locs → lv_has ls 7 [(0, .ref a_this), (1, .int p1), (2, .int p2), (3, .int x3)] → W p l e { frames := 1, cells := 0, slots := 0, locals := 23 } s m args below meth c H locs 0 0 Q (F0 m 2 ls []) := fun x3 v_ends h => hself0 (x3, v_ends) h
    clear hself0
    intro H locs ls hP hD hS hl
    replace h : (if v_days ≤ x3 then some v_ends else bd (x3 * (14 : Int32)) (fun x4_2 => if inb (x4_2 + p1) 182 then bd (v_ends (x4_2 + p1).toNatClampNeg) (fun x5_4 => if inb (x4_2 + p2) 182 then bd (v_ends (x4_2 + p2).toNatClampNeg) (fun x6_6 => (f_X2_setEnd v_ends x4_2 x5_4 x6_6).bind (fun v_ends_7 => (f_X2_setEnd v_ends_7 x4_2 x6_6 x5_4).bind (fun v_ends_9 => bd (x3 + (1 : Int32)) (fun x3_11 => self (x3_11, v_ends_9))))) else none) else none)) = some nv_ends := h
    refine lv_iload_n hx hb dX2_join_2 rfl (lv_at hl 3 rfl) ?_
    refine lv_aload_n hx hb dX2_join_3 rfl (lv_at hl 0 rfl) ?_
    refine va_get (D := D) (ci := 2) (v := .int v_days) (C := RX2) (T := TX2) (N := 8) hx hb hts in_X2_join_X2 hown hK hP 0 rfl rfl 3 (by decide) kw1 (fun _ h9 => h9) rfl dX2_join_4 ?_
    refine lv_icmp_ge (tgt := 64) hx hb dX2_join_7 (by decide) (fun c_1 => ?_) (fun c_1 => ?_)
    · replace h := it_pos h c_1
      obtain rfl := inj1 h
      exact hret dX2_join_64 hP hD hS
    · replace h := it_neg h c_1
      refine lv_iload_n hx hb dX2_join_10 rfl (lv_at hl 3 rfl) ?_
      refine lv_bipush (v := 14) hx hb dX2_join_11 (by decide) ?_
      refine lv_imul hx hb dX2_join_13 ?_
      obtain ⟨x4_2, ex4_2, h⟩ := bd_some h
      refine rd_top ex4_2 ?_
      refine lv_istore (lv' := [(4, .int x4_2), (0, .ref a_this), (1, .int p1), (2, .int p2), (3, .int x3)]) hx hb dX2_join_14 hl (by decide) rfl (fun ls hl => ?_)
      refine lv_aload_n hx hb dX2_join_16 rfl (lv_at hl 1 rfl) ?_
      refine va_get (D := D) (ci := 2) (v := .ref a_ends) (C := RX2) (T := TX2) (N := 8) hx hb hts in_X2_join_X2 hown hK hP 0 rfl rfl 4 (by decide) kw2 (fun _ h9 => h9) rfl dX2_join_17 ?_
      refine lv_iload hx hb dX2_join_20 (lv_at hl 0 rfl) ?_
      refine lv_iload_n hx hb dX2_join_22 rfl (lv_at hl 2 rfl) ?_
      refine lv_iadd hx hb dX2_join_23 ?_
      obtain ⟨hi_3, h⟩ := gd_some h
      refine va_iald hx hb hK hP 3 0 rfl rfl (inb_in hi_3) dX2_join_24 ?_
      obtain ⟨x5_4, ex5_4, h⟩ := bd_some h
      refine rd_top ex5_4 ?_
      refine lv_istore (lv' := [(5, .int x5_4), (4, .int x4_2), (0, .ref a_this), (1, .int p1), (2, .int p2), (3, .int x3)]) hx hb dX2_join_25 hl (by decide) rfl (fun ls hl => ?_)
      refine lv_aload_n hx hb dX2_join_27 rfl (lv_at hl 2 rfl) ?_
      refine va_get (D := D) (ci := 2) (v := .ref a_ends) (C := RX2) (T := TX2) (N := 8) hx hb hts in_X2_join_X2 hown hK hP 0 rfl rfl 4 (by decide) kw2 (fun _ h9 => h9) rfl dX2_join_28 ?_
      refine lv_iload hx hb dX2_join_31 (lv_at hl 1 rfl) ?_
      refine lv_iload_n hx hb dX2_join_33 rfl (lv_at hl 4 rfl) ?_
      refine lv_iadd hx hb dX2_join_34 ?_
      obtain ⟨hi_5, h⟩ := gd_some h
      refine va_iald hx hb hK hP 3 0 rfl rfl (inb_in hi_5) dX2_join_35 ?_
      obtain ⟨x6_6, ex6_6, h⟩ := bd_some h
      refine rd_top ex6_6 ?_
      refine lv_istore (lv' := [(6, .int x6_6), (5, .int x5_4), (4, .int x4_2), (0, .ref a_this), (1, .int p1), (2, .int p2), (3, .int x3)]) hx hb dX2_join_36 hl (by decide) rfl (fun ls hl => ?_)
      refine lv_aload_n hx hb dX2_join_38 rfl (lv_at hl 3 rfl) ?_
      refine lv_iload hx hb dX2_join_39 (lv_at hl 2 rfl) ?_
      refine lv_iload hx hb dX2_join_41 (lv_at hl 1 rfl) ?_
      refine lv_iload hx hb dX2_join_43 (lv_at hl 0 rfl) ?_
      obtain ⟨v_ends_7, hc_8, h⟩ := bi_some h
      refine rd_callVv [.int x4_2, .int x5_4, .int x6_6] [] (wr := []) (W1 := wd_X2 cI cZ cP a_this a_found a_free a_ends a_stamps a_ways v_all v_days v_search v_found v_free v_ends_7 v_stamps v_ways) (ci := 2) ⟨hx, hb, hml, hown, hts⟩ (c_X2_setEnd l D cI cZ cP a_this a_found a_free a_ends a_stamps a_ways v_all v_days v_search v_found v_free v_ends v_stamps v_ways x4_2 x5_4 x6_6 v_ends_7 hc_8) (cwV 3 hts gX2_join_X2_setEnd rfl rfl rfl (by decide +kernel) ⟨Nat.le_of_ble_eq_true rfl, Nat.le_of_ble_eq_true rfl⟩) rfl rfl hl.1 (Nat.le_of_ble_eq_true rfl) dX2_join_45 ⟨Nat.zero_le _, Nat.zero_le _⟩ hK hP hD hS hA rfl rfl [0, 1, 2, 3, 4, 5] [] [0, 1, 2, 3, 4, 5] ⟨⟨rfl, rfl, rfl⟩, by decide⟩ (fun H locs hP hD hS => ?_)
      refine lv_aload_n hx hb dX2_join_48 rfl (lv_at hl 3 rfl) ?_
      refine lv_iload hx hb dX2_join_49 (lv_at hl 2 rfl) ?_
      refine lv_iload hx hb dX2_join_51 (lv_at hl 0 rfl) ?_
      refine lv_iload hx hb dX2_join_53 (lv_at hl 1 rfl) ?_
      obtain ⟨v_ends_9, hc_10, h⟩ := bi_some h
      refine rd_callVv [.int x4_2, .int x6_6, .int x5_4] [] (wr := []) (W1 := wd_X2 cI cZ cP a_this a_found a_free a_ends a_stamps a_ways v_all v_days v_search v_found v_free v_ends_9 v_stamps v_ways) (ci := 2) ⟨hx, hb, hml, hown, hts⟩ (c_X2_setEnd l D cI cZ cP a_this a_found a_free a_ends a_stamps a_ways v_all v_days v_search v_found v_free v_ends_7 v_stamps v_ways x4_2 x6_6 x5_4 v_ends_9 hc_10) (cwV 3 hts gX2_join_X2_setEnd rfl rfl rfl (by decide +kernel) ⟨Nat.le_of_ble_eq_true rfl, Nat.le_of_ble_eq_true rfl⟩) rfl rfl hl.1 (Nat.le_of_ble_eq_true rfl) dX2_join_55 ⟨Nat.zero_le _, Nat.zero_le _⟩ hK hP hD hS hA rfl rfl [0, 1, 2, 3, 4, 5] [] [0, 1, 2, 3, 4, 5] ⟨⟨rfl, rfl, rfl⟩, by decide⟩ (fun H locs hP hD hS => ?_)
      obtain ⟨x3_11, ex3_11, h⟩ := bd_some h
      refine lv_iinc (v := x3_11) (lv' := [(3, .int x3_11), (6, .int x6_6), (5, .int x5_4), (4, .int x4_2), (0, .ref a_this), (1, .int p1), (2, .int p2)]) hx hb dX2_join_58 hl (k := 6) rfl (by rw [ex3_11]; rfl) (by decide) rfl (fun ls hl => ?_)
      refine lv_goto (tgt := 2) hx hb dX2_join_61 (by decide) ?_
      exact hself x3_11 v_ends_9 h _ _ _ hP hD hS (lv_sub hl [4, 5, 6, 0] rfl)
  refine lv_iconst (v := 0) hx hb dX2_join_0 (by decide) ?_
  refine lv_istore_n (lv' := [(3, .int (0 : Int32)), (0, .ref a_this), (1, .int p1), (2, .int p2)]) hx hb dX2_join_1 rfl hl (by decide) rfl (fun ls hl => ?_)
  exact w2 20000 (0 : Int32) v_ends h _ _ _ hP hD hS (lv_sub hl [1, 2, 3, 0] rfl)
theorem in_X2_part_X2 : ∀ w ∈ wsX20, w ∈ wsX2_part := by decide +kernel
def f_X2_part_L2 (v_days : Int32) (p1 : Int32) (p2 : Int32) (self : Int32 × (Nat → Int32) → Option ((Nat → Int32))) : Int32 × (Nat → Int32) → Option ((Nat → Int32)) := fun st => match st with | (x3, v_ends) => if v_days ≤ x3 then some v_ends else bd (x3 * (14 : Int32)) (fun x4_2 => if inb (x4_2 + p1) 182 then (f_X2_setEnd v_ends x4_2 (v_ends (x4_2 + p1).toNatClampNeg) p1).bind (fun v_ends_4 => if inb (x4_2 + p2) 182 then (f_X2_setEnd v_ends_4 x4_2 (v_ends_4 (x4_2 + p2).toNatClampNeg) p2).bind (fun v_ends_7 => bd (x3 + (1 : Int32)) (fun x3_9 => self (x3_9, v_ends_7))) else none) else none)
def f_X2_part (v_days : Int32) (v_ends : Nat → Int32) (p1 : Int32) (p2 : Int32) : Option ((Nat → Int32)) := lp (f_X2_part_L2 v_days p1 p2) 20000 ((0 : Int32), v_ends)
set_option maxHeartbeats 4000000 in
set_option maxRecDepth 100000 in
theorem c_X2_part (l : Launch) (D : va_G) (cI cZ cP : ClassId) (a_this : Nat) (a_found : Nat) (a_free : Nat) (a_ends : Nat) (a_stamps : Nat) (a_ways : Nat) (v_all : Int32) (v_days : Int32) (v_search : Int32) (v_found : Nat → Int32) (v_free : Nat → Int32) (v_ends : Nat → Int32) (v_stamps : Nat → Int32) (v_ways : Nat → Int32) (p1 : Int32) (p2 : Int32) (nv_ends : Nat → Int32) (h : f_X2_part v_days v_ends p1 p2 = some nv_ends) : rd_V l yX2_part wsX2_part { frames := 1, cells := 0, slots := 0, locals := 23 } [.ref a_this, .int p1, .int p2] D (tyA cI cZ cP) (wd_X2 cI cZ cP a_this a_found a_free a_ends a_stamps a_ways v_all v_days v_search v_found v_free v_ends v_stamps v_ways) (wd_X2 cI cZ cP a_this a_found a_free a_ends a_stamps a_ways v_all v_days v_search v_found v_free nv_ends v_stamps v_ways) := by
  unfold f_X2_part at h
  refine rd_enterV (cc := cX2_part) (maxL := 5) (by decide) rfl (Nat.le_of_ble_eq_true rfl) ?_
  intro p e s m args below meth c A Q ls hx hb hml hown hts hA hK hP hD hS hl hret
  have hl : lv_has ls 5 [(0, .ref a_this), (1, .int p1), (2, .int p2)] := hl
  have kw1 := hts (.fieldLink RX2 73 "RoundDays$Finder" "days" "I") (List.mem_of_getElem? (i := 1) rfl)
  have kw2 := hts (.fieldLink RX2 18 "RoundDays$Finder" "ends" "[I") (List.mem_of_getElem? (i := 2) rfl)
  have w2 : ∀ n : Nat, ∀ (x3 : Int32) (v_ends : Nat → Int32), lp (f_X2_part_L2 v_days p1 p2) n (x3, v_ends) = some nv_ends → ∀ (H : Heap) (locs : List Loc) (ls : Array Slot), va_P D vwCl (wd_X2 cI cZ cP a_this a_found a_free a_ends a_stamps a_ways v_all v_days v_search v_found v_free v_ends v_stamps v_ways) H → va_D A (wd_X2 cI cZ cP a_this a_found a_free a_ends a_stamps a_ways v_all v_days v_search v_found v_free v_ends v_stamps v_ways) → va_S A s.heap H locs → lv_has ls 5 [(0, .ref a_this), (1, .int p1), (2, .int p2), (3, .int x3)] → W p l e { frames := 1, cells := 0, slots := 0, locals := 23 } s m args below meth c H locs 0 0 Q (F0 m 2 ls []) := by
    refine fun n x3 v_ends h => lp_walk (b := f_X2_part_L2 v_days p1 p2) (r := nv_ends) (P := fun st => match st with | (x3, v_ends) => ∀ (H : Heap) (locs : List Loc) (ls : Array Slot), va_P D vwCl (wd_X2 cI cZ cP a_this a_found a_free a_ends a_stamps a_ways v_all v_days v_search v_found v_free v_ends v_stamps v_ways) H → va_D A (wd_X2 cI cZ cP a_this a_found a_free a_ends a_stamps a_ways v_all v_days v_search v_found v_free v_ends v_stamps v_ways) → va_S A s.heap H locs → lv_has ls 5 [(0, .ref a_this), (1, .int p1), (2, .int p2), (3, .int x3)] → W p l e { frames := 1, cells := 0, slots := 0, locals := 23 } s m args below meth c H locs 0 0 Q (F0 m 2 ls [])) (fun self hself0 st h => ?_) n (x3, v_ends) h
    obtain ⟨x3, v_ends⟩ := st
    have hself : ∀ (x3 : Int32) (v_ends : Nat → Int32), self (x3, v_ends) = some nv_ends → ∀ (H : Heap) (locs : List Loc) (ls : Array Slot), va_P D vwCl (wd_X2 cI cZ cP a_this a_found a_free a_ends a_stamps a_ways v_all v_days v_search v_found v_free v_ends v_stamps v_ways) H → va_D A (wd_X2 cI cZ cP a_this a_found a_free a_ends a_stamps a_ways v_all v_days v_search v_found v_free v_ends v_stamps v_ways) → va_S A s.heap H locs → lv_has ls 5 [(0, .ref a_this), (1, .int p1), (2, .int p2), (3, .int x3)] → W p l e { frames := 1, cells := 0, slots := 0, locals := 23 } s m args below meth c H locs 0 0 Q (F0 m 2 ls []) := fun x3 v_ends h => hself0 (x3, v_ends) h
    clear hself0
    intro H locs ls hP hD hS hl
    replace h : (if v_days ≤ x3 then some v_ends else bd (x3 * (14 : Int32)) (fun x4_2 => if inb (x4_2 + p1) 182 then (f_X2_setEnd v_ends x4_2 (v_ends (x4_2 + p1).toNatClampNeg) p1).bind (fun v_ends_4 => if inb (x4_2 + p2) 182 then (f_X2_setEnd v_ends_4 x4_2 (v_ends_4 (x4_2 + p2).toNatClampNeg) p2).bind (fun v_ends_7 => bd (x3 + (1 : Int32)) (fun x3_9 => self (x3_9, v_ends_7))) else none) else none)) = some nv_ends := h
    refine lv_iload_n hx hb dX2_part_2 rfl (lv_at hl 3 rfl) ?_
    refine lv_aload_n hx hb dX2_part_3 rfl (lv_at hl 0 rfl) ?_
    refine va_get (D := D) (ci := 2) (v := .int v_days) (C := RX2) (T := TX2) (N := 8) hx hb hts in_X2_part_X2 hown hK hP 0 rfl rfl 3 (by decide) kw1 (fun _ h9 => h9) rfl dX2_part_4 ?_
    refine lv_icmp_ge (tgt := 54) hx hb dX2_part_7 (by decide) (fun c_1 => ?_) (fun c_1 => ?_)
    · replace h := it_pos h c_1
      obtain rfl := inj1 h
      exact hret dX2_part_54 hP hD hS
    · replace h := it_neg h c_1
      refine lv_iload_n hx hb dX2_part_10 rfl (lv_at hl 3 rfl) ?_
      refine lv_bipush (v := 14) hx hb dX2_part_11 (by decide) ?_
      refine lv_imul hx hb dX2_part_13 ?_
      obtain ⟨x4_2, ex4_2, h⟩ := bd_some h
      refine rd_top ex4_2 ?_
      refine lv_istore (lv' := [(4, .int x4_2), (0, .ref a_this), (1, .int p1), (2, .int p2), (3, .int x3)]) hx hb dX2_part_14 hl (by decide) rfl (fun ls hl => ?_)
      refine lv_aload_n hx hb dX2_part_16 rfl (lv_at hl 1 rfl) ?_
      refine lv_iload hx hb dX2_part_17 (lv_at hl 0 rfl) ?_
      refine lv_aload_n hx hb dX2_part_19 rfl (lv_at hl 1 rfl) ?_
      refine va_get (D := D) (ci := 2) (v := .ref a_ends) (C := RX2) (T := TX2) (N := 8) hx hb hts in_X2_part_X2 hown hK hP 0 rfl rfl 4 (by decide) kw2 (fun _ h9 => h9) rfl dX2_part_20 ?_
      refine lv_iload hx hb dX2_part_23 (lv_at hl 0 rfl) ?_
      refine lv_iload_n hx hb dX2_part_25 rfl (lv_at hl 2 rfl) ?_
      refine lv_iadd hx hb dX2_part_26 ?_
      obtain ⟨hi_3, h⟩ := gd_some h
      refine va_iald hx hb hK hP 3 0 rfl rfl (inb_in hi_3) dX2_part_27 ?_
      refine lv_iload_n hx hb dX2_part_28 rfl (lv_at hl 2 rfl) ?_
      obtain ⟨v_ends_4, hc_5, h⟩ := bi_some h
      refine rd_callVv [.int x4_2, .int (v_ends (x4_2 + p1).toNatClampNeg), .int p1] [] (wr := []) (W1 := wd_X2 cI cZ cP a_this a_found a_free a_ends a_stamps a_ways v_all v_days v_search v_found v_free v_ends_4 v_stamps v_ways) (ci := 2) ⟨hx, hb, hml, hown, hts⟩ (c_X2_setEnd l D cI cZ cP a_this a_found a_free a_ends a_stamps a_ways v_all v_days v_search v_found v_free v_ends v_stamps v_ways x4_2 (v_ends (x4_2 + p1).toNatClampNeg) p1 v_ends_4 hc_5) (cwV 3 hts gX2_part_X2_setEnd rfl rfl rfl (by decide +kernel) ⟨Nat.le_of_ble_eq_true rfl, Nat.le_of_ble_eq_true rfl⟩) rfl rfl hl.1 (Nat.le_of_ble_eq_true rfl) dX2_part_29 ⟨Nat.zero_le _, Nat.zero_le _⟩ hK hP hD hS hA rfl rfl [0, 1, 2, 3, 4, 5] [] [0, 1, 2, 3, 4, 5] ⟨⟨rfl, rfl, rfl⟩, by decide⟩ (fun H locs hP hD hS => ?_)
      refine lv_aload_n hx hb dX2_part_32 rfl (lv_at hl 1 rfl) ?_
      refine lv_iload hx hb dX2_part_33 (lv_at hl 0 rfl) ?_
      refine lv_aload_n hx hb dX2_part_35 rfl (lv_at hl 1 rfl) ?_
      refine va_get (D := D) (ci := 2) (v := .ref a_ends) (C := RX2) (T := TX2) (N := 8) hx hb hts in_X2_part_X2 hown hK hP 0 rfl rfl 4 (by decide) kw2 (fun _ h9 => h9) rfl dX2_part_36 ?_
      refine lv_iload hx hb dX2_part_39 (lv_at hl 0 rfl) ?_
      refine lv_iload_n hx hb dX2_part_41 rfl (lv_at hl 3 rfl) ?_
      refine lv_iadd hx hb dX2_part_42 ?_
      obtain ⟨hi_6, h⟩ := gd_some h
      refine va_iald hx hb hK hP 3 0 rfl rfl (inb_in hi_6) dX2_part_43 ?_
      refine lv_iload_n hx hb dX2_part_44 rfl (lv_at hl 3 rfl) ?_
      obtain ⟨v_ends_7, hc_8, h⟩ := bi_some h
      refine rd_callVv [.int x4_2, .int (v_ends_4 (x4_2 + p2).toNatClampNeg), .int p2] [] (wr := []) (W1 := wd_X2 cI cZ cP a_this a_found a_free a_ends a_stamps a_ways v_all v_days v_search v_found v_free v_ends_7 v_stamps v_ways) (ci := 2) ⟨hx, hb, hml, hown, hts⟩ (c_X2_setEnd l D cI cZ cP a_this a_found a_free a_ends a_stamps a_ways v_all v_days v_search v_found v_free v_ends_4 v_stamps v_ways x4_2 (v_ends_4 (x4_2 + p2).toNatClampNeg) p2 v_ends_7 hc_8) (cwV 3 hts gX2_part_X2_setEnd rfl rfl rfl (by decide +kernel) ⟨Nat.le_of_ble_eq_true rfl, Nat.le_of_ble_eq_true rfl⟩) rfl rfl hl.1 (Nat.le_of_ble_eq_true rfl) dX2_part_45 ⟨Nat.zero_le _, Nat.zero_le _⟩ hK hP hD hS hA rfl rfl [0, 1, 2, 3, 4, 5] [] [0, 1, 2, 3, 4, 5] ⟨⟨rfl, rfl, rfl⟩, by decide⟩ (fun H locs hP hD hS => ?_)
      obtain ⟨x3_9, ex3_9, h⟩ := bd_some h
      refine lv_iinc (v := x3_9) (lv' := [(3, .int x3_9), (4, .int x4_2), (0, .ref a_this), (1, .int p1), (2, .int p2)]) hx hb dX2_part_48 hl (k := 4) rfl (by rw [ex3_9]; rfl) (by decide) rfl (fun ls hl => ?_)
      refine lv_goto (tgt := 2) hx hb dX2_part_51 (by decide) ?_
      exact hself x3_9 v_ends_7 h _ _ _ hP hD hS (lv_sub hl [2, 3, 4, 0] rfl)
  refine lv_iconst (v := 0) hx hb dX2_part_0 (by decide) ?_
  refine lv_istore_n (lv' := [(3, .int (0 : Int32)), (0, .ref a_this), (1, .int p1), (2, .int p2)]) hx hb dX2_part_1 rfl hl (by decide) rfl (fun ls hl => ?_)
  exact w2 20000 (0 : Int32) v_ends h _ _ _ hP hD hS (lv_sub hl [1, 2, 3, 0] rfl)
theorem in_X2_bestFrom_X2 : ∀ w ∈ wsX20, w ∈ wsX2_bestFrom := by decide +kernel
def f_X2_bestFrom_L44 (self_ : (Nat → Int32) × (Nat → Int32) × Int32 × Int32 → Option (Int32 × (Nat → Int32) × (Nat → Int32))) (v_days : Int32) (v_free : Nat → Int32) (p1 : Int32) (p2 : Int32) (x3 : Int32) (x4 : Int32) (self : Int32 × (Nat → Int32) × (Nat → Int32) → Option (Int32 × (Nat → Int32) × (Nat → Int32))) : Int32 × (Nat → Int32) × (Nat → Int32) → Option (Int32 × (Nat → Int32) × (Nat → Int32)) := fun st => match st with | (x5, v_found, v_ends) => if (14 : Int32) ≤ x5 then some ((0 : Int32), v_found, v_ends) else if ((x4 >>> (x5 &&& (31 : Int32))) &&& (1 : Int32)) = (1 : Int32) then (f_X2_join v_days v_ends x3 x5).bind (fun v_ends_4 => (self_ (v_found, v_ends_4, (p1 &&& ((((1 : Int32) <<< (x3 &&& (31 : Int32))) ||| ((1 : Int32) <<< (x5 &&& (31 : Int32)))) ^^^ (-1 : Int32))), (x3 + (1 : Int32)))).bind (fun t => match t with | (r_6, v_found_7, v_ends_8) => if r_6 = 0 then (f_X2_part v_days v_ends_8 x3 x5).bind (fun v_ends_11 => bd (x5 + (1 : Int32)) (fun x5_13 => self (x5_13, v_found_7, v_ends_11))) else if inb x3 14 then bd (upd v_found_7 x3.toNatClampNeg x5) (fun v_found_15 => if inb x5 14 then bd (upd v_found_15 x5.toNatClampNeg x3) (fun v_found_17 => some ((1 : Int32), v_found_17, v_ends_8)) else none) else none)) else bd (x5 + (1 : Int32)) (fun x5_3 => self (x5_3, v_found, v_ends))
def f_X2_bestFrom_B (v_days : Int32) (v_free : Nat → Int32) (self_ : (Nat → Int32) × (Nat → Int32) × Int32 × Int32 → Option (Int32 × (Nat → Int32) × (Nat → Int32))) : (Nat → Int32) × (Nat → Int32) × Int32 × Int32 → Option (Int32 × (Nat → Int32) × (Nat → Int32)) := fun st => match st with | (v_found, v_ends, p1, p2) => if p1 = 0 then some ((1 : Int32), v_found, v_ends) else (f_X2_lowest p1 p2).bind (fun r_19 => if r_19 < (14 : Int32) then if inb r_19 14 then (f_X2_closers v_days v_ends p1 r_19).bind (fun r_23 => bd (((v_free r_19.toNatClampNeg) &&& p1) &&& (r_23 ^^^ (-1 : Int32))) (fun x4_25 => bd (r_19 + (1 : Int32)) (fun x5_26 => lp (f_X2_bestFrom_L44 self_ v_days v_free p1 p2 r_19 x4_25) 20000 (x5_26, v_found, v_ends)))) else none else some ((0 : Int32), v_found, v_ends))
def f_X2_bestFrom (v_days : Int32) (v_free : Nat → Int32) : Nat → (Nat → Int32) × (Nat → Int32) × Int32 × Int32 → Option (Int32 × (Nat → Int32) × (Nat → Int32)) := lp (f_X2_bestFrom_B v_days v_free)
set_option maxHeartbeats 4000000 in
set_option maxRecDepth 100000 in
theorem c_X2_bestFrom (dp : Nat) (l : Launch) (D : va_G) (cI cZ cP : ClassId) (a_this : Nat) (a_found : Nat) (a_free : Nat) (a_ends : Nat) (a_stamps : Nat) (a_ways : Nat) (v_all : Int32) (v_days : Int32) (v_search : Int32) (v_found : Nat → Int32) (v_free : Nat → Int32) (v_ends : Nat → Int32) (v_stamps : Nat → Int32) (v_ways : Nat → Int32) (p1 : Int32) (p2 : Int32) (r : Int32) (nv_found : Nat → Int32) (nv_ends : Nat → Int32) (h : f_X2_bestFrom v_days v_free dp (v_found, v_ends, p1, p2) = some (r, nv_found, nv_ends)) : rd_I l yX2_bestFrom wsX2_bestFrom { frames := dp + 2, cells := 0, slots := 0, locals := 25 * dp + 49 } [.ref a_this, .int p1, .int p2] D (tyA cI cZ cP) (wd_X2 cI cZ cP a_this a_found a_free a_ends a_stamps a_ways v_all v_days v_search v_found v_free v_ends v_stamps v_ways) (wd_X2 cI cZ cP a_this a_found a_free a_ends a_stamps a_ways v_all v_days v_search nv_found v_free nv_ends v_stamps v_ways) r := by
  induction dp generalizing v_found v_ends p1 p2 r nv_found nv_ends with
  | zero => cases h
  | succ dp ih =>
    replace h : f_X2_bestFrom_B v_days v_free (f_X2_bestFrom v_days v_free dp) (v_found, v_ends, p1, p2) = some (r, nv_found, nv_ends) := h
    have hself_ := ih
    generalize f_X2_bestFrom v_days v_free dp = self_ at h hself_
    clear ih
    unfold f_X2_bestFrom_B at h
    refine rd_enterZ (cc := cX2_bestFrom) (maxL := 6) (by decide) rfl (Nat.le_of_ble_eq_true rfl) ?_
    intro p e s m args below meth c A Q ls hx hb hml hown hts hA hK hP hD hS hl hret
    have hl : lv_has ls 6 [(0, .ref a_this), (1, .int p1), (2, .int p2)] := hl
    have kw1 := hts (.fieldLink RX2 15 "RoundDays$Finder" "free" "[I") (List.mem_of_getElem? (i := 1) rfl)
    have kw2 := hts (.fieldLink RX2 9 "RoundDays$Finder" "found" "[I") (List.mem_of_getElem? (i := 2) rfl)
    have w44 : ∀ x3 : Int32, ∀ x4 : Int32, ∀ n : Nat, ∀ (x5 : Int32) (v_found : Nat → Int32) (v_ends : Nat → Int32), lp (f_X2_bestFrom_L44 self_ v_days v_free p1 p2 x3 x4) n (x5, v_found, v_ends) = some (r, nv_found, nv_ends) → ∀ (H : Heap) (locs : List Loc) (ls : Array Slot), va_P D vwCl (wd_X2 cI cZ cP a_this a_found a_free a_ends a_stamps a_ways v_all v_days v_search v_found v_free v_ends v_stamps v_ways) H → va_D A (wd_X2 cI cZ cP a_this a_found a_free a_ends a_stamps a_ways v_all v_days v_search v_found v_free v_ends v_stamps v_ways) → va_S A s.heap H locs → lv_has ls 6 [(0, .ref a_this), (1, .int p1), (3, .int x3), (4, .int x4), (5, .int x5)] → W p l e { frames := dp + 1 + 2, cells := 0, slots := 0, locals := 25 * (dp + 1) + 49 } s m args below meth c H locs 0 0 Q (F0 m 44 ls []) := by
      intro x3 x4
      refine fun n x5 v_found v_ends h => lp_walk (b := f_X2_bestFrom_L44 self_ v_days v_free p1 p2 x3 x4) (r := (r, nv_found, nv_ends)) (P := fun st => match st with | (x5, v_found, v_ends) => ∀ (H : Heap) (locs : List Loc) (ls : Array Slot), va_P D vwCl (wd_X2 cI cZ cP a_this a_found a_free a_ends a_stamps a_ways v_all v_days v_search v_found v_free v_ends v_stamps v_ways) H → va_D A (wd_X2 cI cZ cP a_this a_found a_free a_ends a_stamps a_ways v_all v_days v_search v_found v_free v_ends v_stamps v_ways) → va_S A s.heap H locs → lv_has ls 6 [(0, .ref a_this), (1, .int p1), (3, .int x3), (4, .int x4), (5, .int x5)] → W p l e { frames := dp + 1 + 2, cells := 0, slots := 0, locals := 25 * (dp + 1) + 49 } s m args below meth c H locs 0 0 Q (F0 m 44 ls [])) (fun self hself0 st h => ?_) n (x5, v_found, v_ends) h
      obtain ⟨x5, v_found, v_ends⟩ := st
      have hself : ∀ (x5 : Int32) (v_found : Nat → Int32) (v_ends : Nat → Int32), self (x5, v_found, v_ends) = some (r, nv_found, nv_ends) → ∀ (H : Heap) (locs : List Loc) (ls : Array Slot), va_P D vwCl (wd_X2 cI cZ cP a_this a_found a_free a_ends a_stamps a_ways v_all v_days v_search v_found v_free v_ends v_stamps v_ways) H → va_D A (wd_X2 cI cZ cP a_this a_found a_free a_ends a_stamps a_ways v_all v_days v_search v_found v_free v_ends v_stamps v_ways) → va_S A s.heap H locs → lv_has ls 6 [(0, .ref a_this), (1, .int p1), (3, .int x3), (4, .int x4), (5, .int x5)] → W p l e { frames := dp + 1 + 2, cells := 0, slots := 0, locals := 25 * (dp + 1) + 49 } s m args below meth c H locs 0 0 Q (F0 m 44 ls []) := fun x5 v_found v_ends h => hself0 (x5, v_found, v_ends) h
      clear hself0
      intro H locs ls hP hD hS hl
      replace h : (if (14 : Int32) ≤ x5 then some ((0 : Int32), v_found, v_ends) else if ((x4 >>> (x5 &&& (31 : Int32))) &&& (1 : Int32)) = (1 : Int32) then (f_X2_join v_days v_ends x3 x5).bind (fun v_ends_4 => (self_ (v_found, v_ends_4, (p1 &&& ((((1 : Int32) <<< (x3 &&& (31 : Int32))) ||| ((1 : Int32) <<< (x5 &&& (31 : Int32)))) ^^^ (-1 : Int32))), (x3 + (1 : Int32)))).bind (fun t => match t with | (r_6, v_found_7, v_ends_8) => if r_6 = 0 then (f_X2_part v_days v_ends_8 x3 x5).bind (fun v_ends_11 => bd (x5 + (1 : Int32)) (fun x5_13 => self (x5_13, v_found_7, v_ends_11))) else if inb x3 14 then bd (upd v_found_7 x3.toNatClampNeg x5) (fun v_found_15 => if inb x5 14 then bd (upd v_found_15 x5.toNatClampNeg x3) (fun v_found_17 => some ((1 : Int32), v_found_17, v_ends_8)) else none) else none)) else bd (x5 + (1 : Int32)) (fun x5_3 => self (x5_3, v_found, v_ends))) = some (r, nv_found, nv_ends) := h
      refine lv_iload hx hb dX2_bestFrom_44 (lv_at hl 4 rfl) ?_
      refine lv_bipush (v := 14) hx hb dX2_bestFrom_46 (by decide) ?_
      refine lv_icmp_ge (tgt := 122) hx hb dX2_bestFrom_48 (by decide) (fun c_1 => ?_) (fun c_1 => ?_)
      · replace h := it_pos h c_1
        refine lv_iconst (v := 0) hx hb dX2_bestFrom_122 (by decide) ?_
        obtain ⟨rfl, rfl, rfl⟩ := inj3 h
        exact hret (by decide) dX2_bestFrom_123 hP hD hS
      · replace h := it_neg h c_1
        refine lv_iload hx hb dX2_bestFrom_51 (lv_at hl 3 rfl) ?_
        refine lv_iload hx hb dX2_bestFrom_53 (lv_at hl 4 rfl) ?_
        refine lv_ishr hx hb dX2_bestFrom_55 ?_
        refine lv_iconst (v := 1) hx hb dX2_bestFrom_56 (by decide) ?_
        refine lv_iand hx hb dX2_bestFrom_57 ?_
        refine lv_iconst (v := 1) hx hb dX2_bestFrom_58 (by decide) ?_
        refine lv_icmp_ne (tgt := 116) hx hb dX2_bestFrom_59 (by decide) (fun c_2 => ?_) (fun c_2 => ?_)
        · replace h := it_neg h c_2
          obtain ⟨x5_3, ex5_3, h⟩ := bd_some h
          refine lv_iinc (v := x5_3) (lv' := [(5, .int x5_3), (0, .ref a_this), (1, .int p1), (3, .int x3), (4, .int x4)]) hx hb dX2_bestFrom_116 hl (k := 4) rfl (by rw [ex5_3]; rfl) (by decide) rfl (fun ls hl => ?_)
          refine lv_goto (tgt := 44) hx hb dX2_bestFrom_119 (by decide) ?_
          exact hself x5_3 v_found v_ends h _ _ _ hP hD hS (lv_sub hl [1, 2, 3, 4, 0] rfl)
        · replace h := it_pos h c_2
          refine lv_aload_n hx hb dX2_bestFrom_62 rfl (lv_at hl 0 rfl) ?_
          refine lv_iload_n hx hb dX2_bestFrom_63 rfl (lv_at hl 2 rfl) ?_
          refine lv_iload hx hb dX2_bestFrom_64 (lv_at hl 4 rfl) ?_
          obtain ⟨v_ends_4, hc_5, h⟩ := bi_some h
          refine rd_callVv [.int x3, .int x5] [] (wr := []) (W1 := wd_X2 cI cZ cP a_this a_found a_free a_ends a_stamps a_ways v_all v_days v_search v_found v_free v_ends_4 v_stamps v_ways) (ci := 2) ⟨hx, hb, hml, hown, hts⟩ (c_X2_join l D cI cZ cP a_this a_found a_free a_ends a_stamps a_ways v_all v_days v_search v_found v_free v_ends v_stamps v_ways x3 x5 v_ends_4 hc_5) (cwV 2 hts gX2_bestFrom_X2_join rfl rfl rfl (by decide +kernel) ⟨by show _ ≤ _; dsimp only; omega, by show _ ≤ _; dsimp only; omega⟩) rfl rfl hl.1 (Nat.le_of_ble_eq_true rfl) dX2_bestFrom_66 ⟨Nat.zero_le _, Nat.zero_le _⟩ hK hP hD hS hA rfl rfl [0, 1, 2, 3, 4, 5] [] [0, 1, 2, 3, 4, 5] ⟨⟨rfl, rfl, rfl⟩, by decide⟩ (fun H locs hP hD hS => ?_)
          refine lv_aload_n hx hb dX2_bestFrom_69 rfl (lv_at hl 0 rfl) ?_
          refine lv_iload_n hx hb dX2_bestFrom_70 rfl (lv_at hl 1 rfl) ?_
          refine lv_iconst (v := 1) hx hb dX2_bestFrom_71 (by decide) ?_
          refine lv_iload_n hx hb dX2_bestFrom_72 rfl (lv_at hl 2 rfl) ?_
          refine lv_ishl hx hb dX2_bestFrom_73 ?_
          refine lv_iconst (v := 1) hx hb dX2_bestFrom_74 (by decide) ?_
          refine lv_iload hx hb dX2_bestFrom_75 (lv_at hl 4 rfl) ?_
          refine lv_ishl hx hb dX2_bestFrom_77 ?_
          refine lv_ior hx hb dX2_bestFrom_78 ?_
          refine lv_iconst (v := -1) hx hb dX2_bestFrom_79 (by decide) ?_
          refine lv_ixor hx hb dX2_bestFrom_80 ?_
          refine lv_iand hx hb dX2_bestFrom_81 ?_
          refine lv_iload_n hx hb dX2_bestFrom_82 rfl (lv_at hl 2 rfl) ?_
          refine lv_iconst (v := 1) hx hb dX2_bestFrom_83 (by decide) ?_
          refine lv_iadd hx hb dX2_bestFrom_84 ?_
          obtain ⟨⟨r_6, v_found_7, v_ends_8⟩, hc_9, h⟩ := bi_some h
          refine rd_callVi [.int (p1 &&& ((((1 : Int32) <<< (x3 &&& (31 : Int32))) ||| ((1 : Int32) <<< (x5 &&& (31 : Int32)))) ^^^ (-1 : Int32))), .int (x3 + (1 : Int32))] [] (wr := []) (W1 := wd_X2 cI cZ cP a_this a_found a_free a_ends a_stamps a_ways v_all v_days v_search v_found_7 v_free v_ends_8 v_stamps v_ways) (ci := 2) ⟨hx, hb, hml, hown, hts⟩ (hself_  v_found v_ends_4 (p1 &&& ((((1 : Int32) <<< (x3 &&& (31 : Int32))) ||| ((1 : Int32) <<< (x5 &&& (31 : Int32)))) ^^^ (-1 : Int32))) (x3 + (1 : Int32)) r_6 v_found_7 v_ends_8 hc_9) (cwV 2 hts gX2_bestFrom_X2_bestFrom rfl rfl rfl (by decide +kernel) ⟨by show _ ≤ _; dsimp only; omega, by show _ ≤ _; dsimp only; omega⟩) rfl rfl hl.1 (Nat.le_of_ble_eq_true rfl) dX2_bestFrom_85 ⟨Nat.zero_le _, Nat.zero_le _⟩ hK hP hD hS hA rfl rfl [0, 1, 2, 3, 4, 5] [] [0, 1, 2, 3, 4, 5] ⟨⟨rfl, rfl, rfl⟩, by decide⟩ (fun H locs hP hD hS => ?_)
          refine lv_if_eq (tgt := 109) hx hb dX2_bestFrom_88 (by decide) (fun c_10 => ?_) (fun c_10 => ?_)
          · replace h := it_pos h c_10
            refine lv_aload_n hx hb dX2_bestFrom_109 rfl (lv_at hl 0 rfl) ?_
            refine lv_iload_n hx hb dX2_bestFrom_110 rfl (lv_at hl 2 rfl) ?_
            refine lv_iload hx hb dX2_bestFrom_111 (lv_at hl 4 rfl) ?_
            obtain ⟨v_ends_11, hc_12, h⟩ := bi_some h
            refine rd_callVv [.int x3, .int x5] [] (wr := []) (W1 := wd_X2 cI cZ cP a_this a_found a_free a_ends a_stamps a_ways v_all v_days v_search v_found_7 v_free v_ends_11 v_stamps v_ways) (ci := 2) ⟨hx, hb, hml, hown, hts⟩ (c_X2_part l D cI cZ cP a_this a_found a_free a_ends a_stamps a_ways v_all v_days v_search v_found_7 v_free v_ends_8 v_stamps v_ways x3 x5 v_ends_11 hc_12) (cwV 2 hts gX2_bestFrom_X2_part rfl rfl rfl (by decide +kernel) ⟨by show _ ≤ _; dsimp only; omega, by show _ ≤ _; dsimp only; omega⟩) rfl rfl hl.1 (Nat.le_of_ble_eq_true rfl) dX2_bestFrom_113 ⟨Nat.zero_le _, Nat.zero_le _⟩ hK hP hD hS hA rfl rfl [0, 1, 2, 3, 4, 5] [] [0, 1, 2, 3, 4, 5] ⟨⟨rfl, rfl, rfl⟩, by decide⟩ (fun H locs hP hD hS => ?_)
            obtain ⟨x5_13, ex5_13, h⟩ := bd_some h
            refine lv_iinc (v := x5_13) (lv' := [(5, .int x5_13), (0, .ref a_this), (1, .int p1), (3, .int x3), (4, .int x4)]) hx hb dX2_bestFrom_116 hl (k := 4) rfl (by rw [ex5_13]; rfl) (by decide) rfl (fun ls hl => ?_)
            refine lv_goto (tgt := 44) hx hb dX2_bestFrom_119 (by decide) ?_
            exact hself x5_13 v_found_7 v_ends_11 h _ _ _ hP hD hS (lv_sub hl [1, 2, 3, 4, 0] rfl)
          · replace h := it_neg h c_10
            refine lv_aload_n hx hb dX2_bestFrom_91 rfl (lv_at hl 0 rfl) ?_
            refine va_get (D := D) (ci := 2) (v := .ref a_found) (C := RX2) (T := TX2) (N := 8) hx hb hts in_X2_bestFrom_X2 hown hK hP 0 rfl rfl 0 (by decide) kw2 (fun _ h9 => h9) rfl dX2_bestFrom_92 ?_
            refine lv_iload_n hx hb dX2_bestFrom_95 rfl (lv_at hl 2 rfl) ?_
            refine lv_iload hx hb dX2_bestFrom_96 (lv_at hl 4 rfl) ?_
            obtain ⟨hi_14, h⟩ := gd_some h
            obtain ⟨v_found_15, ev_found_15, h⟩ := bd_some h
            refine rd_iast (W1 := wd_X2 cI cZ cP a_this a_found a_free a_ends a_stamps a_ways v_all v_days v_search v_found_15 v_free v_ends_8 v_stamps v_ways) hx hb hK hP hD hS 1 0 rfl rfl hi_14 ev_found_15 rfl dX2_bestFrom_98 (fun H locs hP hD hS => ?_)
            refine lv_aload_n hx hb dX2_bestFrom_99 rfl (lv_at hl 0 rfl) ?_
            refine va_get (D := D) (ci := 2) (v := .ref a_found) (C := RX2) (T := TX2) (N := 8) hx hb hts in_X2_bestFrom_X2 hown hK hP 0 rfl rfl 0 (by decide) kw2 (fun _ h9 => h9) rfl dX2_bestFrom_100 ?_
            refine lv_iload hx hb dX2_bestFrom_103 (lv_at hl 4 rfl) ?_
            refine lv_iload_n hx hb dX2_bestFrom_105 rfl (lv_at hl 2 rfl) ?_
            obtain ⟨hi_16, h⟩ := gd_some h
            obtain ⟨v_found_17, ev_found_17, h⟩ := bd_some h
            refine rd_iast (W1 := wd_X2 cI cZ cP a_this a_found a_free a_ends a_stamps a_ways v_all v_days v_search v_found_17 v_free v_ends_8 v_stamps v_ways) hx hb hK hP hD hS 1 0 rfl rfl hi_16 ev_found_17 rfl dX2_bestFrom_106 (fun H locs hP hD hS => ?_)
            refine lv_iconst (v := 1) hx hb dX2_bestFrom_107 (by decide) ?_
            obtain ⟨rfl, rfl, rfl⟩ := inj3 h
            exact hret (by decide) dX2_bestFrom_108 hP hD hS
    refine lv_iload_n hx hb dX2_bestFrom_0 rfl (lv_at hl 1 rfl) ?_
    refine lv_if_ne (tgt := 6) hx hb dX2_bestFrom_1 (by decide) (fun c_18 => ?_) (fun c_18 => ?_)
    · replace h := it_neg h c_18
      refine lv_iload_n hx hb dX2_bestFrom_6 rfl (lv_at hl 1 rfl) ?_
      refine lv_iload_n hx hb dX2_bestFrom_7 rfl (lv_at hl 2 rfl) ?_
      obtain ⟨r_19, hc_20, h⟩ := bi_some h
      refine rd_callSi [.int p1, .int p2] [] (wr := [(a_this, .inr (2, [.ref a_found, .ref a_free, .int v_all, .int v_days, .ref a_ends, .ref a_stamps, .ref a_ways, .int v_search])), (a_found, .inl (cI, 14, .inl v_found)), (a_free, .inl (cI, 14, .inl v_free)), (a_ends, .inl (cI, 182, .inl v_ends)), (a_stamps, .inl (cI, 4096, .inl v_stamps)), (a_ways, .inl (cI, 4096, .inl v_ways))]) (W1 := wd_X2 cI cZ cP a_this a_found a_free a_ends a_stamps a_ways v_all v_days v_search v_found v_free v_ends v_stamps v_ways) ⟨hx, hb, hml, hown, hts⟩ (c_X2_lowest l D cI cZ cP p1 p2 r_19 hc_20) (va_cwS 2 hts gX2_bestFrom_X2_lowest rfl rfl rfl (by decide +kernel) ⟨by show _ ≤ _; dsimp only; omega, by show _ ≤ _; dsimp only; omega⟩) rfl rfl hl.1 (Nat.le_of_ble_eq_true rfl) dX2_bestFrom_8 ⟨Nat.zero_le _, Nat.zero_le _⟩ hK hP hD hS hA [] [0, 1, 2, 3, 4, 5] [0, 1, 2, 3, 4, 5] ⟨⟨rfl, rfl, rfl⟩, by decide⟩ (fun H locs hP hD hS => ?_)
      refine lv_istore_n (lv' := [(3, .int r_19), (0, .ref a_this), (1, .int p1), (2, .int p2)]) hx hb dX2_bestFrom_11 rfl hl (by decide) rfl (fun ls hl => ?_)
      refine lv_iload_n hx hb dX2_bestFrom_12 rfl (lv_at hl 0 rfl) ?_
      refine lv_bipush (v := 14) hx hb dX2_bestFrom_13 (by decide) ?_
      refine lv_icmp_lt (tgt := 20) hx hb dX2_bestFrom_15 (by decide) (fun c_21 => ?_) (fun c_21 => ?_)
      · replace h := it_pos h c_21
        refine lv_aload_n hx hb dX2_bestFrom_20 rfl (lv_at hl 1 rfl) ?_
        refine va_get (D := D) (ci := 2) (v := .ref a_free) (C := RX2) (T := TX2) (N := 8) hx hb hts in_X2_bestFrom_X2 hown hK hP 0 rfl rfl 1 (by decide) kw1 (fun _ h9 => h9) rfl dX2_bestFrom_21 ?_
        refine lv_iload_n hx hb dX2_bestFrom_24 rfl (lv_at hl 0 rfl) ?_
        obtain ⟨hi_22, h⟩ := gd_some h
        refine va_iald hx hb hK hP 2 0 rfl rfl (inb_in hi_22) dX2_bestFrom_25 ?_
        refine lv_iload_n hx hb dX2_bestFrom_26 rfl (lv_at hl 2 rfl) ?_
        refine lv_iand hx hb dX2_bestFrom_27 ?_
        refine lv_aload_n hx hb dX2_bestFrom_28 rfl (lv_at hl 1 rfl) ?_
        refine lv_iload_n hx hb dX2_bestFrom_29 rfl (lv_at hl 2 rfl) ?_
        refine lv_iload_n hx hb dX2_bestFrom_30 rfl (lv_at hl 0 rfl) ?_
        obtain ⟨r_23, hc_24, h⟩ := bi_some h
        refine rd_callVi [.int p1, .int r_19] [.int ((v_free r_19.toNatClampNeg) &&& p1)] (wr := []) (W1 := wd_X2 cI cZ cP a_this a_found a_free a_ends a_stamps a_ways v_all v_days v_search v_found v_free v_ends v_stamps v_ways) (ci := 2) ⟨hx, hb, hml, hown, hts⟩ (c_X2_closers l D cI cZ cP a_this a_found a_free a_ends a_stamps a_ways v_all v_days v_search v_found v_free v_ends v_stamps v_ways p1 r_19 r_23 hc_24) (cwV 2 hts gX2_bestFrom_X2_closers rfl rfl rfl (by decide +kernel) ⟨by show _ ≤ _; dsimp only; omega, by show _ ≤ _; dsimp only; omega⟩) rfl rfl hl.1 (Nat.le_of_ble_eq_true rfl) dX2_bestFrom_31 ⟨Nat.zero_le _, Nat.zero_le _⟩ hK hP hD hS hA rfl rfl [0, 1, 2, 3, 4, 5] [] [0, 1, 2, 3, 4, 5] ⟨⟨rfl, rfl, rfl⟩, by decide⟩ (fun H locs hP hD hS => ?_)
        refine lv_iconst (v := -1) hx hb dX2_bestFrom_34 (by decide) ?_
        refine lv_ixor hx hb dX2_bestFrom_35 ?_
        refine lv_iand hx hb dX2_bestFrom_36 ?_
        obtain ⟨x4_25, ex4_25, h⟩ := bd_some h
        refine rd_top ex4_25 ?_
        refine lv_istore (lv' := [(4, .int x4_25), (3, .int r_19), (0, .ref a_this), (1, .int p1), (2, .int p2)]) hx hb dX2_bestFrom_37 hl (by decide) rfl (fun ls hl => ?_)
        refine lv_iload_n hx hb dX2_bestFrom_39 rfl (lv_at hl 1 rfl) ?_
        refine lv_iconst (v := 1) hx hb dX2_bestFrom_40 (by decide) ?_
        refine lv_iadd hx hb dX2_bestFrom_41 ?_
        obtain ⟨x5_26, ex5_26, h⟩ := bd_some h
        refine rd_top ex5_26 ?_
        refine lv_istore (lv' := [(5, .int x5_26), (4, .int x4_25), (3, .int r_19), (0, .ref a_this), (1, .int p1), (2, .int p2)]) hx hb dX2_bestFrom_42 hl (by decide) rfl (fun ls hl => ?_)
        exact w44 r_19 x4_25 20000 x5_26 v_found v_ends h _ _ _ hP hD hS (lv_sub hl [3, 4, 2, 1, 0] rfl)
      · replace h := it_neg h c_21
        refine lv_iconst (v := 0) hx hb dX2_bestFrom_18 (by decide) ?_
        obtain ⟨rfl, rfl, rfl⟩ := inj3 h
        exact hret (by decide) dX2_bestFrom_19 hP hD hS
    · replace h := it_pos h c_18
      refine lv_iconst (v := 1) hx hb dX2_bestFrom_4 (by decide) ?_
      obtain ⟨rfl, rfl, rfl⟩ := inj3 h
      exact hret (by decide) dX2_bestFrom_5 hP hD hS
theorem in_X2_find_X2 : ∀ w ∈ wsX20, w ∈ wsX2_find := by decide +kernel
theorem in_X2_find_X3 : ∀ w ∈ wsX30, w ∈ wsX2_find := by decide +kernel
def f_X2_find (v_all : Int32) (v_days : Int32) (v_search : Int32) (v_found : Nat → Int32) (v_free : Nat → Int32) (v_ends : Nat → Int32) (v_stamps : Nat → Int32) (v_p1_teams : Int32) (v_p1_days : Int32) (v_p1_rows : Nat → Int32) (p2 : Int32) : Option (Int32 × Int32 × Int32 × Int32 × (Nat → Int32) × (Nat → Int32) × (Nat → Int32) × (Nat → Int32)) := if v_p1_teams = 0 then some ((0 : Int32), v_all, v_days, v_search, v_found, v_free, v_ends, v_stamps) else (f_X2_look v_all v_days v_search v_found v_free v_p1_teams v_p1_days v_p1_rows).bind (fun t => match t with | (v_all_2, v_days_3, v_search_4, v_found_5, v_free_6) => if p2 = 0 then (f_X2_firstFrom v_search_4 v_free_6 9 (v_found_5, v_stamps, v_all_2, (0 : Int32))).bind (fun t => match t with | (r_16, v_found_17, v_stamps_18) => if (r_16 = 0 ∨ r_16 = 1) then some (r_16, v_all_2, v_days_3, v_search_4, v_found_17, v_free_6, v_ends, v_stamps_18) else none) else (f_X2_lookAtEnds v_days_3 v_ends v_p1_teams v_p1_days v_p1_rows).bind (fun v_ends_9 => (f_X2_bestFrom v_days_3 v_free_6 9 (v_found_5, v_ends_9, v_all_2, (0 : Int32))).bind (fun t => match t with | (r_11, v_found_12, v_ends_13) => if (r_11 = 0 ∨ r_11 = 1) then some (r_11, v_all_2, v_days_3, v_search_4, v_found_12, v_free_6, v_ends_13, v_stamps) else none)))
set_option maxHeartbeats 4000000 in
set_option maxRecDepth 100000 in
theorem c_X2_find (l : Launch) (D : va_G) (cI cZ cP : ClassId) (a_this : Nat) (a_found : Nat) (a_free : Nat) (a_ends : Nat) (a_stamps : Nat) (a_ways : Nat) (a_p1 : Nat) (a_p1_rows : Nat) (v_all : Int32) (v_days : Int32) (v_search : Int32) (v_found : Nat → Int32) (v_free : Nat → Int32) (v_ends : Nat → Int32) (v_stamps : Nat → Int32) (v_ways : Nat → Int32) (v_p1_teams : Int32) (v_p1_days : Int32) (v_p1_rows : Nat → Int32) (p2 : Int32) (r : Int32) (nv_all : Int32) (nv_days : Int32) (nv_search : Int32) (nv_found : Nat → Int32) (nv_free : Nat → Int32) (nv_ends : Nat → Int32) (nv_stamps : Nat → Int32) (h : f_X2_find v_all v_days v_search v_found v_free v_ends v_stamps v_p1_teams v_p1_days v_p1_rows p2 = some (r, nv_all, nv_days, nv_search, nv_found, nv_free, nv_ends, nv_stamps)) : rd_I l yX2_find wsX2_find { frames := 12, cells := 0, slots := 0, locals := 299 } [.ref a_this, .ref a_p1, .int p2] D (tyA cI cZ cP) ((wd_X2 cI cZ cP a_this a_found a_free a_ends a_stamps a_ways v_all v_days v_search v_found v_free v_ends v_stamps v_ways) ++ (wd_X3 cI cZ cP a_p1 a_p1_rows v_p1_teams v_p1_days v_p1_rows)) ((wd_X2 cI cZ cP a_this a_found a_free a_ends a_stamps a_ways nv_all nv_days nv_search nv_found nv_free nv_ends nv_stamps v_ways) ++ (wd_X3 cI cZ cP a_p1 a_p1_rows v_p1_teams v_p1_days v_p1_rows)) r := by
  unfold f_X2_find at h
  refine rd_enterZ (cc := cX2_find) (maxL := 3) (by decide) rfl (Nat.le_of_ble_eq_true rfl) ?_
  intro p e s m args below meth c A Q ls hx hb hml hown hts hA hK hP hD hS hl hret
  have hl : lv_has ls 3 [(0, .ref a_this), (1, .ref a_p1), (2, .int p2)] := hl
  have kw1 := hts (.fieldLink RX2 27 "RoundDays$Plan" "teams" "I") (List.mem_of_getElem? (i := 1) rfl)
  have kw2 := hts (.fieldLink RX2 37 "RoundDays$Finder" "all" "I") (List.mem_of_getElem? (i := 2) rfl)
  refine lv_aload_n hx hb dX2_find_0 rfl (lv_at hl 1 rfl) ?_
  refine va_get (D := D) (ci := 3) (v := .int v_p1_teams) (C := RX3) (T := TX3) (N := 3) hx hb hts in_X2_find_X3 hown hK hP 6 rfl rfl 0 (by decide) kw1 (fun _ h9 => h9) rfl dX2_find_1 ?_
  refine lv_if_ne (tgt := 9) hx hb dX2_find_4 (by decide) (fun c_1 => ?_) (fun c_1 => ?_)
  · replace h := it_neg h c_1
    refine lv_aload_n hx hb dX2_find_9 rfl (lv_at hl 0 rfl) ?_
    refine lv_aload_n hx hb dX2_find_10 rfl (lv_at hl 1 rfl) ?_
    obtain ⟨⟨v_all_2, v_days_3, v_search_4, v_found_5, v_free_6⟩, hc_7, h⟩ := bi_some h
    refine rd_callVv [.ref a_p1] [] (wr := []) (W1 := (wd_X2 cI cZ cP a_this a_found a_free a_ends a_stamps a_ways v_all_2 v_days_3 v_search_4 v_found_5 v_free_6 v_ends v_stamps v_ways) ++ (wd_X3 cI cZ cP a_p1 a_p1_rows v_p1_teams v_p1_days v_p1_rows)) (ci := 2) ⟨hx, hb, hml, hown, hts⟩ (c_X2_look l D cI cZ cP a_this a_found a_free a_ends a_stamps a_ways a_p1 a_p1_rows v_all v_days v_search v_found v_free v_ends v_stamps v_ways v_p1_teams v_p1_days v_p1_rows v_all_2 v_days_3 v_search_4 v_found_5 v_free_6 hc_7) (cwV 1 hts gX2_find_X2_look rfl rfl rfl (by decide +kernel) ⟨Nat.le_of_ble_eq_true rfl, Nat.le_of_ble_eq_true rfl⟩) rfl rfl hl.1 (Nat.le_of_ble_eq_true rfl) dX2_find_11 ⟨Nat.zero_le _, Nat.zero_le _⟩ hK hP hD hS hA rfl rfl [0, 1, 2, 3, 4, 5, 6, 7] [] [0, 1, 2, 3, 4, 5, 6, 7] ⟨⟨rfl, rfl, rfl⟩, by decide⟩ (fun H locs hP hD hS => ?_)
    refine lv_iload_n hx hb dX2_find_14 rfl (lv_at hl 2 rfl) ?_
    refine lv_if_ne (tgt := 28) hx hb dX2_find_15 (by decide) (fun c_8 => ?_) (fun c_8 => ?_)
    · replace h := it_neg h c_8
      refine lv_aload_n hx hb dX2_find_28 rfl (lv_at hl 0 rfl) ?_
      refine lv_aload_n hx hb dX2_find_29 rfl (lv_at hl 1 rfl) ?_
      obtain ⟨v_ends_9, hc_10, h⟩ := bi_some h
      refine rd_callVv [.ref a_p1] [] (wr := []) (W1 := (wd_X2 cI cZ cP a_this a_found a_free a_ends a_stamps a_ways v_all_2 v_days_3 v_search_4 v_found_5 v_free_6 v_ends_9 v_stamps v_ways) ++ (wd_X3 cI cZ cP a_p1 a_p1_rows v_p1_teams v_p1_days v_p1_rows)) (ci := 2) ⟨hx, hb, hml, hown, hts⟩ (c_X2_lookAtEnds l D cI cZ cP a_this a_found a_free a_ends a_stamps a_ways a_p1 a_p1_rows v_all_2 v_days_3 v_search_4 v_found_5 v_free_6 v_ends v_stamps v_ways v_p1_teams v_p1_days v_p1_rows v_ends_9 hc_10) (cwV 1 hts gX2_find_X2_lookAtEnds rfl rfl rfl (by decide +kernel) ⟨Nat.le_of_ble_eq_true rfl, Nat.le_of_ble_eq_true rfl⟩) rfl rfl hl.1 (Nat.le_of_ble_eq_true rfl) dX2_find_30 ⟨Nat.zero_le _, Nat.zero_le _⟩ hK hP hD hS hA rfl rfl [0, 1, 2, 3, 4, 5, 6, 7] [] [0, 1, 2, 3, 4, 5, 6, 7] ⟨⟨rfl, rfl, rfl⟩, by decide⟩ (fun H locs hP hD hS => ?_)
      refine lv_aload_n hx hb dX2_find_33 rfl (lv_at hl 0 rfl) ?_
      refine lv_aload_n hx hb dX2_find_34 rfl (lv_at hl 0 rfl) ?_
      refine va_get (D := D) (ci := 2) (v := .int v_all_2) (C := RX2) (T := TX2) (N := 8) hx hb hts in_X2_find_X2 hown hK hP 0 rfl rfl 2 (by decide) kw2 (fun _ h9 => h9) rfl dX2_find_35 ?_
      refine lv_iconst (v := 0) hx hb dX2_find_38 (by decide) ?_
      obtain ⟨⟨r_11, v_found_12, v_ends_13⟩, hc_14, h⟩ := bi_some h
      refine rd_callVi [.int v_all_2, .int (0 : Int32)] [] (wr := [(a_p1, .inr (3, [.int v_p1_teams, .int v_p1_days, .ref a_p1_rows])), (a_p1_rows, .inl (cI, 182, .inl v_p1_rows))]) (W1 := (wd_X2 cI cZ cP a_this a_found a_free a_ends a_stamps a_ways v_all_2 v_days_3 v_search_4 v_found_12 v_free_6 v_ends_13 v_stamps v_ways) ++ (wd_X3 cI cZ cP a_p1 a_p1_rows v_p1_teams v_p1_days v_p1_rows)) (ci := 2) ⟨hx, hb, hml, hown, hts⟩ (c_X2_bestFrom 9 l D cI cZ cP a_this a_found a_free a_ends a_stamps a_ways v_all_2 v_days_3 v_search_4 v_found_5 v_free_6 v_ends_9 v_stamps v_ways v_all_2 (0 : Int32) r_11 v_found_12 v_ends_13 hc_14) (cwV 2 hts gX2_find_X2_bestFrom rfl rfl rfl (by decide +kernel) ⟨Nat.le_of_ble_eq_true rfl, Nat.le_of_ble_eq_true rfl⟩) rfl rfl hl.1 (Nat.le_of_ble_eq_true rfl) dX2_find_39 ⟨Nat.zero_le _, Nat.zero_le _⟩ hK hP hD hS hA rfl rfl [0, 1, 2, 3, 4, 5] [6, 7] [2, 3, 4, 5, 6, 7, 0, 1] ⟨⟨rfl, rfl, rfl⟩, by decide⟩ (fun H locs hP hD hS => ?_)
      obtain ⟨hz_15, h⟩ := gd_some h
      obtain ⟨rfl, rfl, rfl, rfl, rfl, rfl, rfl, rfl⟩ := inj8 h
      exact hret hz_15 dX2_find_42 hP hD hS
    · replace h := it_pos h c_8
      refine lv_aload_n hx hb dX2_find_18 rfl (lv_at hl 0 rfl) ?_
      refine lv_aload_n hx hb dX2_find_19 rfl (lv_at hl 0 rfl) ?_
      refine va_get (D := D) (ci := 2) (v := .int v_all_2) (C := RX2) (T := TX2) (N := 8) hx hb hts in_X2_find_X2 hown hK hP 0 rfl rfl 2 (by decide) kw2 (fun _ h9 => h9) rfl dX2_find_20 ?_
      refine lv_iconst (v := 0) hx hb dX2_find_23 (by decide) ?_
      obtain ⟨⟨r_16, v_found_17, v_stamps_18⟩, hc_19, h⟩ := bi_some h
      refine rd_callVi [.int v_all_2, .int (0 : Int32)] [] (wr := [(a_p1, .inr (3, [.int v_p1_teams, .int v_p1_days, .ref a_p1_rows])), (a_p1_rows, .inl (cI, 182, .inl v_p1_rows))]) (W1 := (wd_X2 cI cZ cP a_this a_found a_free a_ends a_stamps a_ways v_all_2 v_days_3 v_search_4 v_found_17 v_free_6 v_ends v_stamps_18 v_ways) ++ (wd_X3 cI cZ cP a_p1 a_p1_rows v_p1_teams v_p1_days v_p1_rows)) (ci := 2) ⟨hx, hb, hml, hown, hts⟩ (c_X2_firstFrom 9 l D cI cZ cP a_this a_found a_free a_ends a_stamps a_ways v_all_2 v_days_3 v_search_4 v_found_5 v_free_6 v_ends v_stamps v_ways v_all_2 (0 : Int32) r_16 v_found_17 v_stamps_18 hc_19) (cwV 2 hts gX2_find_X2_firstFrom rfl rfl rfl (by decide +kernel) ⟨Nat.le_of_ble_eq_true rfl, Nat.le_of_ble_eq_true rfl⟩) rfl rfl hl.1 (Nat.le_of_ble_eq_true rfl) dX2_find_24 ⟨Nat.zero_le _, Nat.zero_le _⟩ hK hP hD hS hA rfl rfl [0, 1, 2, 3, 4, 5] [6, 7] [2, 3, 4, 5, 6, 7, 0, 1] ⟨⟨rfl, rfl, rfl⟩, by decide⟩ (fun H locs hP hD hS => ?_)
      obtain ⟨hz_20, h⟩ := gd_some h
      obtain ⟨rfl, rfl, rfl, rfl, rfl, rfl, rfl, rfl⟩ := inj8 h
      exact hret hz_20 dX2_find_27 hP hD hS
  · replace h := it_pos h c_1
    refine lv_iconst (v := 0) hx hb dX2_find_7 (by decide) ?_
    obtain ⟨rfl, rfl, rfl, rfl, rfl, rfl, rfl, rfl⟩ := inj8 h
    exact hret (by decide) dX2_find_8 hP hD hS
theorem in_X2_onlyPartner_X2 : ∀ w ∈ wsX20, w ∈ wsX2_onlyPartner := by decide +kernel
def f_X2_onlyPartner (v_all : Int32) (v_days : Int32) (v_search : Int32) (v_found : Nat → Int32) (v_free : Nat → Int32) (v_ends : Nat → Int32) (v_stamps : Nat → Int32) (v_p1_teams : Int32) (v_p1_days : Int32) (v_p1_rows : Nat → Int32) (p2 : Int32) : Option (Int32 × Int32 × Int32 × Int32 × (Nat → Int32) × (Nat → Int32) × (Nat → Int32) × (Nat → Int32)) := (f_X2_find v_all v_days v_search v_found v_free v_ends v_stamps v_p1_teams v_p1_days v_p1_rows (0 : Int32)).bind (fun t => match t with | (r_1, v_all_2, v_days_3, v_search_4, v_found_5, v_free_6, v_ends_7, v_stamps_8) => if r_1 = 0 then some ((-1 : Int32), v_all_2, v_days_3, v_search_4, v_found_5, v_free_6, v_ends_7, v_stamps_8) else (f_X3_hasTeam v_p1_teams p2).bind (fun r_11 => if r_11 = 0 then some ((-1 : Int32), v_all_2, v_days_3, v_search_4, v_found_5, v_free_6, v_ends_7, v_stamps_8) else if inb p2 14 then bd (v_found_5 p2.toNatClampNeg) (fun x3_15 => (f_X3_hasTeam v_p1_teams x3_15).bind (fun r_16 => if r_16 = 0 then some ((-1 : Int32), v_all_2, v_days_3, v_search_4, v_found_5, v_free_6, v_ends_7, v_stamps_8) else if inb p2 14 then if inb p2 14 then bd (upd v_free_6 p2.toNatClampNeg ((v_free_6 p2.toNatClampNeg) &&& (((1 : Int32) <<< (x3_15 &&& (31 : Int32))) ^^^ (-1 : Int32)))) (fun v_free_21 => if inb x3_15 14 then if inb x3_15 14 then bd (upd v_free_21 x3_15.toNatClampNeg ((v_free_21 x3_15.toNatClampNeg) &&& (((1 : Int32) <<< (p2 &&& (31 : Int32))) ^^^ (-1 : Int32)))) (fun v_free_24 => bd (v_search_4 + (1 : Int32)) (fun v_search_25 => (f_X2_firstFrom v_search_25 v_free_24 9 (v_found_5, v_stamps_8, v_all_2, (0 : Int32))).bind (fun t => match t with | (r_26, v_found_27, v_stamps_28) => if r_26 = 0 then some (x3_15, v_all_2, v_days_3, v_search_25, v_found_27, v_free_24, v_ends_7, v_stamps_28) else some ((-1 : Int32), v_all_2, v_days_3, v_search_25, v_found_27, v_free_24, v_ends_7, v_stamps_28)))) else none else none) else none else none)) else none))
set_option maxHeartbeats 4000000 in
set_option maxRecDepth 100000 in
theorem c_X2_onlyPartner (l : Launch) (D : va_G) (cI cZ cP : ClassId) (a_this : Nat) (a_found : Nat) (a_free : Nat) (a_ends : Nat) (a_stamps : Nat) (a_ways : Nat) (a_p1 : Nat) (a_p1_rows : Nat) (v_all : Int32) (v_days : Int32) (v_search : Int32) (v_found : Nat → Int32) (v_free : Nat → Int32) (v_ends : Nat → Int32) (v_stamps : Nat → Int32) (v_ways : Nat → Int32) (v_p1_teams : Int32) (v_p1_days : Int32) (v_p1_rows : Nat → Int32) (p2 : Int32) (r : Int32) (nv_all : Int32) (nv_days : Int32) (nv_search : Int32) (nv_found : Nat → Int32) (nv_free : Nat → Int32) (nv_ends : Nat → Int32) (nv_stamps : Nat → Int32) (h : f_X2_onlyPartner v_all v_days v_search v_found v_free v_ends v_stamps v_p1_teams v_p1_days v_p1_rows p2 = some (r, nv_all, nv_days, nv_search, nv_found, nv_free, nv_ends, nv_stamps)) : rd_I l yX2_onlyPartner wsX2_onlyPartner { frames := 13, cells := 0, slots := 0, locals := 321 } [.ref a_this, .ref a_p1, .int p2] D (tyA cI cZ cP) ((wd_X2 cI cZ cP a_this a_found a_free a_ends a_stamps a_ways v_all v_days v_search v_found v_free v_ends v_stamps v_ways) ++ (wd_X3 cI cZ cP a_p1 a_p1_rows v_p1_teams v_p1_days v_p1_rows)) ((wd_X2 cI cZ cP a_this a_found a_free a_ends a_stamps a_ways nv_all nv_days nv_search nv_found nv_free nv_ends nv_stamps v_ways) ++ (wd_X3 cI cZ cP a_p1 a_p1_rows v_p1_teams v_p1_days v_p1_rows)) r := by
  unfold f_X2_onlyPartner at h
  refine rd_enterI (cc := cX2_onlyPartner) (maxL := 4) (by decide) rfl (Nat.le_of_ble_eq_true rfl) ?_
  intro p e s m args below meth c A Q ls hx hb hml hown hts hA hK hP hD hS hl hret
  have hl : lv_has ls 4 [(0, .ref a_this), (1, .ref a_p1), (2, .int p2)] := hl
  have kw1 := hts (.fieldLink RX2 9 "RoundDays$Finder" "found" "[I") (List.mem_of_getElem? (i := 1) rfl)
  have kw2 := hts (.fieldLink RX2 15 "RoundDays$Finder" "free" "[I") (List.mem_of_getElem? (i := 2) rfl)
  have kw3 := hts (.fieldLink RX2 62 "RoundDays$Finder" "search" "I") (List.mem_of_getElem? (i := 3) rfl)
  have kw4 := hts (.fieldLink RX2 37 "RoundDays$Finder" "all" "I") (List.mem_of_getElem? (i := 4) rfl)
  refine lv_aload_n hx hb dX2_onlyPartner_0 rfl (lv_at hl 0 rfl) ?_
  refine lv_aload_n hx hb dX2_onlyPartner_1 rfl (lv_at hl 1 rfl) ?_
  refine lv_iconst (v := 0) hx hb dX2_onlyPartner_2 (by decide) ?_
  obtain ⟨⟨r_1, v_all_2, v_days_3, v_search_4, v_found_5, v_free_6, v_ends_7, v_stamps_8⟩, hc_9, h⟩ := bi_some h
  refine rd_callVi [.ref a_p1, .int (0 : Int32)] [] (wr := []) (W1 := (wd_X2 cI cZ cP a_this a_found a_free a_ends a_stamps a_ways v_all_2 v_days_3 v_search_4 v_found_5 v_free_6 v_ends_7 v_stamps_8 v_ways) ++ (wd_X3 cI cZ cP a_p1 a_p1_rows v_p1_teams v_p1_days v_p1_rows)) (ci := 2) ⟨hx, hb, hml, hown, hts⟩ (c_X2_find l D cI cZ cP a_this a_found a_free a_ends a_stamps a_ways a_p1 a_p1_rows v_all v_days v_search v_found v_free v_ends v_stamps v_ways v_p1_teams v_p1_days v_p1_rows (0 : Int32) r_1 v_all_2 v_days_3 v_search_4 v_found_5 v_free_6 v_ends_7 v_stamps_8 hc_9) (cwV 2 hts gX2_onlyPartner_X2_find rfl rfl rfl (by decide +kernel) ⟨Nat.le_of_ble_eq_true rfl, Nat.le_of_ble_eq_true rfl⟩) rfl rfl hl.1 (Nat.le_of_ble_eq_true rfl) dX2_onlyPartner_3 ⟨Nat.zero_le _, Nat.zero_le _⟩ hK hP hD hS hA rfl rfl [0, 1, 2, 3, 4, 5, 6, 7] [] [0, 1, 2, 3, 4, 5, 6, 7] ⟨⟨rfl, rfl, rfl⟩, by decide⟩ (fun H locs hP hD hS => ?_)
  refine lv_if_eq (tgt := 17) hx hb dX2_onlyPartner_6 (by decide) (fun c_10 => ?_) (fun c_10 => ?_)
  · replace h := it_pos h c_10
    refine lv_iconst (v := -1) hx hb dX2_onlyPartner_17 (by decide) ?_
    obtain ⟨rfl, rfl, rfl, rfl, rfl, rfl, rfl, rfl⟩ := inj8 h
    exact hret dX2_onlyPartner_18 hP hD hS
  · replace h := it_neg h c_10
    refine lv_aload_n hx hb dX2_onlyPartner_9 rfl (lv_at hl 1 rfl) ?_
    refine lv_iload_n hx hb dX2_onlyPartner_10 rfl (lv_at hl 2 rfl) ?_
    obtain ⟨r_11, hc_12, h⟩ := bi_some h
    refine rd_callVi [.int p2] [] (wr := [(a_this, .inr (2, [.ref a_found, .ref a_free, .int v_all_2, .int v_days_3, .ref a_ends, .ref a_stamps, .ref a_ways, .int v_search_4])), (a_found, .inl (cI, 14, .inl v_found_5)), (a_free, .inl (cI, 14, .inl v_free_6)), (a_ends, .inl (cI, 182, .inl v_ends_7)), (a_stamps, .inl (cI, 4096, .inl v_stamps_8)), (a_ways, .inl (cI, 4096, .inl v_ways))]) (W1 := (wd_X2 cI cZ cP a_this a_found a_free a_ends a_stamps a_ways v_all_2 v_days_3 v_search_4 v_found_5 v_free_6 v_ends_7 v_stamps_8 v_ways) ++ (wd_X3 cI cZ cP a_p1 a_p1_rows v_p1_teams v_p1_days v_p1_rows)) (ci := 3) ⟨hx, hb, hml, hown, hts⟩ (c_X3_hasTeam l D cI cZ cP a_p1 a_p1_rows v_p1_teams v_p1_days v_p1_rows p2 r_11 hc_12) (cwV 1 hts gX2_onlyPartner_X3_hasTeam rfl rfl rfl (by decide +kernel) ⟨Nat.le_of_ble_eq_true rfl, Nat.le_of_ble_eq_true rfl⟩) rfl rfl hl.1 (Nat.le_of_ble_eq_true rfl) dX2_onlyPartner_11 ⟨Nat.zero_le _, Nat.zero_le _⟩ hK hP hD hS hA rfl rfl [6, 7] [0, 1, 2, 3, 4, 5] [0, 1, 2, 3, 4, 5, 6, 7] ⟨⟨rfl, rfl, rfl⟩, by decide⟩ (fun H locs hP hD hS => ?_)
    refine lv_if_ne (tgt := 19) hx hb dX2_onlyPartner_14 (by decide) (fun c_13 => ?_) (fun c_13 => ?_)
    · replace h := it_neg h c_13
      refine lv_aload_n hx hb dX2_onlyPartner_19 rfl (lv_at hl 0 rfl) ?_
      refine va_get (D := D) (ci := 2) (v := .ref a_found) (C := RX2) (T := TX2) (N := 8) hx hb hts in_X2_onlyPartner_X2 hown hK hP 0 rfl rfl 0 (by decide) kw1 (fun _ h9 => h9) rfl dX2_onlyPartner_20 ?_
      refine lv_iload_n hx hb dX2_onlyPartner_23 rfl (lv_at hl 2 rfl) ?_
      obtain ⟨hi_14, h⟩ := gd_some h
      refine va_iald hx hb hK hP 1 0 rfl rfl (inb_in hi_14) dX2_onlyPartner_24 ?_
      obtain ⟨x3_15, ex3_15, h⟩ := bd_some h
      refine rd_top ex3_15 ?_
      refine lv_istore_n (lv' := [(3, .int x3_15), (0, .ref a_this), (1, .ref a_p1), (2, .int p2)]) hx hb dX2_onlyPartner_25 rfl hl (by decide) rfl (fun ls hl => ?_)
      refine lv_aload_n hx hb dX2_onlyPartner_26 rfl (lv_at hl 2 rfl) ?_
      refine lv_iload_n hx hb dX2_onlyPartner_27 rfl (lv_at hl 0 rfl) ?_
      obtain ⟨r_16, hc_17, h⟩ := bi_some h
      refine rd_callVi [.int x3_15] [] (wr := [(a_this, .inr (2, [.ref a_found, .ref a_free, .int v_all_2, .int v_days_3, .ref a_ends, .ref a_stamps, .ref a_ways, .int v_search_4])), (a_found, .inl (cI, 14, .inl v_found_5)), (a_free, .inl (cI, 14, .inl v_free_6)), (a_ends, .inl (cI, 182, .inl v_ends_7)), (a_stamps, .inl (cI, 4096, .inl v_stamps_8)), (a_ways, .inl (cI, 4096, .inl v_ways))]) (W1 := (wd_X2 cI cZ cP a_this a_found a_free a_ends a_stamps a_ways v_all_2 v_days_3 v_search_4 v_found_5 v_free_6 v_ends_7 v_stamps_8 v_ways) ++ (wd_X3 cI cZ cP a_p1 a_p1_rows v_p1_teams v_p1_days v_p1_rows)) (ci := 3) ⟨hx, hb, hml, hown, hts⟩ (c_X3_hasTeam l D cI cZ cP a_p1 a_p1_rows v_p1_teams v_p1_days v_p1_rows x3_15 r_16 hc_17) (cwV 1 hts gX2_onlyPartner_X3_hasTeam rfl rfl rfl (by decide +kernel) ⟨Nat.le_of_ble_eq_true rfl, Nat.le_of_ble_eq_true rfl⟩) rfl rfl hl.1 (Nat.le_of_ble_eq_true rfl) dX2_onlyPartner_28 ⟨Nat.zero_le _, Nat.zero_le _⟩ hK hP hD hS hA rfl rfl [6, 7] [0, 1, 2, 3, 4, 5] [0, 1, 2, 3, 4, 5, 6, 7] ⟨⟨rfl, rfl, rfl⟩, by decide⟩ (fun H locs hP hD hS => ?_)
      refine lv_if_ne (tgt := 36) hx hb dX2_onlyPartner_31 (by decide) (fun c_18 => ?_) (fun c_18 => ?_)
      · replace h := it_neg h c_18
        refine lv_aload_n hx hb dX2_onlyPartner_36 rfl (lv_at hl 1 rfl) ?_
        refine va_get (D := D) (ci := 2) (v := .ref a_free) (C := RX2) (T := TX2) (N := 8) hx hb hts in_X2_onlyPartner_X2 hown hK hP 0 rfl rfl 1 (by decide) kw2 (fun _ h9 => h9) rfl dX2_onlyPartner_37 ?_
        refine lv_iload_n hx hb dX2_onlyPartner_40 rfl (lv_at hl 3 rfl) ?_
        refine lv_dup2_11 hx hb dX2_onlyPartner_41 rfl rfl ?_
        obtain ⟨hi_19, h⟩ := gd_some h
        refine va_iald hx hb hK hP 2 0 rfl rfl (inb_in hi_19) dX2_onlyPartner_42 ?_
        refine lv_iconst (v := 1) hx hb dX2_onlyPartner_43 (by decide) ?_
        refine lv_iload_n hx hb dX2_onlyPartner_44 rfl (lv_at hl 0 rfl) ?_
        refine lv_ishl hx hb dX2_onlyPartner_45 ?_
        refine lv_iconst (v := -1) hx hb dX2_onlyPartner_46 (by decide) ?_
        refine lv_ixor hx hb dX2_onlyPartner_47 ?_
        refine lv_iand hx hb dX2_onlyPartner_48 ?_
        obtain ⟨hi_20, h⟩ := gd_some h
        obtain ⟨v_free_21, ev_free_21, h⟩ := bd_some h
        refine rd_iast (W1 := (wd_X2 cI cZ cP a_this a_found a_free a_ends a_stamps a_ways v_all_2 v_days_3 v_search_4 v_found_5 v_free_21 v_ends_7 v_stamps_8 v_ways) ++ (wd_X3 cI cZ cP a_p1 a_p1_rows v_p1_teams v_p1_days v_p1_rows)) hx hb hK hP hD hS 2 0 rfl rfl hi_20 ev_free_21 rfl dX2_onlyPartner_49 (fun H locs hP hD hS => ?_)
        refine lv_aload_n hx hb dX2_onlyPartner_50 rfl (lv_at hl 1 rfl) ?_
        refine va_get (D := D) (ci := 2) (v := .ref a_free) (C := RX2) (T := TX2) (N := 8) hx hb hts in_X2_onlyPartner_X2 hown hK hP 0 rfl rfl 1 (by decide) kw2 (fun _ h9 => h9) rfl dX2_onlyPartner_51 ?_
        refine lv_iload_n hx hb dX2_onlyPartner_54 rfl (lv_at hl 0 rfl) ?_
        refine lv_dup2_11 hx hb dX2_onlyPartner_55 rfl rfl ?_
        obtain ⟨hi_22, h⟩ := gd_some h
        refine va_iald hx hb hK hP 2 0 rfl rfl (inb_in hi_22) dX2_onlyPartner_56 ?_
        refine lv_iconst (v := 1) hx hb dX2_onlyPartner_57 (by decide) ?_
        refine lv_iload_n hx hb dX2_onlyPartner_58 rfl (lv_at hl 3 rfl) ?_
        refine lv_ishl hx hb dX2_onlyPartner_59 ?_
        refine lv_iconst (v := -1) hx hb dX2_onlyPartner_60 (by decide) ?_
        refine lv_ixor hx hb dX2_onlyPartner_61 ?_
        refine lv_iand hx hb dX2_onlyPartner_62 ?_
        obtain ⟨hi_23, h⟩ := gd_some h
        obtain ⟨v_free_24, ev_free_24, h⟩ := bd_some h
        refine rd_iast (W1 := (wd_X2 cI cZ cP a_this a_found a_free a_ends a_stamps a_ways v_all_2 v_days_3 v_search_4 v_found_5 v_free_24 v_ends_7 v_stamps_8 v_ways) ++ (wd_X3 cI cZ cP a_p1 a_p1_rows v_p1_teams v_p1_days v_p1_rows)) hx hb hK hP hD hS 2 0 rfl rfl hi_23 ev_free_24 rfl dX2_onlyPartner_63 (fun H locs hP hD hS => ?_)
        refine lv_aload_n hx hb dX2_onlyPartner_64 rfl (lv_at hl 1 rfl) ?_
        refine lv_dup hx hb dX2_onlyPartner_65 rfl ?_
        refine va_get (D := D) (ci := 2) (v := .int v_search_4) (C := RX2) (T := TX2) (N := 8) hx hb hts in_X2_onlyPartner_X2 hown hK hP 0 rfl rfl 7 (by decide) kw3 (fun _ h9 => h9) rfl dX2_onlyPartner_66 ?_
        refine lv_iconst (v := 1) hx hb dX2_onlyPartner_69 (by decide) ?_
        refine lv_iadd hx hb dX2_onlyPartner_70 ?_
        obtain ⟨v_search_25, ev_search_25, h⟩ := bd_some h
        refine rd_top ev_search_25 ?_
        refine rd_put (W1 := (wd_X2 cI cZ cP a_this a_found a_free a_ends a_stamps a_ways v_all_2 v_days_3 v_search_25 v_found_5 v_free_24 v_ends_7 v_stamps_8 v_ways) ++ (wd_X3 cI cZ cP a_p1 a_p1_rows v_p1_teams v_p1_days v_p1_rows)) (C := RX2) (T := TX2) (N := 8) (ci := 2) hx hb hts in_X2_onlyPartner_X2 tyX2 tyX2_ok nmX2 hown hK hP hD hS 0 rfl rfl 7 (by decide) kw3 (fun _ h9 => h9) rfl rfl rfl (Nat.le_of_ble_eq_true rfl) rfl dX2_onlyPartner_71 (fun H locs hP hD hS => ?_)
        refine lv_aload_n hx hb dX2_onlyPartner_74 rfl (lv_at hl 1 rfl) ?_
        refine lv_aload_n hx hb dX2_onlyPartner_75 rfl (lv_at hl 1 rfl) ?_
        refine va_get (D := D) (ci := 2) (v := .int v_all_2) (C := RX2) (T := TX2) (N := 8) hx hb hts in_X2_onlyPartner_X2 hown hK hP 0 rfl rfl 2 (by decide) kw4 (fun _ h9 => h9) rfl dX2_onlyPartner_76 ?_
        refine lv_iconst (v := 0) hx hb dX2_onlyPartner_79 (by decide) ?_
        obtain ⟨⟨r_26, v_found_27, v_stamps_28⟩, hc_29, h⟩ := bi_some h
        refine rd_callVi [.int v_all_2, .int (0 : Int32)] [] (wr := [(a_p1, .inr (3, [.int v_p1_teams, .int v_p1_days, .ref a_p1_rows])), (a_p1_rows, .inl (cI, 182, .inl v_p1_rows))]) (W1 := (wd_X2 cI cZ cP a_this a_found a_free a_ends a_stamps a_ways v_all_2 v_days_3 v_search_25 v_found_27 v_free_24 v_ends_7 v_stamps_28 v_ways) ++ (wd_X3 cI cZ cP a_p1 a_p1_rows v_p1_teams v_p1_days v_p1_rows)) (ci := 2) ⟨hx, hb, hml, hown, hts⟩ (c_X2_firstFrom 9 l D cI cZ cP a_this a_found a_free a_ends a_stamps a_ways v_all_2 v_days_3 v_search_25 v_found_5 v_free_24 v_ends_7 v_stamps_8 v_ways v_all_2 (0 : Int32) r_26 v_found_27 v_stamps_28 hc_29) (cwV 2 hts gX2_onlyPartner_X2_firstFrom rfl rfl rfl (by decide +kernel) ⟨Nat.le_of_ble_eq_true rfl, Nat.le_of_ble_eq_true rfl⟩) rfl rfl hl.1 (Nat.le_of_ble_eq_true rfl) dX2_onlyPartner_80 ⟨Nat.zero_le _, Nat.zero_le _⟩ hK hP hD hS hA rfl rfl [0, 1, 2, 3, 4, 5] [6, 7] [2, 3, 4, 5, 6, 7, 0, 1] ⟨⟨rfl, rfl, rfl⟩, by decide⟩ (fun H locs hP hD hS => ?_)
        refine lv_if_eq (tgt := 90) hx hb dX2_onlyPartner_83 (by decide) (fun c_30 => ?_) (fun c_30 => ?_)
        · replace h := it_pos h c_30
          refine lv_iload_n hx hb dX2_onlyPartner_90 rfl (lv_at hl 0 rfl) ?_
          obtain ⟨rfl, rfl, rfl, rfl, rfl, rfl, rfl, rfl⟩ := inj8 h
          exact hret dX2_onlyPartner_91 hP hD hS
        · replace h := it_neg h c_30
          refine lv_iconst (v := -1) hx hb dX2_onlyPartner_86 (by decide) ?_
          refine lv_goto (tgt := 91) hx hb dX2_onlyPartner_87 (by decide) ?_
          obtain ⟨rfl, rfl, rfl, rfl, rfl, rfl, rfl, rfl⟩ := inj8 h
          exact hret dX2_onlyPartner_91 hP hD hS
      · replace h := it_pos h c_18
        refine lv_iconst (v := -1) hx hb dX2_onlyPartner_34 (by decide) ?_
        obtain ⟨rfl, rfl, rfl, rfl, rfl, rfl, rfl, rfl⟩ := inj8 h
        exact hret dX2_onlyPartner_35 hP hD hS
    · replace h := it_pos h c_13
      refine lv_iconst (v := -1) hx hb dX2_onlyPartner_17 (by decide) ?_
      obtain ⟨rfl, rfl, rfl, rfl, rfl, rfl, rfl, rfl⟩ := inj8 h
      exact hret dX2_onlyPartner_18 hP hD hS
