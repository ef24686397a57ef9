/-! OURS: addAll -/
section
variable {T : Nat} {te : Int32}
theorem addAll_go (hT : T ≤ 14) (best : Bool) {ah an ah1 an1 : Int32} {abt abd abt1 abd1 : Nat → Int32} {abr abr1 : Nat → Nat → Int32} {sm : Int32} {sn bf : Nat → Int32} {da0 : Int32} {ro0 : Nat → Int32} (lv : Nat → Int32) (hA : ActsR ah an abt abd abr sm sn) (hk : f_X0_keep ah an abt abd abr te da0 ro0 = some (ah1, an1, abt1, abd1, abr1)) (hb : Same te da0 ro0 bf 0) : ∀ (m i N : Nat) (g : Nat → Nat → Nat) (da : Int32) (ro no : Nat → Int32) (xh xn : Int32) (xbt xbd : Nat → Int32) (xbr : Nat → Nat → Int32) (a1 a2 : Int32) (q : Nat) (fo fr en st w sg : Nat → Int32), 14 - N < m → i ≤ N → Sok T N g → PX te da ro T N g → PM no 0 T N g → q + 15 < 2 ^ 31 + N → StL q st → ((i = 0 ∧ da = da0 ∧ ro = ro0 ∧ xh = ah ∧ xn = an ∧ xbt = abt ∧ xbd = abd ∧ xbr = abr) ∨ (1 ≤ i ∧ xh = ah1 ∧ xn = an1 ∧ xbt = abt1 ∧ xbd = abd1 ∧ xbr = abr1)) →
    ∃ r da' ro' yh yn ybt ybd ybr b1 b2 fs fo' fr' en' st' sm' no' sn' lv' w' sg', lp (f_X8_addAll_L2 te (bI best)) m (nI i, da, ro, xh, xn, xbt, xbd, xbr, a1, a2, nI q, fo, fr, en, st) = some (r, da', ro', yh, yn, ybt, ybd, ybr, b1, b2, fs, fo', fr', en', st') ∧ lp (f_X9_addAll_L20 (bI best) 0 sm sn bf lv) m (nI i, no, w, sg) = some (r, 0, sm', no', sn', bf, lv', w', sg') ∧ Same te da' ro' no' 0 ∧ ActsR yh yn ybt ybd ybr sm' sn' ∧ ∃ q' : Nat, q' ≤ q + 15 ∧ q' + N ≤ q + 15 ∧ fs = nI q' ∧ StL q' st' := by
  intro m
  induction m with
  | zero => intros; omega
  | succ m ih =>
    intro i N g da ro no xh xn xbt xbd xbr a1 a2 q fo fr en st w sg hm hi hs hX hM hq hL hx
    have hN := hs.N13
    have eT := hX.1
    show ∃ r da' ro' yh yn ybt ybd ybr b1 b2 fs fo' fr' en' st' sm' no' sn' lv' w' sg', f_X8_addAll_L2 te (bI best) (lp (f_X8_addAll_L2 te (bI best)) m) _ = _ ∧ f_X9_addAll_L20 (bI best) 0 sm sn bf lv (lp (f_X9_addAll_L20 (bI best) 0 sm sn bf lv) m) _ = _ ∧ _
    generalize lp (f_X8_addAll_L2 te (bI best)) m = self8 at ih ⊢
    generalize lp (f_X9_addAll_L20 (bI best) 0 sm sn bf lv) m = self9 at ih ⊢
    unfold f_X8_addAll_L2 f_X9_addAll_L20
    dsimp only
    -- how it ends
    have hend : ∀ (w' sg' : Nat → Int32), ∃ sm' no' sn' lv', (if nI i ≤ 0 then some (nI i, 0, sm, no, sn, bf, lv, w', sg') else (f_X9_stay sm no sn bf lv).bind (fun t => match t with | (v_snapMany_7, v_now_8, v_snaps_9, v_live_10) => some (nI i, (0 : Int32), v_snapMany_7, v_now_8, v_snaps_9, bf, v_live_10, w', sg'))) = some (nI i, 0, sm', no', sn', bf, lv', w', sg') ∧ Same te da ro no' 0 ∧ ActsR xh xn xbt xbd xbr sm' sn' := by
      intro w' sg'
      rcases hx with ⟨rfl, rfl, rfl, rfl, rfl, rfl, rfl, rfl⟩ | ⟨h1, rfl, rfl, rfl, rfl, rfl⟩
      · rw [if_pos (show nI 0 ≤ 0 from Int32.le_refl _)]
        exact ⟨_, _, _, _, rfl, ⟨T, N, g, hs, hX, hM⟩, hA⟩
      · rw [if_neg (fun h => by rw [show (0 : Int32) = nI 0 from rfl, nI_leI (by omega) (by omega)] at h; omega)]
        unfold f_X9_stay
        have c1 := x9copy 184 184 0 0 (by omega) (by omega) (by omega) (by omega)
        have c1' : ∀ a b : Nat → Int32, f_X9_copy 184 184 a b 0 0 = some (va_cpy a b 0 0 184) := c1
        obtain ⟨ah2, an2, abt2, abd2, abr2, sm2, sn2, ek2, es2, hA2⟩ := keep_snap hA (Same.cpM (b := no) (e := 0) hb)
        rw [hk] at ek2
        cases ek2
        rw [c1', Option.bind_some, c1', Option.bind_some, es2, Option.bind_some]
        dsimp only
        rw [c1', Option.bind_some, Option.bind_some]
        exact ⟨_, _, _, _, rfl, Same.cpM (Same.cpM ⟨T, N, g, hs, hX, hM⟩), hA2⟩
    by_cases c0 : T = 0
    · subst c0
      have hN0 : N = 0 := by have := hs.1; omega
      obtain ⟨sm', no', sn', lv', e1, h1, h2⟩ := hend w sg
      rw [x9sought0 hM, Option.bind_some, if_neg (show ¬ (13 : Int32) ≤ nI i from nI_ge (b := 13) (by omega) (by omega)), eT, show nI 0 = 0 from rfl, x2find0, Option.bind_some]
      dsimp only
      rw [if_pos zer0, if_pos zer0, e1]
      rw [eT] at h1
      exact ⟨_, _, _, _, _, _, _, _, _, _, _, _, _, _, _, _, _, _, _, _, _, rfl, rfl, h1, h2, q, by omega, by omega, rfl, hL⟩
    · obtain ⟨r', w', sg', e2, h2'⟩ := x9sought hs c0 hM best w sg
      rw [e2, Option.bind_some]
      dsimp only
      by_cases c13 : 13 ≤ i
      · rw [if_pos (show (13 : Int32) ≤ nI i from (nI_leI (a := 13) (by omega) (by omega)).mpr c13)]
        have hr0 : r' = 0 := by
          rcases h2' with ⟨_, h⟩ | ⟨R, hR, _, _⟩
          · exact h
          · have := (hs.ap c0 (day_new hs c0 hR).1).N13
            omega
        obtain ⟨sm', no', sn', lv', e1, h1, h2⟩ := hend w' sg'
        rw [if_pos hr0, e1]
        exact ⟨_, _, _, _, _, _, _, _, _, _, _, _, _, _, _, _, _, _, _, _, _, rfl, rfl, h1, h2, q, by omega, by omega, rfl, hL⟩
      · obtain ⟨r, b1, b2, fo', fr', en', st', e1, h1, h2, -, -⟩ := x2find hs c0 hX best a1 a2 (q := q) (by omega) fo fr en st hL
        rw [if_neg (show ¬ (13 : Int32) ≤ nI i from nI_ge (b := 13) (by omega) (by omega)), e1, Option.bind_some]
        dsimp only
        rcases h2.same h2' with ⟨rfl, rfl⟩ | ⟨rfl, rfl, R, hR, hr1, hr2⟩
        · obtain ⟨sm', no', sn', lv', e3, k1, k2⟩ := hend w' sg'
          rw [if_pos zer0, if_pos zer0, e3]
          exact ⟨_, _, _, _, _, _, _, _, _, _, _, _, _, _, _, _, _, _, _, _, _, rfl, rfl, k1, k2, q + 1, by omega, by omega, rfl, h1⟩
        · obtain ⟨hnew, hn⟩ := day_new hs c0 hR
          have hs1 := hs.ap c0 hnew
          have hN1 := hs1.N13
          obtain ⟨ro', e3, hX'⟩ := x3append hs hs1 hX fo' (hn _ hr1)
          obtain ⟨no', e4, hM'⟩ := x9comes hs hs1 hM sg' (hn _ hr2)
          rw [if_neg one0, if_neg one0, e4, Option.bind_some, bd_eq, nI_1]
          have hgo : ∃ r da' ro' yh yn ybt ybd ybr c1 c2 fs fo2 fr2 en2 st2 sm' no2 sn' lv' w2 sg2, f_X8_addAll_J38 self8 te (bI best) (nI i, da, ro, ah1, an1, abt1, abd1, abr1, b1, b2, nI (q + 1), fo', fr', en', st') = some (r, da', ro', yh, yn, ybt, ybd, ybr, c1, c2, fs, fo2, fr2, en2, st2) ∧ self9 (nI (i + 1), no', w', sg') = some (r, 0, sm', no2, sn', bf, lv', w2, sg2) ∧ Same te da' ro' no2 0 ∧ ActsR yh yn ybt ybd ybr sm' sn' ∧ ∃ q' : Nat, q' ≤ q + 15 ∧ q' + N ≤ q + 15 ∧ fs = nI q' ∧ StL q' st2 := by
            unfold f_X8_addAll_J38
            dsimp only
            rw [e3, Option.bind_some]
            dsimp only
            rw [bd_eq, nI_1]
            obtain ⟨r, da', ro2, yh, yn, ybt, ybd, ybr, c1, c2, fs, fo2, fr2, en2, st2, sm', no2, sn', lv', w2, sg2, k1, k2, k3, k4, q', k5, k6, k7, k8⟩ := ih (i + 1) (N + 1) _ _ ro' no' ah1 an1 abt1 abd1 abr1 b1 b2 (q + 1) fo' fr' en' st' w' sg' (by omega) (by omega) hs1 hX' hM' (by omega) h1 (Or.inr ⟨by omega, rfl, rfl, rfl, rfl, rfl⟩)
            exact ⟨r, da', ro2, yh, yn, ybt, ybd, ybr, c1, c2, fs, fo2, fr2, en2, st2, sm', no2, sn', lv', w2, sg2, k1, k2, k3, k4, q', by omega, by omega, k7, k8⟩
          rcases hx with ⟨rfl, rfl, rfl, rfl, rfl, rfl, rfl, rfl⟩ | ⟨h9, rfl, rfl, rfl, rfl, rfl⟩
          · rw [if_pos (show nI 0 = 0 from rfl), hk, Option.bind_some]
            exact hgo
          · rw [if_neg (nI_ne0 (by omega) (by omega))]
            exact hgo
end
theorem st_22 : St_22 rd_Inv := by
  intro k
  intros
  rename_i p1 hk hp hI
  obtain ⟨hS, hA, h3, h4, h5, h7⟩ := hI
  obtain ⟨ah', an', abt', abd', abr', sm', snaps', ek, es, hA'⟩ := keep_snap hA hS
  have hS' := hS
  obtain ⟨T, N, g, hs, hX, hM⟩ := hS
  have hT := hs.T14
  have hN := hs.N13
  obtain ⟨best, rfl⟩ := bI_ex hp
  obtain ⟨q, hq, eq, hL⟩ := h5.stl
  subst eq
  unfold f_X8_addAll f_X9_addAll
  have c1' : ∀ a b : Nat → Int32, f_X9_copy 184 184 a b 0 0 = some (va_cpy a b 0 0 184) := x9copy 184 184 0 0 (by omega) (by omega) (by omega) (by omega)
  rw [c1', Option.bind_some]
  obtain ⟨r, da', ro', yh, yn, ybt, ybd, ybr, b1, b2, fs, fo2, fr2, en2, st2, sm2, no2, sn2, lv2, w2, sg2, e1, e2, k3, k4, q', k5, k6, k7, k8⟩ := addAll_go hT best _ hA ek (Same.cpM hS') 20000 0 N g _ _ _ _ _ _ _ _ _ _ q _ _ _ _ _ _ (by omega) (by omega) hs hX hM (by omega) hL (Or.inl ⟨rfl, rfl, rfl, rfl, rfl, rfl, rfl, rfl⟩)
  rw [show nI 0 = 0 from rfl] at e1 e2
  rw [e1, e2]
  exact ⟨_, _, _, _, _, _, _, _, _, _, _, _, _, _, _, _, _, _, _, _, _, _, _, _, rfl, rfl, rfl, k3, k4, h3, h4, ⟨q', by omega, k7, k8⟩, h7⟩
