/-! OURS: now, make, sign, alike -/
theorem PM.at0 {T N : Nat} {g : Nat → Nat → Nat} {no : Nat → Int32} (h : PM no 0 T N g) : no (0 : Int32).toNatClampNeg = nI T := h.1
theorem PM.at1 {T N : Nat} {g : Nat → Nat → Nat} {no : Nat → Int32} (h : PM no 0 T N g) : no (1 : Int32).toNatClampNeg = nI N := h.2.1
theorem inb0 : inb (0 : Int32) 184 := inb_ok (a := 0) (by omega) (by omega)
theorem inb1 : inb (1 : Int32) 184 := inb_ok (a := 1) (by omega) (by omega)
theorem x4makes (pp : Nat → Int32) {n : Nat} (hn : n < 8) : f_X4_makes pp (nI n) = some (pp n) := by
  unfold f_X4_makes
  rw [if_neg (nI_pos (by omega)), if_pos (show nI n ≤ (7 : Int32) from (nI_leI (b := 7) (by omega) (by omega)).mpr (by omega)), if_pos (inb_ok hn (by omega)), nI_clamp (by omega)]
section
variable {T N : Nat} {g : Nat → Nat → Nat} {te da : Int32} {ro no : Nat → Int32} {o : Nat}
theorem x4signOf (hs : Sok T N g) (ss : Nat → Int32) {d : Nat} (hd : d < N) : f_X4_signOf (nI N) ss (nI d) = some (ss d) := by
  have := hs.N13
  unfold f_X4_signOf
  rw [if_neg (nI_pos (by omega)), if_pos (nI_lt hd (by omega)), if_pos (inb_ok (by omega) (by omega)), nI_clamp (by omega)]
theorem x8makeM (hs : Sok T N g) (hX : PX te da ro T N g) (hM : PM no 0 T N g) (pd : Int32) (ps pds pp : Nat → Int32) : ∃ nd ns nds np, f_X4_measure pd ps pds pp te da ro = some (nd, ns, nds, np) ∧ nd = nI N ∧ (∀ i, i < N → ns i = nI (sg T N g i)) ∧ (∀ s, s < 13 → nds s = nI (sgN T N g (nI s))) ∧ ∀ n, n < 8 → np n = nI (mkN T N g (nI n)) := by
  obtain ⟨⟨nd, ns, nds, np⟩, h1, h2⟩ := x4measure hs hX hM pd ps pds pp
  exact ⟨nd, ns, nds, np, h1, h2⟩
end
theorem st_9 : St_9 rd_Inv := by
  intro k
  intros
  rename_i p1 hk hI
  have hI' := st_m k _ _ _ _ _ _ _ _ _ _ _ _ _ _ _ _ _ _ _ _ _ _ _ _ _ hI
  obtain ⟨⟨T, N, g, hs, hX, hM⟩, -⟩ := hI
  unfold f_X8_make f_X9_make f_X9_isIn
  by_cases c1 : p1 < (1 : Int32)
  · rw [if_pos c1, if_pos c1, Option.bind_some, if_pos zer0]
    exact ⟨_, _, _, _, _, _, _, rfl, rfl, rfl, hI'⟩
  · rw [if_neg c1, if_neg c1]
    by_cases c2 : p1 ≤ (7 : Int32)
    · rw [if_pos c2, if_neg (Int32.not_lt.mpr c2), Option.bind_some, if_neg one0]
      have c0 : ¬ p1 < 0 := fun h => c1 (Int32.lt_trans h (by decide))
      obtain ⟨n, hn, rfl⟩ := nI_of c0
      have hn8 : n < 8 := by
        have := (nI_leI (b := 7) hn (by omega)).mp c2
        omega
      obtain ⟨nd, ns, nds, np, e, h1, h2, h3, h4⟩ := x8makeM hs hX hM _ _ _ _
      rw [e, Option.bind_some]
      dsimp only
      rw [x4makes np hn8, Option.bind_some, x9makes hs hX 184 (by omega) (by omega) hM, Option.bind_some]
      exact ⟨_, _, _, _, _, _, _, rfl, rfl, h4 n hn8, hI'⟩
    · rw [if_neg c2, if_pos (Int32.not_le.mp c2), Option.bind_some, if_pos zer0]
      exact ⟨_, _, _, _, _, _, _, rfl, rfl, rfl, hI'⟩
theorem x3hasDay_in {N d : Nat} (hN : N < 2 ^ 31) (h : d < N) : f_X3_hasDay (nI N) (nI d) = some 1 := by
  unfold f_X3_hasDay
  rw [if_neg (nI_pos (by omega)), if_neg (nI_ge h hN)]
theorem x3hasDay_out {N : Nat} (hN : N < 2 ^ 31) {x : Int32} (h : ¬ ∃ d : Nat, d < N ∧ x = nI d) : f_X3_hasDay (nI N) x = some 0 := by
  unfold f_X3_hasDay
  rcases ix x N hN with c | ⟨c1, c2⟩ | ⟨d, hd, rfl⟩
  · rw [if_pos c]
  · rw [if_neg c2, if_pos c1]
  · exact absurd ⟨d, hd, rfl⟩ h
theorem st_10 : St_10 rd_Inv := by
  intro k
  intros
  rename_i p1 hk hI
  have hI' := st_m k _ _ _ _ _ _ _ _ _ _ _ _ _ _ _ _ _ _ _ _ _ _ _ _ _ hI
  obtain ⟨⟨T, N, g, hs, hX, hM⟩, -⟩ := hI
  have hN := hs.N13
  have hX2 := hX
  obtain ⟨rfl, rfl, -⟩ := hX2
  unfold f_X8_sign f_X9_sign
  by_cases c : ∃ d : Nat, d < N ∧ p1 = nI d
  · obtain ⟨d, hd, rfl⟩ := c
    rw [x3hasDay_in (by omega) hd, x9isDay_in hs hM hd, Option.bind_some, Option.bind_some, if_neg one0, if_neg one0, x9signOf hs hX 184 (by omega) (by omega) hM hd, Option.bind_some]
    obtain ⟨nd, ns, nds, np, e, rfl, h2, h3, h4⟩ := x8makeM hs hX hM _ _ _ _
    rw [e, Option.bind_some]
    dsimp only
    rw [x4signOf hs ns hd, Option.bind_some]
    exact ⟨_, _, _, _, _, _, _, rfl, rfl, h2 d hd, hI'⟩
  · rw [x3hasDay_out (by omega) c, x9isDay_out hs hM c, Option.bind_some, Option.bind_some, if_pos zer0, if_pos zer0]
    exact ⟨_, _, _, _, _, _, _, rfl, rfl, rfl, hI'⟩
theorem st_4 : St_4 rd_Inv := by
  intro k
  intros
  rename_i p1 hk hI
  have hI' := st_m k _ _ _ _ _ _ _ _ _ _ _ _ _ _ _ _ _ _ _ _ _ _ _ _ _ hI
  obtain ⟨⟨T, N, g, hs, hX, hM⟩, ⟨h9, nx, _, _, e5, e6, _⟩, _, ⟨n9, _, e7, e8, _⟩, _⟩ := hI
  have hN := hs.N13
  have hX2 := hX
  obtain ⟨eT, eN, -⟩ := hX2
  unfold f_X8_now f_X9_now
  by_cases c0 : p1 = (0 : Int32)
  · rw [if_pos c0, if_pos c0, x9teams hM, Option.bind_some]
    exact ⟨_, _, _, _, _, _, _, rfl, rfl, eT, hI'⟩
  rw [if_neg c0, if_neg c0]
  by_cases c1 : p1 = (1 : Int32)
  · rw [if_pos c1, if_pos c1, x9days hM, Option.bind_some]
    exact ⟨_, _, _, _, _, _, _, rfl, rfl, eN, hI'⟩
  rw [if_neg c1, if_neg c1]
  by_cases c2 : p1 = (2 : Int32)
  · rw [if_pos c2, if_pos c2, x9days hM, Option.bind_some, x9teams hM, Option.bind_some]
    subst eT eN
    by_cases c : nI N = nI T - 1
    · rw [if_pos c, if_pos c]
      exact ⟨_, _, _, _, _, _, _, rfl, rfl, rfl, hI'⟩
    · rw [if_neg c, if_neg c]
      exact ⟨_, _, _, _, _, _, _, rfl, rfl, rfl, hI'⟩
  rw [if_neg c2, if_neg c2]
  have hmk := x9makes hs hX 184 (by omega) (by omega) hM 1
  have e91 : inb (1 : Int32) 184 := inb_ok (a := 1) (by omega) (by omega)
  by_cases c3 : p1 = (3 : Int32)
  · rw [if_pos c3, if_pos c3]
    obtain ⟨nd, ns, nds, np, e, h1, h2, h3, h4⟩ := x8makeM hs hX hM _ _ _ _
    rw [e, Option.bind_some]
    dsimp only
    rw [show f_X4_makes np (1 : Int32) = _ from x4makes np (n := 1) (by omega), Option.bind_some, h4 1 (by omega)]
    unfold f_X9_isPerfect
    rw [hmk, Option.bind_some, if_pos e91, if_pos e91, hM.at1, eN]
    by_cases c : nI (mkN T N g (nI 1)) = nI N * (nI N - 1) / 2
    · rw [if_pos c, if_pos (show nI (mkN T N g 1) = _ from c), Option.bind_some, if_neg one0]
      rw [eN] at hI'
      exact ⟨_, _, _, _, _, _, _, rfl, rfl, rfl, hI'⟩
    · rw [if_neg c, if_neg (show ¬ nI (mkN T N g 1) = _ from c), Option.bind_some, if_pos zer0]
      rw [eN] at hI'
      exact ⟨_, _, _, _, _, _, _, rfl, rfl, rfl, hI'⟩
  rw [if_neg c3, if_neg c3]
  by_cases c4 : p1 = (4 : Int32)
  · rw [if_pos c4, if_pos c4]
    obtain ⟨nd, ns, nds, np, e, h1, h2, h3, h4⟩ := x8makeM hs hX hM _ _ _ _
    rw [e, Option.bind_some]
    dsimp only
    rw [show f_X4_makes np (1 : Int32) = _ from x4makes np (n := 1) (by omega), Option.bind_some, hmk, Option.bind_some]
    exact ⟨_, _, _, _, _, _, _, rfl, rfl, h4 1 (by omega), hI'⟩
  rw [if_neg c4, if_neg c4]
  by_cases c5 : p1 = (5 : Int32)
  · rw [if_pos c5, if_pos c5]
    exact ⟨_, _, _, _, _, _, _, rfl, rfl, e5.trans e6.symm, hI'⟩
  rw [if_neg c5, if_neg c5]
  by_cases c6 : p1 = (6 : Int32)
  · rw [if_pos c6, if_pos c6]
    exact ⟨_, _, _, _, _, _, _, rfl, rfl, e7.trans e8.symm, hI'⟩
  rw [if_neg c6, if_neg c6]
  exact ⟨_, _, _, _, _, _, _, rfl, rfl, rfl, hI'⟩
/-- two profiles, of as many days, say the same -/
def Alk (T N : Nat) (g g' : Nat → Nat → Nat) : Prop := (∀ s, s < 13 → sgN T N g (nI s) = sgN T N g' (nI s)) ∧ ∀ n, 1 ≤ n → n < 8 → mkN T N g (nI n) = mkN T N g' (nI n)
theorem mkN_le (T N : Nat) (g : Nat → Nat → Nat) (p : Int32) : mkN T N g p ≤ N * N := tri_le N _
theorem rc_pos {T N : Nat} {g : Nat → Nat → Nat} (hs : Sok T N g) {d e : Nat} (hd : d < N) : 1 ≤ rc T g d e := by
  have hT0 : 0 < T := by have := hs.1; omega
  rcases Nat.eq_zero_or_pos (rc T g d e) with h | h
  · have := (cmF_0 (rs g d e) T 0 0).mp h 0 (by omega) (by omega)
    rw [b_0] at this
    cases this
  · exact h
theorem mkN_0 {T N : Nat} {g : Nat → Nat → Nat} (hs : Sok T N g) : mkN T N g (nI 0) = 0 := by
  have hT := hs.T14
  have hp : ∀ n (p : Nat → Bool), (∀ i, i < n → p i = false) → pct n p = 0 := by
    intro n p h
    induction n with
    | zero => rfl
    | succ n ih => show pct n p + _ = 0; rw [ih (fun i hi => h i (by omega)), h n (by omega)]; rfl
  have ht : ∀ m, m ≤ N → tri m (fun b a => decide (nI (rc T g b a) = nI 0)) = 0 := by
    intro m hm
    induction m with
    | zero => rfl
    | succ m ih =>
      show tri m _ + pct m _ = 0
      rw [ih (by omega), hp]
      intro i hi
      have h1 := rc_pos hs (show m < N by omega) (e := i)
      have h2 := rc_le T g m i
      exact decide_eq_false (fun h => by rw [nI_eq (by omega) (by omega)] at h; omega)
  exact ht N (Nat.le_refl _)
theorem sgN_le (T N : Nat) (g : Nat → Nat → Nat) (p : Int32) : sgN T N g p ≤ N := pct_max _ _
section
variable {T N : Nat} {g g' : Nat → Nat → Nat} {te da : Int32} {ro no : Nat → Int32} {o : Nat}
theorem x4same (hs : Sok T N g) (hs' : Sok T N g') (ds pp ds' pp' : Nat → Int32) (h1 : ∀ s, s < 13 → ds s = nI (sgN T N g (nI s))) (h2 : ∀ n, n < 8 → pp n = nI (mkN T N g (nI n))) (h1' : ∀ s, s < 13 → ds' s = nI (sgN T N g' (nI s))) (h2' : ∀ n, n < 8 → pp' n = nI (mkN T N g' (nI n))) : ∃ r, f_X4_same ds pp ds' pp' = some r ∧ ((r = 1 ∧ Alk T N g g') ∨ (r = 0 ∧ ¬ Alk T N g g')) := by
  have hN := hs.N13
  have hNN : N * N ≤ 13 * 13 := Nat.mul_le_mul hN hN
  unfold f_X4_same
  refine lp_ex (I := fun x => ∃ s, s ≤ 13 ∧ x = nI s ∧ ∀ j, j < s → sgN T N g (nI j) = sgN T N g' (nI j)) (ms := fun x => 13 - x.toNatClampNeg) (Post := fun r => ((r = 1 ∧ Alk T N g g') ∨ (r = 0 ∧ ¬ Alk T N g g'))) ?_ 20000 _ ⟨0, by omega, rfl, fun j h => by omega⟩ (by show 13 - _ < _; omega)
  rintro x ⟨s, hs13, rfl, hj⟩ self hself
  unfold f_X4_same_L2
  by_cases c : s = 13
  · subst c
    rw [if_pos (by decide)]
    refine lp_ex (I := fun x => ∃ n, n ≤ 8 ∧ x = nI n ∧ ∀ j, j < n → mkN T N g (nI j) = mkN T N g' (nI j)) (ms := fun x => 8 - x.toNatClampNeg) (Post := fun r => ((r = 1 ∧ Alk T N g g') ∨ (r = 0 ∧ ¬ Alk T N g g'))) ?_ 20000 _ ⟨0, by omega, rfl, fun j h => by omega⟩ (by show 8 - _ < _; omega)
    rintro x ⟨n, hn, rfl, hm⟩ self hself
    unfold f_X4_same_L33
    by_cases c : n = 8
    · subst c
      rw [if_pos (by decide)]
      exact ⟨_, rfl, Or.inl ⟨rfl, hj, fun n _ h => hm n h⟩⟩
    · have k1 := mkN_le T N g (nI n)
      have k2 := mkN_le T N g' (nI n)
      rw [if_neg (show ¬ (7 : Int32) < nI n from nI_nlt (a := 7) (by omega) (by omega)), if_pos (inb_ok (by omega) (by omega)), if_pos (inb_ok (by omega) (by omega)), nI_clamp (by omega), h2 n (by omega), h2' n (by omega)]
      by_cases c2 : mkN T N g (nI n) = mkN T N g' (nI n)
      · rw [if_pos (congrArg nI c2), bd_eq, nI_1]
        refine hself _ ⟨n + 1, by omega, rfl, fun j hj => ?_⟩ (by show 8 - (nI (n + 1)).toNatClampNeg < 8 - (nI n).toNatClampNeg; rw [nI_clamp (by omega), nI_clamp (by omega)]; omega)
        rcases Nat.lt_or_ge j n with h | h
        · exact hm j h
        · rw [show j = n by omega]; exact c2
      · rw [if_neg (fun h => c2 ((nI_eq (by omega) (by omega)).mp h))]
        refine ⟨_, rfl, Or.inr ⟨rfl, fun h => c2 ?_⟩⟩
        by_cases e : n = 0
        · subst e; rw [mkN_0 hs, mkN_0 hs']
        · exact h.2 n (by omega) (by omega)
  · have k1 := sgN_le T N g (nI s)
    have k2 := sgN_le T N g' (nI s)
    rw [if_neg (show ¬ (13 : Int32) ≤ nI s from nI_ge (b := 13) (by omega) (by omega)), if_pos (inb_ok (by omega) (by omega)), if_pos (inb_ok (by omega) (by omega)), nI_clamp (by omega), h1 s (by omega), h1' s (by omega)]
    by_cases c2 : sgN T N g (nI s) = sgN T N g' (nI s)
    · rw [if_pos (congrArg nI c2), bd_eq, nI_1]
      refine hself _ ⟨s + 1, by omega, rfl, fun j hj' => ?_⟩ (by show 13 - (nI (s + 1)).toNatClampNeg < 13 - (nI s).toNatClampNeg; rw [nI_clamp (by omega), nI_clamp (by omega)]; omega)
      rcases Nat.lt_or_ge j s with h | h
      · exact hj j h
      · rw [show j = s by omega]; exact c2
    · rw [if_neg (fun h => c2 ((nI_eq (by omega) (by omega)).mp h))]
      exact ⟨_, rfl, Or.inr ⟨rfl, fun h => c2 (h.1 s (by omega))⟩⟩
theorem x9alike_go (hs : Sok T N g) (hs' : Sok T N g') {te' da' : Int32} {ro' no' : Nat → Int32} (hX : PX te da ro T N g) (hX' : PX te' da' ro' T N g') (hM : PM no 0 T N g) (hM' : PM no' 0 T N g') (kp ik : Nat → Int32) (p1 : Int32) : ∃ r, lp (f_X9_alike_L72 no kp ik p1 0 no') 20000 0 = some (r, 0, no') ∧ ((r = 1 ∧ Alk T N g g') ∨ (r = 0 ∧ ¬ Alk T N g g')) := by
  have hN := hs.N13
  have hNN : N * N ≤ 13 * 13 := Nat.mul_le_mul hN hN
  have key : ∃ r, lp (f_X9_alike_L72 no kp ik p1 0 no') 20000 0 = some r ∧ (r.2 = (0, no') ∧ ((r.1 = 1 ∧ Alk T N g g') ∨ (r.1 = 0 ∧ ¬ Alk T N g g'))) := by
    refine lp_ex (I := fun x => ∃ s, s ≤ 13 ∧ x = nI s ∧ ∀ j, j < s → sgN T N g (nI j) = sgN T N g' (nI j)) (ms := fun x => 13 - x.toNatClampNeg) (Post := fun r : Int32 × Int32 × (Nat → Int32) => (r.2 = (0, no') ∧ ((r.1 = 1 ∧ Alk T N g g') ∨ (r.1 = 0 ∧ ¬ Alk T N g g')))) ?_ 20000 _ ⟨0, by omega, rfl, fun j h => by omega⟩ (by show 13 - _ < _; omega)
    rintro x ⟨s, hs13, rfl, hj⟩ self hself
    unfold f_X9_alike_L72
    by_cases c : s = 13
    · subst c
      rw [if_pos (by decide)]
      refine lp_ex (I := fun x => ∃ n, 1 ≤ n ∧ n ≤ 8 ∧ x = nI n ∧ ∀ j, 1 ≤ j → j < n → mkN T N g (nI j) = mkN T N g' (nI j)) (ms := fun x => 8 - x.toNatClampNeg) (Post := fun r : Int32 × Int32 × (Nat → Int32) => (r.2 = (0, no') ∧ ((r.1 = 1 ∧ Alk T N g g') ∨ (r.1 = 0 ∧ ¬ Alk T N g g')))) ?_ 20000 _ ⟨1, by omega, by omega, rfl, fun j h => by omega⟩ (by show 8 - _ < _; omega)
      rintro x ⟨n, hn1, hn, rfl, hm⟩ self hself
      unfold f_X9_alike_L107
      by_cases c : n = 8
      · subst c
        rw [if_pos (by decide)]
        exact ⟨_, rfl, rfl, Or.inl ⟨rfl, hj, hm⟩⟩
      · have k1 := mkN_le T N g (nI n)
        have k2 := mkN_le T N g' (nI n)
        rw [if_neg (show ¬ (7 : Int32) < nI n from nI_nlt (a := 7) (by omega) (by omega)), x9makes hs hX 184 (by omega) (by omega) hM, Option.bind_some, x9makes hs' hX' 184 (by omega) (by omega) hM', Option.bind_some]
        by_cases c2 : mkN T N g (nI n) = mkN T N g' (nI n)
        · rw [if_pos (congrArg nI c2), bd_eq, nI_1]
          refine hself _ ⟨n + 1, by omega, by omega, rfl, fun j h1 hj => ?_⟩ (by show 8 - (nI (n + 1)).toNatClampNeg < 8 - (nI n).toNatClampNeg; rw [nI_clamp (by omega), nI_clamp (by omega)]; omega)
          rcases Nat.lt_or_ge j n with h | h
          · exact hm j h1 h
          · rw [show j = n by omega]; exact c2
        · rw [if_neg (fun h => c2 ((nI_eq (by omega) (by omega)).mp h))]
          exact ⟨_, rfl, rfl, Or.inr ⟨rfl, fun h => c2 (h.2 n (by omega) (by omega))⟩⟩
    · have k1 := sgN_le T N g (nI s)
      have k2 := sgN_le T N g' (nI s)
      rw [if_neg (show ¬ (13 : Int32) ≤ nI s from nI_ge (b := 13) (by omega) (by omega)), x9signed hs hX 184 (by omega) (by omega) hM, Option.bind_some, x9signed hs' hX' 184 (by omega) (by omega) hM', Option.bind_some]
      by_cases c2 : sgN T N g (nI s) = sgN T N g' (nI s)
      · rw [if_pos (congrArg nI c2), bd_eq, nI_1]
        refine hself _ ⟨s + 1, by omega, rfl, fun j hj' => ?_⟩ (by show 13 - (nI (s + 1)).toNatClampNeg < 13 - (nI s).toNatClampNeg; rw [nI_clamp (by omega), nI_clamp (by omega)]; omega)
        rcases Nat.lt_or_ge j s with h | h
        · exact hj j h
        · rw [show j = s by omega]; exact c2
      · rw [if_neg (fun h => c2 ((nI_eq (by omega) (by omega)).mp h))]
        exact ⟨_, rfl, rfl, Or.inr ⟨rfl, fun h => c2 (h.1 s (by omega))⟩⟩
  obtain ⟨⟨r, r2⟩, h1, h2, h3⟩ := key
  dsimp only at h2
  subst h2
  exact ⟨r, h1, h3⟩
theorem x8alike_0 (pt pd : Int32) (pr kt kd : Nat → Int32) (kr : Nat → Nat → Int32) (fi : Nat → Int32) (a1 : Int32) (a2 a3 a4 : Nat → Int32) (b1 : Int32) (b2 b3 b4 : Nat → Int32) {x : Int32} (h : f_X8_isFilled fi x = some 0) : f_X8_alike pt pd pr kt kd kr fi a1 a2 a3 a4 b1 b2 b3 b4 x = some (-1, a1, a2, a3, a4, b1, b2, b3, b4) := by
  unfold f_X8_alike
  rw [h, Option.bind_some, if_pos zer0]
theorem x9alike_0 (th : Int32) (a b c d : Nat → Int32) {x : Int32} (h : f_X9_isIn x 0 1 = some 0) : f_X9_alike th a b c d x = some (-1, 0, c) := by
  unfold f_X9_alike
  rw [h, Option.bind_some, if_pos zer0]
theorem x9alike_no (th : Int32) (a b c d : Nat → Int32) {i : Nat} (hi : i < 2) (h : d i = 0) : f_X9_alike th a b c d (nI i) = some (-1, 0, c) := by
  unfold f_X9_alike
  rw [isIn01_in hi, Option.bind_some, if_neg one0, if_pos (inb_ok hi (by omega)), nI_clamp (by omega), if_pos h]
theorem x9alike_in (th : Int32) (kp c d : Nat → Int32) {i : Nat} (hi : i < 2) (h : d i = 1) (hM : PM no 0 T N g) {T' N' : Nat} {no' : Nat → Int32} (hc : no' = va_cpy kp c (184 * i) 0 184) (hM' : PM no' 0 T' N' g') : f_X9_alike th no kp c d (nI i) = if nI T' = nI T then if nI N' = nI N then lp (f_X9_alike_L72 no kp d (nI i) 0 no') 20000 0 else some (0, 0, no') else some (0, 0, no') := by
  unfold f_X9_alike
  rw [isIn01_in hi, Option.bind_some, if_neg one0, if_pos (inb_ok hi (by omega)), nI_clamp (by omega), h, if_neg one0, show (184 : Int32) * nI i = nI (184 * i) from pk_mul 184 i, show f_X9_copy 368 184 kp c (nI (184 * i)) (0 : Int32) = _ from x9copy 368 184 (184 * i) 0 (by omega) (by omega) (by omega) (by omega) kp c, Option.bind_some, ← hc, if_pos inb0, x9teams hM, Option.bind_some, hM'.at0, if_pos inb1, x9days hM, Option.bind_some, hM'.at1]
end
theorem st_19 : St_19 rd_Inv := by
  intro k
  intros
  rename_i p1 hk hI
  have hI' := st_m k _ _ _ _ _ _ _ _ _ _ _ _ _ _ _ _ _ _ _ _ _ _ _ _ _ hI
  obtain ⟨⟨T, N, g, hs, hX, hM⟩, -, h3, -⟩ := hI
  rcases ix p1 2 (by omega) with c | ⟨c1, c2⟩ | ⟨i, hi, rfl⟩
  · exact ⟨_, _, _, _, _, _, _, _, _, _, _, _, x8alike_0 _ _ _ _ _ _ _ _ _ _ _ _ _ _ _ (x8filled_lo _ c), x9alike_0 _ _ _ _ _ (isIn01_lo c), rfl, hI'⟩
  · exact ⟨_, _, _, _, _, _, _, _, _, _, _, _, x8alike_0 _ _ _ _ _ _ _ _ _ _ _ _ _ _ _ (x8filled_hi _ c2 c1), x9alike_0 _ _ _ _ _ (isIn01_hi c1), rfl, hI'⟩
  · rcases h3 i hi with ⟨a, b⟩ | ⟨a, b, T', N', g', hs', hX', hMk⟩
    · exact ⟨_, _, _, _, _, _, _, _, _, _, _, _, x8alike_0 _ _ _ _ _ _ _ _ _ _ _ _ _ _ _ (by rw [x8filled _ hi, if_pos a]), x9alike_no _ _ _ _ _ hi b, rfl, hI'⟩
    · have hN := hs.N13
      have hT := hs.T14
      have hN' := hs'.N13
      have hT' := hs'.T14
      have e9 := fun th c => x9alike_in th _ c _ hi b hM (no' := va_cpy _ c (184 * i) 0 184) rfl (hMk.cp hs')
      unfold f_X8_alike
      rw [x8filled _ hi, a, if_neg one0, Option.bind_some, if_neg one0, if_pos (inb_ok hi (by omega)), nI_clamp (by omega), bd_eq]
      by_cases ct : T' = T
      · subst ct
        rw [if_pos (hX.1.trans hX'.1.symm)]
        by_cases cn : N' = N
        · subst cn
          rw [if_pos (hX.2.1.trans hX'.2.1.symm)]
          obtain ⟨nd, ns, nds, np, e, rfl, h2, h3, h4⟩ := x8makeM hs hX hM _ _ _ _
          obtain ⟨nd', ns', nds', np', e', rfl, h2', h3', h4'⟩ := x8makeM hs' hX' (hMk.cp (b := fun _ => 0) (e := 0) hs') _ _ _ _
          rw [e, Option.bind_some]
          dsimp only
          rw [e', Option.bind_some]
          dsimp only
          obtain ⟨r, e1, h5⟩ := x4same hs hs' _ _ _ _ h3 h4 h3' h4'
          rw [e1, Option.bind_some]
          obtain ⟨r9, e2, h6⟩ := x9alike_go hs hs' hX hX' hM (hMk.cp (b := _) (e := 0) hs') _ _ (nI i)
          rcases h5 with ⟨rfl, h5⟩ | ⟨rfl, h5⟩
          · rw [if_neg one0]
            refine ⟨_, _, _, _, _, _, _, _, _, _, _, _, rfl, (e9 _ _).trans ((if_pos rfl).trans ((if_pos rfl).trans e2)), ?_, hI'⟩
            rcases h6 with ⟨rfl, h6⟩ | ⟨rfl, h6⟩
            · rfl
            · exact absurd h5 h6
          · rw [if_pos zer0]
            refine ⟨_, _, _, _, _, _, _, _, _, _, _, _, rfl, (e9 _ _).trans ((if_pos rfl).trans ((if_pos rfl).trans e2)), ?_, hI'⟩
            rcases h6 with ⟨rfl, h6⟩ | ⟨rfl, h6⟩
            · exact absurd h6 h5
            · rfl
        · rw [if_neg (fun h => cn ?_)]
          · exact ⟨_, _, _, _, _, _, _, _, _, _, _, _, rfl, (e9 _ _).trans ((if_pos rfl).trans (if_neg (fun h => cn ((nI_eq (by omega) (by omega)).mp h)))), rfl, hI'⟩
          · have := hX'.2.1.symm.trans (h.symm.trans hX.2.1)
            exact (nI_eq (by omega) (by omega)).mp this
      · rw [if_neg (fun h => ct ?_)]
        · exact ⟨_, _, _, _, _, _, _, _, _, _, _, _, rfl, (e9 _ _).trans (if_neg (fun h => ct ((nI_eq (by omega) (by omega)).mp h))), rfl, hI'⟩
        · have := hX'.1.symm.trans (h.symm.trans hX.1)
          exact (nI_eq (by omega) (by omega)).mp this
