/-! OURS: starters, starter, by -/
theorem all_rel : ∀ m, m < 14 → 1 ≤ m → ∀ i, i < 32 → bt (((1 : Int32) <<< (nI m &&& 31)) - 2) i = (decide (1 ≤ i) && decide (i < m)) := by decide +kernel
theorem root_rel {m : Nat} (h3 : 3 ≤ m) (h13 : m ≤ 13) : Rel (((1 : Int32) <<< (nI m &&& 31)) - 2) (List.range' 1 (m - 1)) := by
  intro i hi
  rw [all_rel m (by omega) (by omega) i hi, Bool.eq_iff_iff, Bool.and_eq_true, decide_eq_true_iff, decide_eq_true_iff, decide_eq_true_iff, List.mem_range'_1]
  omega
theorem root_in {m i : Nat} (h3 : 3 ≤ m) (h : i ∈ List.range' 1 (m - 1)) : 1 ≤ i ∧ i < m := by
  rw [List.mem_range'_1] at h
  omega
theorem Rel_0 : Rel 0 [] := fun i _ => by rw [b_0]; rfl
theorem odd_par : ∀ n, n < 14 → (n % 2 = 1 ∧ (nI n &&& 1) = 1 ∧ (nI n - nI n / 2 * 2) = 1) ∨ (n % 2 = 0 ∧ ¬ (nI n &&& 1) = 1 ∧ ¬ (nI n - nI n / 2 * 2) = 1) := by decide +kernel
theorem odd_sz (x : Int32) : (∃ m : Nat, (3 ≤ m ∧ m ≤ 13 ∧ m % 2 = 1) ∧ x = nI m ∧ f_X8_isStarterSize x = some 1 ∧ f_X9_isOdd x = some 1) ∨ (f_X8_isStarterSize x = some 0 ∧ f_X9_isOdd x = some 0) := by
  unfold f_X8_isStarterSize f_X9_isOdd f_X9_isIn
  by_cases c1 : x < 3
  · right
    rw [if_pos c1, if_pos c1, Option.bind_some, if_pos zer0]
    exact ⟨rfl, rfl⟩
  · rw [if_neg c1, if_neg c1]
    by_cases c2 : 13 < x
    · right
      rw [if_pos c2, if_pos c2, Option.bind_some, if_pos zer0]
      exact ⟨rfl, rfl⟩
    · rw [if_neg c2, if_neg c2, Option.bind_some, if_neg one0]
      rcases ix x 14 (by omega) with h | ⟨h, -⟩ | ⟨n, hn, rfl⟩
      · exfalso
        apply c1
        rw [Int32.lt_iff_toInt_lt] at h ⊢
        have e1 : (0 : Int32).toInt = 0 := by decide
        have e2 : (3 : Int32).toInt = 3 := by decide
        omega
      · exfalso
        apply c2
        rw [Int32.le_iff_toInt_le] at h
        rw [Int32.lt_iff_toInt_lt]
        have e1 : (nI 14).toInt = 14 := by decide
        have e2 : (13 : Int32).toInt = 13 := by decide
        omega
      · have h3 : 3 ≤ n := by
          rcases Nat.lt_or_ge n 3 with h | h
          · exact absurd (show nI n < 3 from nI_lt (b := 3) h (by omega)) c1
          · exact h
        rcases odd_par n hn with ⟨q1, q2, q3⟩ | ⟨q1, q2, q3⟩
        · left
          rw [if_pos q2, if_pos q3]
          exact ⟨n, ⟨h3, by omega, q1⟩, rfl, rfl, rfl⟩
        · right
          rw [if_neg q2, if_neg q3]
          exact ⟨rfl, rfl⟩
theorem enA_m {m : Nat} (hm : 3 ≤ m ∧ m ≤ 13 ∧ m % 2 = 1) : (enA m).length ≤ 1000 ∧ ∀ P ∈ enA m, StF m P := by
  refine enA_ok m ?_
  have : m = 3 ∨ m = 5 ∨ m = 7 ∨ m = 9 ∨ m = 11 ∨ m = 13 := by omega
  rcases this with rfl | rfl | rfl | rfl | rfl | rfl <;> decide
theorem range_pw (m : Nat) : (List.range' 1 (m - 1)).Pairwise (· < ·) := List.pairwise_lt_range' ..
theorem x6root {m : Nat} (hm : 3 ≤ m ∧ m ≤ 13 ∧ m % 2 = 1) (w j : Int32) (row : Nat → Int32) (pt pd : Int32) (pr : Nat → Int32) : ∃ r, f_X6_seek (nI m) w j 9 (0, 0, row, pt, pd, pr, ((1 : Int32) <<< (nI m &&& 31)) - 2, 0, 1) = some r ∧ SkR m w j (enA m) 0 0 (List.range' 1 (m - 1)) row r := by
  have h := enA_m hm
  exact x6seek hm w j 9 (List.range' 1 (m - 1)) [] [] 0 0 1 row pt pd pr _ _ (by rw [List.length_range']; omega) (range_pw m) (fun i hi => root_in hm.1 hi) (by omega) (by omega) (root_rel hm.1 hm.2.1) Rel_0 (fun ab h => absurd h (List.not_mem_nil)) (fun ab h => absurd h (List.not_mem_nil)) (by have := h.1; show 0 + (enA m).length ≤ 1000; omega) (by omega) h.2
theorem x9root {m : Nat} (hm : 3 ≤ m ∧ m ≤ 13 ∧ m % 2 = 1) (w j : Int32) (oth srow wrow : Nat → Int32) : ∃ r, f_X9_starts w 9 (0, 0, oth, srow, wrow, nI m, ((1 : Int32) <<< (nI m &&& 31)) - 2, 0, j) = some r ∧ StR m w j (enA m) 0 0 (List.range' 1 (m - 1)) srow wrow r := by
  have h := enA_m hm
  exact x9starts hm w j 9 (List.range' 1 (m - 1)) [] [] 0 0 oth srow wrow _ _ (by rw [List.length_range']; omega) (range_pw m) (fun i hi => root_in hm.1 hi) (root_rel hm.1 hm.2.1) Rel_0 (fun i h1 h2 => ⟨fun h => absurd h (List.not_mem_nil), fun h => absurd h (List.not_mem_nil)⟩) (fun ab h => absurd h (List.not_mem_nil)) (fun ab h => absurd h (List.not_mem_nil)) (by have := h.1; show 0 + (enA m).length ≤ 1000; omega) (by omega) h.2
/-- the k-th starter, or none -/
def KS (m : Nat) (k r : Int32) (row : Nat → Int32) : Prop := (r = 0 ∧ ∀ i, i < (enA m).length → k ≠ nI i) ∨ (r = 1 ∧ ∃ i P, (enA m)[i]? = some P ∧ k = nI i ∧ RowOk row P)
theorem KS.same {m : Nat} (hm : 3 ≤ m ∧ m ≤ 13 ∧ m % 2 = 1) {k r r' : Int32} {row row' : Nat → Int32} (h : KS m k r row) (h' : KS m k r' row') : (r = 0 ∧ r' = 0) ∨ (r = 1 ∧ r' = 1 ∧ ∃ P, StF m P ∧ RowOk row P ∧ RowOk row' P) := by
  have hE := enA_m hm
  rcases h with ⟨h1, h2⟩ | ⟨h1, i, P, a1, a2, a3⟩
  · rcases h' with ⟨h3, h4⟩ | ⟨h3, i', P', b1, b2, b3⟩
    · exact Or.inl ⟨h1, h3⟩
    · obtain ⟨hi, -⟩ := List.getElem?_eq_some_iff.mp b1
      exact absurd b2 (h2 i' hi)
  · obtain ⟨hi, ei⟩ := List.getElem?_eq_some_iff.mp a1
    rcases h' with ⟨h3, h4⟩ | ⟨h3, i', P', b1, b2, b3⟩
    · exact absurd a2 (h4 i hi)
    · obtain ⟨hi', ei'⟩ := List.getElem?_eq_some_iff.mp b1
      rw [a2] at b2
      have e := (nI_eq (by omega) (by omega)).mp b2
      subst e
      rw [a1] at b1
      cases b1
      exact Or.inr ⟨h1, h3, P, hE.2 P (by rw [← ei]; exact List.getElem_mem hi), a3, b3⟩
theorem x6find {m : Nat} (hm : 3 ≤ m ∧ m ≤ 13 ∧ m % 2 = 1) (k a1 a2 a3 a4 a5 : Int32) (row : Nat → Int32) (pt pd : Int32) (pr : Nat → Int32) : ∃ r b1 b2 b3 b4 b5 row' pt' pd' pr', f_X6_find a1 a2 a3 a4 a5 row pt pd pr (nI m) k = some (r, b1, b2, b3, b4, b5, row', pt', pd', pr') ∧ KS m k r row' := by
  have hE := enA_m hm
  unfold f_X6_find f_X6_begin f_X6_numbers
  rw [if_pos (Or.inl rfl), Option.bind_some]
  dsimp only
  by_cases c : k < 0
  · rw [if_pos c]
    refine ⟨_, _, _, _, _, _, _, _, _, _, rfl, Or.inl ⟨rfl, fun i hi h => ?_⟩⟩
    rw [h] at c
    exact nI_pos (by omega) c
  · obtain ⟨⟨r0, c1', q1', row1, pt1, pd1, pr1⟩, e1, h1⟩ := x6root hm k 0 row pt pd pr
    rw [if_neg c, Option.bind_some, e1, Option.bind_some]
    unfold SkR at h1
    dsimp only at h1 ⊢
    rcases h1 with ⟨i, P', k1, k2, rfl, k4⟩ | ⟨k1, rfl, rfl, rfl, k5⟩
    · rw [if_neg one0]
      rw [Nat.zero_add] at k2
      exact ⟨_, _, _, _, _, _, _, _, _, _, rfl, Or.inr ⟨rfl, i, P', k1, k2, k4⟩⟩
    · rw [if_pos zer0]
      exact ⟨_, _, _, _, _, _, _, _, _, _, rfl, Or.inl ⟨rfl, fun i hi => by have := k1 i hi; rw [Nat.zero_add] at this; exact this⟩⟩
theorem x9layS {m : Nat} (hm : 3 ≤ m ∧ m ≤ 13 ∧ m % 2 = 1) (ho : f_X9_isOdd (nI m) = some 1) (k a1 a2 a3 : Int32) (oth srow wrow : Nat → Int32) : ∃ r b1 b2 b3 oth' srow' wrow', f_X9_laysStarter a1 a2 a3 oth srow wrow (nI m) k = some (r, b1, b2, b3, oth', srow', wrow') ∧ KS m k r wrow' := by
  have hE := enA_m hm
  unfold f_X9_laysStarter f_X9_laysStarters
  rw [ho, Option.bind_some, if_neg one0]
  by_cases c : 0 ≤ k
  · obtain ⟨⟨c1', q1', oth1, srow1, wrow1⟩, e1, h1⟩ := x9root hm k 0 oth srow wrow
    rw [if_pos c, e1, Option.bind_some]
    unfold StR at h1
    dsimp only at h1 ⊢
    rw [Option.bind_some]
    dsimp only
    obtain ⟨rfl, rfl, k3, k4⟩ := h1
    rw [Nat.zero_add]
    rcases k4 with ⟨i, P', k1, k2, k4⟩ | ⟨k1, k2⟩
    · obtain ⟨hi, -⟩ := List.getElem?_eq_some_iff.mp k1
      rw [Nat.zero_add] at k2
      rw [if_neg (by rw [k2]; exact nI_ge hi (by omega))]
      exact ⟨_, _, _, _, _, _, _, rfl, Or.inr ⟨rfl, i, P', k1, k2, k4⟩⟩
    · have hk : nI (enA m).length ≤ k := by
        rcases ix k 1001 (by omega) with h | ⟨h, -⟩ | ⟨i, hi, rfl⟩
        · exact absurd c (Int32.not_le.mpr h)
        · refine Int32.le_trans ?_ h
          exact (nI_leI (by omega) (by omega)).mpr (by omega)
        · rcases Nat.lt_or_ge i (enA m).length with h | h
          · have := k1 i h
            rw [Nat.zero_add] at this
            exact absurd rfl this
          · exact (nI_leI (by omega) (by omega)).mpr h
      rw [if_pos hk]
      exact ⟨_, _, _, _, _, _, _, rfl, Or.inl ⟨rfl, fun i hi => by have := k1 i hi; rw [Nat.zero_add] at this; exact this⟩⟩
  · rw [if_neg c]
    refine ⟨_, _, _, _, _, _, _, rfl, Or.inl ⟨rfl, fun i hi h => ?_⟩⟩
    rw [h] at c
    exact c (nI_pos' (by omega))
theorem x9layS_n {x : Int32} (ho : f_X9_isOdd x = some 0) (k a1 a2 a3 : Int32) (oth srow wrow : Nat → Int32) : f_X9_laysStarter a1 a2 a3 oth srow wrow x k = some (0, a1, a2, a3, oth, srow, wrow) := by
  unfold f_X9_laysStarter
  rw [ho, Option.bind_some, if_pos zer0]
theorem x6all {m : Nat} (hm : 3 ≤ m ∧ m ≤ 13 ∧ m % 2 = 1) (j : Int32) (hj : j = 0 ∨ j = 1) (a1 a2 a3 a4 a5 : Int32) (row : Nat → Int32) (pt pd : Int32) (pr : Nat → Int32) : ∃ b3 b4 b5 row' pt' pd' pr', f_X6_countAll a1 a2 a3 a4 a5 row pt pd pr (nI m) j = some (nI (enA m).length, nI (jn m j (enA m)), b3, b4, b5, row', pt', pd', pr') := by
  have hE := enA_m hm
  unfold f_X6_countAll f_X6_begin f_X6_numbers
  rw [if_pos hj, Option.bind_some]
  dsimp only
  obtain ⟨⟨r0, c1', q1', row1, pt1, pd1, pr1⟩, e1, h1⟩ := x6root hm (-1) j row pt pd pr
  rw [Option.bind_some, e1, Option.bind_some]
  unfold SkR at h1
  dsimp only at h1 ⊢
  rcases h1 with ⟨i, P', k1, k2, rfl, k4⟩ | ⟨k1, rfl, rfl, rfl, k5⟩
  · obtain ⟨hi, -⟩ := List.getElem?_eq_some_iff.mp k1
    have := nI_nm1' (a := 0 + i) (by omega)
    exact absurd k2 (fun h => this.mp h)
  · rw [Nat.zero_add, Nat.zero_add]
    exact ⟨_, _, _, _, _, _, _, rfl⟩
theorem x9all {m : Nat} (hm : 3 ≤ m ∧ m ≤ 13 ∧ m % 2 = 1) (j : Int32) (a1 a2 a3 : Int32) (oth srow wrow : Nat → Int32) : ∃ b3 oth' srow' wrow', f_X9_laysStarters a1 a2 a3 oth srow wrow (nI m) (-1) j = some (nI (enA m).length, nI (jn m j (enA m)), b3, oth', srow', wrow') := by
  unfold f_X9_laysStarters
  obtain ⟨⟨c1', q1', oth1, srow1, wrow1⟩, e1, h1⟩ := x9root hm (-1) j oth srow wrow
  rw [e1, Option.bind_some]
  unfold StR at h1
  dsimp only at h1 ⊢
  obtain ⟨rfl, rfl, k3, k4⟩ := h1
  rw [Nat.zero_add, Nat.zero_add]
  exact ⟨_, _, _, _, rfl⟩
theorem st_15 : St_15 rd_Inv := by
  intro k
  intros
  rename_i p1 p2 hk hI
  have hI' := st_m k _ _ _ _ _ _ _ _ _ _ _ _ _ _ _ _ _ _ _ _ _ _ _ _ _ hI
  unfold f_X8_starters f_X9_starters
  rcases odd_sz p1 with ⟨m, hm, rfl, e1, e2⟩ | ⟨e1, e2⟩
  · rw [e1, e2, Option.bind_some, Option.bind_some, if_neg one0, if_neg one0]
    rcases or_assoc.mpr (ix01 p2) with c1 | c1
    · rw [x9isIn01_n c1, Option.bind_some, if_pos zer0]
      rcases c1 with c1 | ⟨c1, c2⟩
      · rw [if_pos c1]
        exact ⟨_, _, _, _, _, _, _, _, _, _, _, _, _, _, _, _, _, _, rfl, rfl, rfl, hI'⟩
      · rw [if_neg c2, if_neg (Int32.not_le.mpr c1)]
        exact ⟨_, _, _, _, _, _, _, _, _, _, _, _, _, _, _, _, _, _, rfl, rfl, rfl, hI'⟩
    · unfold f_X8_starters_J33 f_X9_starters_J36
      rcases c1 with rfl | rfl
      · rw [show f_X9_isIn 0 0 1 = some 1 from rfl, Option.bind_some, if_neg one0, if_neg (show ¬ (0 : Int32) < 0 by decide), if_pos (show (0 : Int32) ≤ 1 by decide), if_neg (show ¬ (0 : Int32) = 1 by decide), if_neg (show ¬ (0 : Int32) = 1 by decide)]
        dsimp only
        obtain ⟨b3, b4, b5, row', pt', pd', pr', e3⟩ := x6all hm 0 (Or.inl rfl) _ _ _ _ _ _ _ _ _
        obtain ⟨b3', oth', srow', wrow', e4⟩ := x9all hm 0 _ _ _ _ _ _
        rw [e3, e4, Option.bind_some, Option.bind_some]
        dsimp only
        rw [if_pos zer0, if_pos zer0]
        exact ⟨_, _, _, _, _, _, _, _, _, _, _, _, _, _, _, _, _, _, rfl, rfl, rfl, hI'⟩
      · rw [show f_X9_isIn 1 0 1 = some 1 from rfl, Option.bind_some, if_neg one0, if_neg (show ¬ (1 : Int32) < 0 by decide), if_pos (show (1 : Int32) ≤ 1 by decide), if_pos rfl, if_pos rfl]
        dsimp only
        obtain ⟨b3, b4, b5, row', pt', pd', pr', e3⟩ := x6all hm 1 (Or.inr rfl) _ _ _ _ _ _ _ _ _
        obtain ⟨b3', oth', srow', wrow', e4⟩ := x9all hm 1 _ _ _ _ _ _
        rw [e3, e4, Option.bind_some, Option.bind_some]
        dsimp only
        rw [if_neg one0, if_neg one0]
        exact ⟨_, _, _, _, _, _, _, _, _, _, _, _, _, _, _, _, _, _, rfl, rfl, rfl, hI'⟩
  · rw [e1, e2, Option.bind_some, Option.bind_some, if_pos zer0, if_pos zer0]
    exact ⟨_, _, _, _, _, _, _, _, _, _, _, _, _, _, _, _, _, _, rfl, rfl, rfl, hI'⟩
theorem x9isIn1_y {m i : Nat} (hm : m < 2 ^ 30) (h1 : 1 ≤ i) (h2 : i < m) : f_X9_isIn (nI i) 1 (nI m - 1) = some 1 := by
  unfold f_X9_isIn
  rw [show nI m - 1 = nI (m - 1) from pk_sub (b := 1) (by omega), if_neg (show ¬ nI i < 1 from (show ¬ nI i < nI 1 from nI_nlt h1 (by omega))), if_neg (nI_nlt (by omega) (by omega))]
theorem x9isIn1_n {m : Nat} {x : Int32} (hm : 1 ≤ m) (hm2 : m < 2 ^ 30) (h : x < 1 ∨ (nI m ≤ x ∧ ¬ x < 1)) : f_X9_isIn x 1 (nI m - 1) = some 0 := by
  unfold f_X9_isIn
  rcases h with h | ⟨h, h2⟩
  · rw [if_pos h]
  · rw [if_neg h2, show nI m - 1 = nI (m - 1) from pk_sub (b := 1) (by omega), if_pos]
    rw [Int32.le_iff_toInt_le, nI_toInt (by omega)] at h
    rw [Int32.lt_iff_toInt_lt, nI_toInt (by omega)]
    omega
theorem st_16 : St_16 rd_Inv := by
  intro k
  intros
  rename_i p1 p2 p3 hk hI
  have hI' := st_m k _ _ _ _ _ _ _ _ _ _ _ _ _ _ _ _ _ _ _ _ _ _ _ _ _ hI
  unfold f_X8_starter f_X9_starter
  rcases odd_sz p1 with ⟨m, hm, rfl, e1, e2⟩ | ⟨e1, e2⟩
  · obtain ⟨r, b1, b2, b3, oth', srow', wrow', e3, h3⟩ := x9layS hm e2 p2 _ _ _ _ _ _
    rw [e1, e3, Option.bind_some, Option.bind_some, if_neg one0]
    dsimp only
    obtain ⟨r', a1, a2, a3, a4, a5, row', pt', pd', pr', e4, h4⟩ := x6find hm p2 _ _ _ _ _ _ _ _ _
    by_cases c1 : p3 < 1
    · rw [if_pos c1]
      by_cases c2 : r = 0
      · rw [if_pos c2]
        exact ⟨_, _, _, _, _, _, _, _, _, _, _, _, _, _, _, _, _, _, rfl, rfl, rfl, hI'⟩
      · rw [if_neg c2, x9isIn1_n (by omega) (by omega) (Or.inl c1), Option.bind_some, if_pos zer0]
        exact ⟨_, _, _, _, _, _, _, _, _, _, _, _, _, _, _, _, _, _, rfl, rfl, rfl, hI'⟩
    · rw [if_neg c1]
      by_cases c3 : nI m ≤ p3
      · rw [if_pos c3]
        by_cases c2 : r = 0
        · rw [if_pos c2]
          exact ⟨_, _, _, _, _, _, _, _, _, _, _, _, _, _, _, _, _, _, rfl, rfl, rfl, hI'⟩
        · rw [if_neg c2, x9isIn1_n (by omega) (by omega) (Or.inr ⟨c3, c1⟩), Option.bind_some, if_pos zer0]
          exact ⟨_, _, _, _, _, _, _, _, _, _, _, _, _, _, _, _, _, _, rfl, rfl, rfl, hI'⟩
      · obtain ⟨i, hi1, hi2, rfl⟩ : ∃ i : Nat, 1 ≤ i ∧ i < m ∧ p3 = nI i := by
          rcases ix p3 m (by omega) with h | ⟨h, -⟩ | ⟨i, hi, rfl⟩
          · exfalso
            apply c1
            rw [Int32.lt_iff_toInt_lt] at h ⊢
            have e1 : (0 : Int32).toInt = 0 := by decide
            have e2 : (1 : Int32).toInt = 1 := by decide
            omega
          · exact absurd h c3
          · rcases Nat.lt_or_ge i 1 with h | h
            · exact absurd (show nI i < 1 from nI_lt (b := 1) h (by omega)) c1
            · exact ⟨i, h, hi, rfl⟩
        rw [if_neg c3, e4, Option.bind_some, x9isIn1_y (by omega) hi1 hi2, Option.bind_some, if_neg one0]
        dsimp only
        rcases h3.same hm h4 with ⟨rfl, rfl⟩ | ⟨rfl, rfl, P, hF, hr1, hr2⟩
        · rw [if_pos zer0, if_pos zer0]
          exact ⟨_, _, _, _, _, _, _, _, _, _, _, _, _, _, _, _, _, _, rfl, rfl, rfl, hI'⟩
        · rw [if_neg one0, if_neg one0, if_pos (inb_ok (by omega) (by omega)), if_pos (inb_ok (by omega) (by omega)), nI_clamp (by omega), hF.row hr1 i hi1 hi2, hF.row hr2 i hi1 hi2]
          exact ⟨_, _, _, _, _, _, _, _, _, _, _, _, _, _, _, _, _, _, rfl, rfl, rfl, hI'⟩
  · rw [e1, x9layS_n e2, Option.bind_some, Option.bind_some, if_pos zer0]
    dsimp only
    rw [if_pos zer0]
    exact ⟨_, _, _, _, _, _, _, _, _, _, _, _, _, _, _, _, _, _, rfl, rfl, rfl, hI'⟩
theorem st_17 : St_17 rd_Inv := by
  intro k
  intros
  rename_i p1 p2 hk hI
  have hI' := st_m k _ _ _ _ _ _ _ _ _ _ _ _ _ _ _ _ _ _ _ _ _ _ _ _ _ hI
  obtain ⟨hS, hA, h3, h4, h5, h7⟩ := hI
  obtain ⟨ah', an', abt', abd', abr', sm', snaps', ek, es, hA'⟩ := keep_snap hA hS
  unfold f_X8_by f_X9_by
  rcases odd_sz p1 with ⟨m, hm, rfl, e1, e2⟩ | ⟨e1, e2⟩
  · obtain ⟨r, b1, b2, b3, oth', srow', wrow', e3, h3'⟩ := x9layS hm e2 p2 _ _ _ _ _ _
    obtain ⟨r', a1, a2, a3, a4, a5, row', pt', pd', pr', e4, h4'⟩ := x6find hm p2 _ _ _ _ _ _ _ _ _
    rw [e1, e3, Option.bind_some, Option.bind_some, if_neg one0, e4, Option.bind_some]
    dsimp only
    rcases h3'.same hm h4' with ⟨rfl, rfl⟩ | ⟨rfl, rfl, P, hF, hr1, hr2⟩
    · rw [if_pos zer0, if_pos zer0]
      exact ⟨_, _, _, _, _, _, _, _, _, _, _, _, _, _, _, _, _, _, _, _, _, _, _, _, _, _, _, _, _, rfl, rfl, rfl, hI'⟩
    · obtain ⟨ro', e5, hX'⟩ := x3fillBy (hF.ok hm) _ _ _ row' (fun a h1 h2 => hF.row hr2 a h1 h2)
      obtain ⟨no', e6, hM'⟩ := x9laysBy (hF.ok hm) _ wrow' (fun a h1 h2 => hF.row hr1 a h1 h2)
      rw [if_neg one0, if_neg one0, ek, es, Option.bind_some, Option.bind_some]
      dsimp only
      rw [e5, e6, Option.bind_some, Option.bind_some]
      exact ⟨_, _, _, _, _, _, _, _, _, _, _, _, _, _, _, _, _, _, _, _, _, _, _, _, _, _, _, _, _, rfl, rfl, rfl, ⟨m + 1, m, _, by_Sok (hF.ok hm), hX', hM'⟩, hA', h3, h4, h5.s, h7⟩
  · rw [e1, x9layS_n e2, Option.bind_some, Option.bind_some, if_pos zer0]
    dsimp only
    rw [if_pos zer0]
    exact ⟨_, _, _, _, _, _, _, _, _, _, _, _, _, _, _, _, _, _, _, _, _, _, _, _, _, _, _, _, _, rfl, rfl, rfl, hI'⟩
