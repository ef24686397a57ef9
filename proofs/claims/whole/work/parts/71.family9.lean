/-! OURS: the two families, the reference's; family -/
theorem x9sums2 {n : Nat} (hn : TwN n) (f : Nat → Int32) (hf00 : f 0 = nI n) (hf0 : ∀ e t, e < n / 2 → t < n → gdA f (2 + 14 * e) (twG n e) t) : ∃ no' : Nat → Int32, lp (f_X9_laysSums_L83 (nI n) (nI (n / 2))) 20000 (nI (n / 2), 1, f) = some no' ∧ no' 0 = nI n ∧ ∀ e t, e < n - 1 → t < n → gdA no' (2 + 14 * e) (twG n e) t := by
  have hk := twOk hn
  refine lp_ex (I := fun x => ∃ (d i : Nat) (f : Nat → Int32), x = (nI d, nI i, f) ∧ n / 2 ≤ d ∧ i ≤ n + 1 ∧ TwI (n / 2) d i ∧ f 0 = nI n ∧ ∀ e t, e < d → t < n → gdA f (2 + 14 * e) (twG n e) t) (ms := fun x => n + 2 - x.2.1.toNatClampNeg) (Post := fun no' : Nat → Int32 => no' 0 = nI n ∧ ∀ e t, e < n - 1 → t < n → gdA no' (2 + 14 * e) (twG n e) t) ?_ 20000 _ ⟨n / 2, 1, f, rfl, by omega, by omega, by unfold TwI; omega, hf00, hf0⟩ (by show n + 2 - _ < _; omega)
  rintro x ⟨d, i, f, rfl, hd, hi, hI, f0, hf⟩ self hself
  have hI2 := hI
  unfold TwI at hI2
  unfold f_X9_laysSums_L83
  dsimp only
  by_cases c : n ≤ i
  · rw [if_pos ((nI_leI (by omega) (by omega)).mpr c)]
    exact ⟨_, rfl, f0, fun e t he ht => hf e t (by omega) ht⟩
  · have hms : n + 2 - (nI (i + 2)).toNatClampNeg < n + 2 - (nI i).toNatClampNeg := by rw [nI_clamp (by omega), nI_clamp (by omega)]; omega
    have e2 : nI i + (2 : Int32) = nI (i + 2) := nI_add (a := i) (b := 2)
    rw [if_neg (nI_ge (by omega) (by omega))]
    by_cases c1 : i = n / 2
    · rw [if_pos (congrArg nI c1), bd_eq, e2]
      exact hself _ ⟨d, i + 2, f, rfl, hd, by omega, by unfold TwI; omega, f0, hf⟩ hms
    · have hO := hI.o (by omega) c1
      rw [if_neg (fun h => c1 ((nI_eq (by omega) (by omega)).mp h))]
      refine lp_ex (I := fun x => ∃ (t : Nat) (f : Nat → Int32), t ≤ n ∧ t % 2 = 0 ∧ x = (nI t, f) ∧ f 0 = nI n ∧ (∀ e t, e < d → t < n → gdA f (2 + 14 * e) (twG n e) t) ∧ ∀ s, s < t → s % 2 = 0 → gdA f (2 + 14 * d) (twG n d) s ∧ gdA f (2 + 14 * d) (twG n d) (twG n d s)) (ms := fun x => n - x.1.toNatClampNeg) (Post := fun no' : Nat → Int32 => no' 0 = nI n ∧ ∀ e t, e < n - 1 → t < n → gdA no' (2 + 14 * e) (twG n e) t) ?_ 20000 _ ⟨0, f, by omega, rfl, rfl, f0, hf, fun s h => by omega⟩ (by show n - _ < _; omega)
      rintro y ⟨t, f, ht, ht2, rfl, f0, f1, f2⟩ self2 hself2
      unfold f_X9_laysSums_L101
      dsimp only
      by_cases c2 : n ≤ t
      · rw [if_pos ((nI_leI (by omega) (by omega)).mpr c2), bd_eq, bd_eq, nI_1, e2]
        refine hself _ ⟨d + 1, i + 2, f, rfl, by omega, by omega, by unfold TwI; omega, f0, fun e s he hs => ?_⟩ hms
        by_cases e1 : e = d
        · subst e1
          by_cases s1 : s % 2 = 0
          · exact (f2 s (by omega) s1).1
          · have k1 := hk.1 e (by omega) s hs
            have k2 := (f2 (twG n e s) (by omega) (hk.2.2 e (by omega) s hs hd (by omega))).2
            rw [k1.2.2] at k2
            exact k2
        · exact f1 e s (by omega) hs
      · have k1 := hk.1 d (by omega) t (by omega)
        have k2 := tw_e (t := t) hd ht2 hO
        rw [if_neg (nI_ge (by omega) (by omega)), if_pos (nI_ne0 (by omega) (by omega)), nI_add, pk_rem (by omega) (by omega) (by omega), ← k2, x9pairs_at 184 (by omega) (by omega) f (by omega) (by omega) (by omega), Option.bind_some, bd_eq, show nI t + (2 : Int32) = nI (t + 2) from nI_add (a := t) (b := 2)]
        refine hself2 _ ⟨t + 2, _, by omega, by omega, rfl, ?_, fun e s he hs => ?_, fun s h1 h2 => ?_⟩ (by show n - (nI (t + 2)).toNatClampNeg < n - (nI t).toNatClampNeg; rw [nI_clamp (by omega), nI_clamp (by omega)]; omega)
        · rw [upd_ne _ _ (by omega), upd_ne _ _ (by omega)]; exact f0
        · unfold gdA
          rw [upd_ne _ _ (by omega), upd_ne _ _ (by omega)]
          exact f1 e s he hs
        · by_cases e1 : s = t
          · subst e1; exact ⟨gdA.up rfl k1.2.2 (Or.inr (Or.inl rfl)), gdA.up rfl k1.2.2 (Or.inr (Or.inr rfl))⟩
          · exact ⟨gdA.up rfl k1.2.2 (Or.inl (f2 s (by omega) h2).1), gdA.up rfl k1.2.2 (Or.inl (f2 s (by omega) h2).2)⟩
theorem x9sums {n : Nat} (hn : TwN n) (no : Nat → Int32) (hn0 : no 0 = nI n) : ∃ no' : Nat → Int32, f_X9_laysSums no (nI n) = some no' ∧ no' 0 = nI n ∧ ∀ e t, e < n - 1 → t < n → gdA no' (2 + 14 * e) (twG n e) t := by
  have hk := twOk hn
  unfold f_X9_laysSums
  rw [bd_eq, show nI n / (2 : Int32) = nI (n / 2) from pk_div (d := 2) (by omega) (by omega) (by omega)]
  refine lp_ex (I := fun x => ∃ (d : Nat) (f : Nat → Int32), d ≤ n / 2 ∧ x = (nI d, f) ∧ f 0 = nI n ∧ ∀ e t, e < d → t < n → gdA f (2 + 14 * e) (twG n e) t) (ms := fun x => n - x.1.toNatClampNeg) (Post := fun no' : Nat → Int32 => no' 0 = nI n ∧ ∀ e t, e < n - 1 → t < n → gdA no' (2 + 14 * e) (twG n e) t) ?_ 20000 _ ⟨0, no, by omega, rfl, hn0, fun e t h => by omega⟩ (by show n - _ < _; omega)
  rintro x ⟨d, f, hd, rfl, f0, hf⟩ self hself
  unfold f_X9_laysSums_L6
  dsimp only
  by_cases c : n / 2 ≤ d
  · rw [if_pos ((nI_leI (by omega) (by omega)).mpr c)]
    exact x9sums2 hn f f0 (fun e t he ht => hf e t (by omega) ht)
  · have hms : n - (nI (d + 1)).toNatClampNeg < n - (nI d).toNatClampNeg := by rw [nI_clamp (by omega), nI_clamp (by omega)]; omega
    have ka := tw_a (n := n) (d := d) (by omega)
    have kb := tw_b (n := n) (d := d) (by omega) hn
    rw [if_neg (nI_ge (by omega) (by omega)), nI_add, x9pairs_at 184 (by omega) (by omega) f (by omega) (by omega) (by omega), Option.bind_some]
    refine lp_ex (I := fun x => ∃ (t : Nat) (f : Nat → Int32), t ≤ n ∧ x = (nI t, f) ∧ f 0 = nI n ∧ (∀ e t, e < d → t < n → gdA f (2 + 14 * e) (twG n e) t) ∧ gdA f (2 + 14 * d) (twG n d) d ∧ gdA f (2 + 14 * d) (twG n d) (d + n / 2) ∧ ∀ s, s < t → gdA f (2 + 14 * d) (twG n d) s) (ms := fun x => n - x.1.toNatClampNeg) (Post := fun no' : Nat → Int32 => no' 0 = nI n ∧ ∀ e t, e < n - 1 → t < n → gdA no' (2 + 14 * e) (twG n e) t) ?_ 20000 _ ⟨0, _, by omega, rfl, ?_, fun e t he ht => ?_, gdA.up ka kb (Or.inr (Or.inl rfl)), gdA.up ka kb (Or.inr (Or.inr rfl)), fun s h => by omega⟩ (by show n - _ < _; omega)
    · rintro y ⟨t, f, ht, rfl, f0, f1, f2, f3, f4⟩ self2 hself2
      have hms2 : ∀ g : Nat → Int32, n - (nI (t + 1), g).1.toNatClampNeg < n - (nI t, f).1.toNatClampNeg ∨ n ≤ t := fun g => by
        show n - (nI (t + 1)).toNatClampNeg < n - (nI t).toNatClampNeg ∨ _
        rw [nI_clamp (by omega), nI_clamp (by omega)]; omega
      unfold f_X9_laysSums_L26
      dsimp only
      by_cases c2 : n ≤ t
      · rw [if_pos ((nI_leI (by omega) (by omega)).mpr c2), bd_eq, nI_1]
        refine hself _ ⟨d + 1, f, by omega, rfl, f0, fun e s he hs => ?_⟩ hms
        by_cases e1 : e = d
        · subst e1; exact f4 s (by omega)
        · exact f1 e s (by omega) hs
      · have hskip : (t = d ∨ t = d + n / 2) → ∃ no' : Nat → Int32, self2 (nI (t + 1), f) = some no' ∧ no' 0 = nI n ∧ ∀ e t, e < n - 1 → t < n → gdA no' (2 + 14 * e) (twG n e) t := by
          intro c3
          refine hself2 _ ⟨t + 1, f, by omega, rfl, f0, f1, f2, f3, fun s hs => ?_⟩ ((hms2 f).resolve_right c2)
          by_cases e1 : s = t
          · subst e1
            rcases c3 with c3 | c3
            · rw [c3]; exact f2
            · rw [c3]; exact f3
          · exact f4 s (by omega)
        rw [if_neg (nI_ge (by omega) (by omega)), bd_eq, nI_1, nI_add]
        by_cases c3 : t = d
        · rw [if_pos (congrArg nI c3)]
          exact hskip (Or.inl c3)
        · rw [if_neg (fun h => c3 ((nI_eq (by omega) (by omega)).mp h))]
          by_cases c4 : t = d + n / 2
          · rw [if_pos (congrArg nI c4)]
            exact hskip (Or.inr c4)
          · have k1 := hk.1 d (by omega) t (by omega)
            have k2 := tw_c (n := n) (d := d) (t := t) (by omega) c3 c4
            rw [if_neg (fun h => c4 ((nI_eq (by omega) (by omega)).mp h)), if_pos (nI_ne0 (by omega) (by omega)), show (2 : Int32) * nI d = nI (2 * d) from pk_mul 2 d, nI_sba _ _ _ (by omega), pk_rem (by omega) (by omega) (by omega), ← k2, x9pairs_at 184 (by omega) (by omega) f (by omega) (by omega) (by omega), Option.bind_some, bd_eq]
            refine hself2 _ ⟨t + 1, _, by omega, rfl, ?_, fun e s he hs => ?_, gdA.up rfl k1.2.2 (Or.inl f2), gdA.up rfl k1.2.2 (Or.inl f3), fun s hs => ?_⟩ ((hms2 _).resolve_right c2)
            · rw [upd_ne _ _ (by omega), upd_ne _ _ (by omega)]; exact f0
            · unfold gdA
              rw [upd_ne _ _ (by omega), upd_ne _ _ (by omega)]
              exact f1 e s he hs
            · by_cases e1 : s = t
              · subst e1; exact gdA.up rfl k1.2.2 (Or.inr (Or.inl rfl))
              · exact gdA.up rfl k1.2.2 (Or.inl (f4 s (by omega)))
    · rw [upd_ne _ _ (by omega), upd_ne _ _ (by omega)]; exact f0
    · unfold gdA
      rw [upd_ne _ _ (by omega), upd_ne _ _ (by omega)]
      exact hf e t he ht
theorem x9fam_J75 {n : Nat} {G : Nat → Nat → Nat} (h1 : 1 ≤ n) (p : Int32) (sm : Int32) (no sn : Nat → Int32) (h0 : no 0 = nI n) (hr : ∀ e t, e < n - 1 → t < n → gdA no (2 + 14 * e) (G e) t) : ∃ no', f_X9_family_J75 p (nI n) (0, sm, no, sn) = some (nI (n - 1), 0, sm, no', sn) ∧ PM no' 0 n (n - 1) G := by
  unfold f_X9_family_J75
  dsimp only
  rw [if_pos inb1, bd_eq, show nI n - 1 = nI (n - 1) from pk_sub (b := 1) h1]
  refine ⟨_, rfl, ?_, upd_at _ _ _, fun e t he ht => ?_⟩
  · show upd no 1 _ 0 = _
    rw [upd_ne _ _ (by omega)]; exact h0
  · show upd no 1 _ (0 + 2 + 14 * e + t) = _
    rw [upd_ne _ _ (by omega), Nat.zero_add]
    exact hr e t he ht
theorem fam_par : ∀ n, n < 15 → (n % 2 = 0 ∧ (nI n &&& 1) = 0 ∧ ¬ (nI n - nI n / 2 * 2) = 1) ∨ (n % 2 = 1 ∧ ¬ (nI n &&& 1) = 0 ∧ (nI n - nI n / 2 * 2) = 1) := by decide +kernel
theorem fam_par4 : ∀ n, n < 15 → n % 2 = 0 → (n % 4 = 2 ∧ (nI n &&& 3) = 2 ∧ ¬ (nI n - nI n / 4 * 4) = 0) ∨ (n % 4 = 0 ∧ ¬ (nI n &&& 3) = 2 ∧ (nI n - nI n / 4 * 4) = 0) := by decide +kernel
theorem ix414 (x : Int32) : x < 4 ∨ (14 < x ∧ ¬ x < 4) ∨ ∃ n : Nat, 4 ≤ n ∧ n ≤ 14 ∧ x = nI n ∧ ¬ x < 4 ∧ ¬ 14 < x := by
  rcases ix x 15 (by omega) with h | ⟨h, -⟩ | ⟨j, hj, rfl⟩
  · left
    rw [Int32.lt_iff_toInt_lt] at h ⊢
    have e1 : (0 : Int32).toInt = 0 := by decide
    have e2 : (4 : Int32).toInt = 4 := by decide
    omega
  · right; left
    rw [Int32.le_iff_toInt_le] at h
    rw [Int32.lt_iff_toInt_lt, Int32.lt_iff_toInt_lt]
    have e1 : (nI 15).toInt = 15 := by decide
    have e2 : (4 : Int32).toInt = 4 := by decide
    have e3 : (14 : Int32).toInt = 14 := by decide
    omega
  · by_cases c : j < 4
    · exact Or.inl ((nI_ltI (b := 4) (by omega) (by omega)).mpr c)
    · exact Or.inr (Or.inr ⟨j, by omega, by omega, rfl, (show ¬ nI j < nI 4 from nI_nlt (by omega) (by omega)), (show ¬ nI 14 < nI j from nI_nlt (by omega) (by omega))⟩)
theorem x9isIn414_n {x : Int32} (h : x < 4 ∨ (14 < x ∧ ¬ x < 4)) : f_X9_isIn x 4 14 = some 0 := by
  unfold f_X9_isIn
  rcases h with h | ⟨h1, h2⟩
  · rw [if_pos h]
  · rw [if_neg h2, if_pos h1]
theorem x9isIn414_y {x : Int32} (h1 : ¬ x < 4) (h2 : ¬ 14 < x) : f_X9_isIn x 4 14 = some 1 := by
  unfold f_X9_isIn
  rw [if_neg h1, if_neg h2]
theorem x9isIn01_n {x : Int32} (h : x < 0 ∨ (1 < x ∧ ¬ x < 0)) : f_X9_isIn x 0 1 = some 0 := by
  unfold f_X9_isIn
  rcases h with h | ⟨h1, h2⟩
  · rw [if_pos h]
  · rw [if_neg h2, if_pos h1]
theorem ix01 (x : Int32) : x < 0 ∨ (1 < x ∧ ¬ x < 0) ∨ x = 0 ∨ x = 1 := by
  rcases ix x 2 (by omega) with h | ⟨h, h2⟩ | ⟨j, hj, rfl⟩
  · exact Or.inl h
  · right; left
    refine ⟨?_, h2⟩
    rw [Int32.le_iff_toInt_le] at h
    rw [Int32.lt_iff_toInt_lt]
    have e1 : (nI 2).toInt = 2 := by decide
    have e2 : (1 : Int32).toInt = 1 := by decide
    omega
  · rcases (by omega : j = 0 ∨ j = 1) with rfl | rfl
    · exact Or.inr (Or.inr (Or.inl rfl))
    · exact Or.inr (Or.inr (Or.inr rfl))
theorem st_14 : St_14 rd_Inv := by
  intro k
  intros
  rename_i p1 p2 hk hI
  have hI' := st_m k _ _ _ _ _ _ _ _ _ _ _ _ _ _ _ _ _ _ _ _ _ _ _ _ _ hI
  obtain ⟨hS, hA, h3, h4, h5, h7⟩ := hI
  obtain ⟨ah', an', abt', abd', abr', sm', snaps', ek, es, hA'⟩ := keep_snap hA hS
  unfold f_X8_family f_X9_family
  rcases or_assoc.mpr (ix01 p1) with c1 | c1
  · rw [x9isIn01_n c1, Option.bind_some, if_pos zer0]
    rcases c1 with c1 | ⟨c1, c2⟩
    · rw [if_pos c1]
      exact ⟨_, _, _, _, _, _, _, _, _, _, _, _, _, _, rfl, rfl, rfl, hI'⟩
    · rw [if_neg c2, if_pos c1]
      exact ⟨_, _, _, _, _, _, _, _, _, _, _, _, _, _, rfl, rfl, rfl, hI'⟩
  · have e1 : f_X9_isIn p1 0 1 = some 1 := by rcases c1 with rfl | rfl <;> rfl
    have e2 : ¬ p1 < 0 := by rcases c1 with rfl | rfl <;> decide
    have e3 : ¬ 1 < p1 := by rcases c1 with rfl | rfl <;> decide
    rw [e1, Option.bind_some, if_neg one0, if_neg e2, if_neg e3]
    rcases or_assoc.mpr (ix414 p2) with c2 | ⟨n, n4, n14, rfl, c3, c4⟩
    · rw [x9isIn414_n c2, Option.bind_some, if_pos zer0]
      rcases c2 with c2 | ⟨c2, c3⟩
      · rw [if_pos c2]
        exact ⟨_, _, _, _, _, _, _, _, _, _, _, _, _, _, rfl, rfl, rfl, hI'⟩
      · rw [if_neg c3, if_pos c2]
        exact ⟨_, _, _, _, _, _, _, _, _, _, _, _, _, _, rfl, rfl, rfl, hI'⟩
    · rw [x9isIn414_y c3 c4, Option.bind_some, if_neg one0, if_neg c3, if_neg c4]
      rcases fam_par n (by omega) with ⟨q1, q2, q3⟩ | ⟨q1, q2, q3⟩
      · rw [if_pos q2, if_neg q3]
        rcases c1 with rfl | rfl
        · rw [if_neg (show ¬ (0 : Int32) = 1 by decide), if_neg (show ¬ (0 : Int32) = 1 by decide)]
          obtain ⟨m, rfl⟩ : ∃ m, n = m + 1 := ⟨n - 1, by omega⟩
          unfold f_X8_family_J42 f_X9_family_J44
          dsimp only
          rw [ek, es, Option.bind_some, Option.bind_some, if_pos zer0]
          dsimp only
          obtain ⟨n0, e4, hn0⟩ := x9clears _ (nI (m + 1))
          rw [e4, Option.bind_some, if_pos zer0, nI_down]
          obtain ⟨no2, e5, hn2, hr2⟩ := x9turns (m := m) (by omega) (by omega) (by omega) n0 hn0
          obtain ⟨ro', e6, hX'⟩ := x3wheel (m := m) (by omega) (by omega) (by omega) _ _ _
          obtain ⟨no3, e7, hM'⟩ := x9fam_J75 (n := m + 1) (G := byG m (whS m)) (by omega) 0 sm' no2 snaps' hn2 hr2
          rw [e5, e6, Option.bind_some, Option.bind_some, e7]
          exact ⟨_, _, _, _, _, _, _, _, _, _, _, _, _, _, rfl, rfl, rfl, ⟨m + 1, m, _, by_Sok (whS_ok (by omega) (by omega) (by omega)), hX', hM'⟩, hA', h3, h4, h5.s, h7⟩
        · rw [if_pos rfl, if_pos rfl]
          rcases fam_par4 n (by omega) q1 with ⟨r1, r2, r3⟩ | ⟨r1, r2, r3⟩
          · have hn : TwN n := by show n = 6 ∨ n = 10 ∨ n = 14; omega
            rw [if_pos r2, if_neg r3]
            unfold f_X8_family_J42 f_X9_family_J44
            dsimp only
            rw [ek, es, Option.bind_some, Option.bind_some, if_neg one0]
            dsimp only
            obtain ⟨n0, e4, hn0⟩ := x9clears _ (nI n)
            rw [e4, Option.bind_some, if_neg one0]
            obtain ⟨no2, e5, hn2, hr2⟩ := x9sums hn n0 hn0
            obtain ⟨ro', e6, hX'⟩ := x3twins hn _ _ _
            obtain ⟨no3, e7, hM'⟩ := x9fam_J75 (n := n) (G := twG n) (by omega) 1 sm' no2 snaps' hn2 hr2
            rw [e5, e6, Option.bind_some, Option.bind_some, e7]
            exact ⟨_, _, _, _, _, _, _, _, _, _, _, _, _, _, rfl, rfl, rfl, ⟨n, n - 1, _, tw_Sok hn, hX', hM'⟩, hA', h3, h4, h5.s, h7⟩
          · rw [if_neg r2, if_pos r3]
            exact ⟨_, _, _, _, _, _, _, _, _, _, _, _, _, _, rfl, rfl, rfl, hI'⟩
      · rw [if_neg q2, if_pos q3]
        exact ⟨_, _, _, _, _, _, _, _, _, _, _, _, _, _, rfl, rfl, rfl, hI'⟩
