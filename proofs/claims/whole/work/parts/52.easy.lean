/-! OURS: fault, end, meets, met -/
theorem st_3 : St_3 rd_Inv := by
  intro k
  intros
  rename_i hk hI
  obtain ⟨h1, h2, h3, h4, h5, h7⟩ := hI
  exact ⟨_, _, _, rfl, rfl, h7, h1, h2, h3, h4, h5.s, h7⟩
theorem st_1 : St_1 rd_Inv := by
  intro k
  intros
  rename_i p1 hk hI
  obtain ⟨h1, h2, h3, ⟨n, n1, rfl, rfl, n4⟩, h5, h7⟩ := hI
  have h5' := h5.s
  unfold f_X8_end f_X9_end
  by_cases c0 : p1 < 0
  · simp only [if_pos c0]
    exact ⟨_, _, _, _, _, rfl, rfl, rfl, h1, h2, h3, ⟨n, n1, rfl, rfl, n4⟩, h5', h7⟩
  · obtain ⟨j, hj, rfl⟩ := nI_of c0
    simp only [if_neg c0]
    by_cases c1 : j ≤ n
    · simp only [if_pos ((nI_leI hj (by omega)).mpr c1)]
      exact ⟨_, _, _, _, _, rfl, rfl, rfl, h1, h2, h3, ⟨j, by omega, rfl, rfl, fun i hi => n4 i (by omega)⟩, h5', h7⟩
    · simp only [if_neg (fun h => c1 ((nI_leI hj (by omega)).mp h))]
      exact ⟨_, _, _, _, _, rfl, rfl, rfl, h1, h2, h3, ⟨n, n1, rfl, rfl, n4⟩, h5', h7⟩
section
variable {T N : Nat} {g : Nat → Nat → Nat} {te da : Int32} {ro no : Nat → Int32} {o : Nat}
theorem partner_in (hs : Sok T N g) (hX : PX te da ro T N g) {d t : Nat} (hd : d < N) (ht : t < T) : f_X3_partner te da ro (nI d) (nI t) = some (nI (g d t)) := by
  obtain ⟨rfl, rfl, hr⟩ := hX
  have := hs.T14; have := hs.N13
  have e := hr d t hd ht
  unfold f_X3_partner inb
  simp (disch := omega) only [if_pos, if_neg, bd_eq, Option.bind_some, gd_or01, nI_ltI, nI_leI, nI_eq, nI_add, pk_mul, pk_sub, nI_clamp, nI_nm1, nI_nm1', li0, li1, li2, li3, li4, li5, li6, li7, li8, li10, li12, li13, li14, li20, li24, li31, li48, li60, li184, li182, li255, li700, li740]
  rw [show d * 14 + t = 14 * d + t by omega, e]
theorem partner_out (hs : Sok T N g) (hX : PX te da ro T N g) {x y : Int32} (h : ¬ (∃ d t : Nat, d < N ∧ t < T ∧ x = nI d ∧ y = nI t)) : f_X3_partner te da ro x y = some (-1) := by
  obtain ⟨rfl, rfl, hr⟩ := hX
  have := hs.T14; have := hs.N13
  unfold f_X3_partner
  rcases ix x N (by omega) with c | ⟨c1, c2⟩ | ⟨d, hd, rfl⟩
  · rw [if_pos c]
  · rw [if_neg c2, if_pos c1]
  · rw [if_neg (nI_pos (by omega)), if_neg (fun c => by rw [nI_leI (by omega) (by omega)] at c; omega)]
    rcases ix y T (by omega) with c | ⟨c1, c2⟩ | ⟨t, ht, rfl⟩
    · rw [if_pos c]
    · rw [if_neg c2, if_neg (Int32.not_lt.mpr c1)]
    · exact absurd ⟨d, t, hd, ht, rfl, rfl⟩ h
theorem x9teams (hM : PM no 0 T N g) : f_X9_teams no = some (nI T) := by
  unfold f_X9_teams
  rw [if_pos (by decide)]
  exact congrArg some hM.1
theorem x9days (hM : PM no 0 T N g) : f_X9_days no = some (nI N) := by
  unfold f_X9_days
  rw [if_pos (by decide)]
  exact congrArg some hM.2.1
/-- isIn(x, 0, n - 1) -/
theorem x9isIn0 (x : Int32) (n : Nat) (hn : n < 2 ^ 30) : f_X9_isIn x 0 (nI n - 1) = some (if ∃ j : Nat, j < n ∧ x = nI j then 1 else 0) := by
  unfold f_X9_isIn
  by_cases c0 : x < 0
  · rw [if_pos c0, if_neg]
    rintro ⟨j, hj, rfl⟩
    exact nI_pos (by omega) c0
  · rw [if_neg c0]
    obtain ⟨j, hj, rfl⟩ := nI_of c0
    by_cases c1 : j < n
    · rw [if_neg, if_pos ⟨j, c1, rfl⟩]
      intro h
      rw [Int32.lt_iff_toInt_lt, nI_toInt hj, show (1 : Int32) = nI 1 from rfl, pk_sub_toInt (by omega) (by omega)] at h
      omega
    · rw [if_pos, if_neg]
      · rintro ⟨j', hj', e⟩
        rw [nI_eq hj (by omega)] at e
        omega
      · rw [Int32.lt_iff_toInt_lt, nI_toInt hj, show (1 : Int32) = nI 1 from rfl, pk_sub_toInt (by omega) (by omega)]
        omega
theorem x9isTeam (hs : Sok T N g) (hM : PM no 0 T N g) (x : Int32) : f_X9_isTeam no x = some (if ∃ j : Nat, j < T ∧ x = nI j then 1 else 0) := by
  have := hs.T14
  unfold f_X9_isTeam
  rw [x9teams hM, Option.bind_some, x9isIn0 x T (by omega), Option.bind_some, if_pos]
  split <;> simp
theorem x9isDay (hs : Sok T N g) (hM : PM no 0 T N g) (x : Int32) : f_X9_isDay no x = some (if ∃ j : Nat, j < N ∧ x = nI j then 1 else 0) := by
  have := hs.N13
  unfold f_X9_isDay
  rw [x9days hM, Option.bind_some, x9isIn0 x N (by omega), Option.bind_some, if_pos]
  split <;> simp
theorem x9meets (hs : Sok T N g) (n : Nat) (hn : n < 2 ^ 31) (h184 : 184 ≤ n) (hM : PM no 0 T N g) {d t : Nat} (hd : d < N) (ht : t < T) : f_X9_meets n no (nI d) (nI t) = some (nI (g d t)) := by
  have := hs.T14; have := hs.N13
  have e := hM.2.2 d t hd ht
  unfold f_X9_meets
  rw [show ((2 : Int32) + (14 : Int32) * nI d) + nI t = nI (2 + 14 * d + t) by rw [show (2 : Int32) = nI 2 from rfl, show (14 : Int32) = nI 14 from rfl, pk_mul, nI_add, nI_add], if_pos (inb_ok (by omega) hn), nI_clamp (by omega)]
  rw [show 2 + 14 * d + t = 0 + 2 + 14 * d + t by omega, e]
end
theorem st_5 : St_5 rd_Inv := by
  intro k
  intros
  rename_i p1 p2 hk hI
  have hI' := st_m k _ _ _ _ _ _ _ _ _ _ _ _ _ _ _ _ _ _ _ _ _ _ _ _ _ hI
  obtain ⟨⟨T, N, g, hs, hX, hM⟩, -⟩ := hI
  unfold f_X8_meets f_X9_meets_
  rw [x9isDay hs hM, Option.bind_some]
  by_cases cd : ∃ j : Nat, j < N ∧ p1 = nI j
  · rw [if_pos cd, if_neg one0, x9isTeam hs hM, Option.bind_some]
    by_cases ct : ∃ j : Nat, j < T ∧ p2 = nI j
    · obtain ⟨d, hd, rfl⟩ := cd
      obtain ⟨t, ht, rfl⟩ := ct
      rw [if_pos (show ∃ j : Nat, j < T ∧ nI t = nI j from ⟨t, ht, rfl⟩), if_neg one0, x9meets hs 184 (by omega) (by omega) hM hd ht, partner_in hs hX hd ht, Option.bind_some, Option.bind_some]
      exact ⟨_, _, _, rfl, rfl, rfl, hI'⟩
    · rw [if_neg ct, if_pos zer0, partner_out hs hX (fun ⟨d, t, hd, ht, e1, e2⟩ => ct ⟨t, ht, e2⟩), Option.bind_some]
      exact ⟨_, _, _, rfl, rfl, rfl, hI'⟩
  · rw [if_neg cd, if_pos zer0, partner_out hs hX (fun ⟨d, t, hd, ht, e1, e2⟩ => cd ⟨d, hd, e1⟩), Option.bind_some]
    exact ⟨_, _, _, rfl, rfl, rfl, hI'⟩
