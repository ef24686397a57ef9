/-! OURS: come, add -/
theorem bI_ex {p : Int32} (h : p = 0 ∨ p = 1) : ∃ best : Bool, p = bI best := by
  rcases h with h | h
  · exact ⟨false, h⟩
  · exact ⟨true, h⟩
section
variable {T N : Nat} {g : Nat → Nat → Nat} {te da : Int32} {ro no : Nat → Int32}
theorem x3hasTeam_in (hT : T ≤ 14) {t : Nat} (ht : t < T) : f_X3_hasTeam (nI T) (nI t) = some 1 := by
  unfold f_X3_hasTeam
  rw [if_neg (nI_pos (by omega)), if_neg (nI_ge ht (by omega))]
theorem x3hasTeam_out (hT : T ≤ 14) {x : Int32} (h : ¬ ∃ t : Nat, t < T ∧ x = nI t) : f_X3_hasTeam (nI T) x = some 0 := by
  unfold f_X3_hasTeam
  rcases ix x T (by omega) with h1 | ⟨h1, h2⟩ | h1
  · rw [if_pos h1]
  · rw [if_neg h2, if_pos h1]
  · exact absurd h1 h
end
theorem st_12 : St_12 rd_Inv := by
  intro k
  intros
  rename_i p1 p2 hk hp hI
  have hI' := st_m k _ _ _ _ _ _ _ _ _ _ _ _ _ _ _ _ _ _ _ _ _ _ _ _ _ hI
  obtain ⟨hS, hA, h3, h4, h5, h7⟩ := hI
  have hS' := hS
  obtain ⟨T, N, g, hs, hX, hM⟩ := hS
  have hT := hs.T14
  have eT := hX.1
  obtain ⟨best, rfl⟩ := bI_ex hp
  unfold f_X8_come f_X9_come
  by_cases c : ∃ t : Nat, t < T ∧ p2 = nI t
  · obtain ⟨t, ht, rfl⟩ := c
    obtain ⟨q, hq, eq, hL⟩ := h5.stl
    subst eq
    obtain ⟨r, b1, b2, fo', fr', en', st', e1, h1, h2, -, -⟩ := x2find hs (by omega) hX best _ _ (q := q) (by omega) _ _ _ _ hL
    obtain ⟨r', w', sg', e2, h2'⟩ := x9sought hs (by omega) hM best _ _
    rw [eT, x3hasTeam_in hT ht, x9isTeam_in hs hM ht, Option.bind_some, Option.bind_some, if_neg one0, if_neg one0, ← eT, e1, e2, Option.bind_some, Option.bind_some]
    dsimp only
    rcases h2.same h2' with ⟨rfl, rfl⟩ | ⟨rfl, rfl, R, hR, hr1, hr2⟩
    · rw [if_pos zer0, if_pos zer0]
      exact ⟨_, _, _, _, _, _, _, _, _, _, _, _, rfl, rfl, rfl, hS', hA, h3, h4, ⟨q + 1, by omega, rfl, h1⟩, h7⟩
    · have hn := (day_new hs (by omega) hR).2
      rw [if_neg one0, if_neg one0, if_pos (inb_ok (by omega) (by omega)), if_pos (inb_ok (by omega) (by omega)), nI_clamp (by omega), hn _ hr1 t ht, hn _ hr2 t ht]
      exact ⟨_, _, _, _, _, _, _, _, _, _, _, _, rfl, rfl, rfl, hS', hA, h3, h4, ⟨q + 1, by omega, rfl, h1⟩, h7⟩
  · rw [eT, x3hasTeam_out hT c, x9isTeam_out hs hM c, Option.bind_some, Option.bind_some, if_pos zer0, if_pos zer0]
    rw [eT] at hI'
    exact ⟨_, _, _, _, _, _, _, _, _, _, _, _, rfl, rfl, rfl, hI'⟩
theorem x9sought0 {no : Nat → Int32} {N : Nat} {g : Nat → Nat → Nat} (hM : PM no 0 0 N g) (w sg : Nat → Int32) (p : Int32) : f_X9_laysSought no w sg p = some (0, w, sg) := by
  unfold f_X9_laysSought
  rw [x9teams hM, Option.bind_some, if_pos (show nI 0 = 0 from rfl)]
theorem st_21 : St_21 rd_Inv := by
  intro k
  intros
  rename_i p1 hk hp hI
  have hI' := st_m k _ _ _ _ _ _ _ _ _ _ _ _ _ _ _ _ _ _ _ _ _ _ _ _ _ hI
  obtain ⟨hS, hA, h3, h4, h5, h7⟩ := hI
  obtain ⟨ah', an', abt', abd', abr', sm', snaps', ek, es, hA'⟩ := keep_snap hA hS
  have hS' := hS
  obtain ⟨T, N, g, hs, hX, hM⟩ := hS
  have hT := hs.T14
  have eT := hX.1
  obtain ⟨best, rfl⟩ := bI_ex hp
  unfold f_X8_add f_X9_add
  by_cases c0 : T = 0
  · subst c0
    rw [x9sought0 hM, eT, show nI 0 = 0 from rfl, x2find0, Option.bind_some, Option.bind_some]
    dsimp only
    rw [if_pos zer0, if_pos zer0]
    rw [eT] at hI'
    exact ⟨_, _, _, _, _, _, _, _, _, _, _, _, _, _, _, _, _, _, _, _, _, _, rfl, rfl, rfl, hI'⟩
  · obtain ⟨q, hq, eq, hL⟩ := h5.stl
    subst eq
    obtain ⟨r, b1, b2, fo', fr', en', st', e1, h1, h2, -, -⟩ := x2find hs c0 hX best _ _ (q := q) (by omega) _ _ _ _ hL
    obtain ⟨r', w', sg', e2, h2'⟩ := x9sought hs c0 hM best _ _
    rw [e1, e2, Option.bind_some, Option.bind_some]
    dsimp only
    rcases h2.same h2' with ⟨rfl, rfl⟩ | ⟨rfl, rfl, R, hR, hr1, hr2⟩
    · rw [if_pos zer0, if_pos zer0]
      exact ⟨_, _, _, _, _, _, _, _, _, _, _, _, _, _, _, _, _, _, _, _, _, _, rfl, rfl, rfl, hS', hA, h3, h4, ⟨q + 1, by omega, rfl, h1⟩, h7⟩
    · obtain ⟨hnew, hn⟩ := day_new hs c0 hR
      have hs1 := hs.ap c0 hnew
      obtain ⟨ro', e3, hX'⟩ := x3append hs hs1 hX fo' (hn _ hr1)
      obtain ⟨no', e4, hM'⟩ := x9comes hs hs1 hM sg' (hn _ hr2)
      rw [if_neg one0, if_neg one0, ek, es, Option.bind_some, Option.bind_some]
      dsimp only
      rw [e3, e4, Option.bind_some, Option.bind_some]
      dsimp only
      rw [x9days hM', Option.bind_some]
      exact ⟨_, _, _, _, _, _, _, _, _, _, _, _, _, _, _, _, _, _, _, _, _, _, rfl, rfl, rfl, ⟨T, N + 1, _, hs1, hX', hM'⟩, hA', h3, h4, ⟨q + 1, by omega, rfl, h1⟩, h7⟩
