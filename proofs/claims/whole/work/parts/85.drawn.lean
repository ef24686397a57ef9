/-! OURS: drawn -/
theorem b_24 : ∀ i, i < 32 → bt 16777215 i = decide (i < 24) := by decide +kernel
theorem ush8 (x : Int32) : ∃ k : Nat, k < 16777216 ∧ ((x.toUInt32 >>> ((8 : Int32).toUInt32 &&& Int32.toUInt32 31)).toInt32) = nI k := by
  obtain ⟨k, hk, e⟩ := mask_and 16777215 ((x.toUInt32 >>> ((8 : Int32).toUInt32 &&& Int32.toUInt32 31)).toInt32)
  refine ⟨k, by omega, ?_⟩
  rw [← e]
  refine b_ext (fun i hi => ?_)
  rw [b_and, show nI 16777215 = 16777215 from rfl, b_24 i hi, show ((8 : Int32).toUInt32) = (nI 8).toUInt32 from rfl, b_ushr 8 (by omega) x i]
  by_cases c : i < 24
  · rw [decide_eq_true c, Bool.true_and]
  · rw [decide_eq_false c, b_big (by omega)]; rfl
theorem draws (s : Int32) {n : Nat} (h0 : 0 < n) (hn : n < 2 ^ 31) : ∃ (j : Nat) (s' : Int32), j < n ∧ f_X1_draw s (nI n) = some (nI j, s') ∧ f_X9_draw s (nI n) = some (nI j, s') := by
  obtain ⟨k, hk, e⟩ := ush8 ((s * (1103515245 : Int32)) + (12345 : Int32))
  refine ⟨k % n, (s * (1103515245 : Int32)) + (12345 : Int32), Nat.mod_lt _ h0, ?_, ?_⟩
  · unfold f_X1_draw
    rw [bd_eq, if_pos (show 0 < nI n from nI_lt (a := 0) h0 hn), if_pos (nI_ne0 h0 hn), e, pk_rem (by omega) h0 hn]
  · unfold f_X9_draw
    rw [bd_eq, if_pos (nI_ne0 h0 hn), e, pk_rem (by omega) h0 hn]
section
variable {T N : Nat} {g : Nat → Nat → Nat} {te da : Int32} {ro no : Nat → Int32}
/-- both schedules behind a deed -/
def Deed (T : Nat) (te da : Int32) (ro no : Nat → Int32) (q : Nat) (fs : Int32) (st : Nat → Int32) : Prop := ∃ N g q', Sok T N g ∧ PX te da ro T N g ∧ PM no 0 T N g ∧ q' ≤ q + 1 ∧ fs = nI q' ∧ StL q' st
theorem deed_first (hs : Sok T N g) (hT0 : ¬ T = 0) (hX : PX te da ro T N g) (hM : PM no 0 T N g) (a1 a2 : Int32) {q : Nat} (hq : q + 1 < 2 ^ 31) (fo fr en st w sg : Nat → Int32) (hL : StL q st) (sd : Int32) : ∃ da' ro' b1 b2 fs fo' fr' en' st' no' w' sg', f_X8_renameDrawnTeams_J45 te (da, ro, a1, a2, nI q, fo, fr, en, st, sd) = some (da', ro', b1, b2, fs, fo', fr', en', st', sd) ∧ f_X9_does_J58 (sd, no, w, sg) = some (sd, no', w', sg') ∧ Deed T te da' ro' no' q fs st' := by
  obtain ⟨r, b1, b2, fo', fr', en', st', e1, h1, h2, -, -⟩ := x2find hs hT0 hX false a1 a2 hq fo fr en st hL
  obtain ⟨r', w', sg', e2, h2'⟩ := x9sought hs hT0 hM false w sg
  unfold f_X8_renameDrawnTeams_J45 f_X9_does_J58
  dsimp only
  rw [show (0 : Int32) = bI false from rfl, e1, e2, Option.bind_some, Option.bind_some]
  dsimp only
  rcases h2.same h2' with ⟨rfl, rfl⟩ | ⟨rfl, rfl, R, hR, hr1, hr2⟩
  · rw [if_pos (show (0 : Int32) = bI false from rfl), if_pos (show (0 : Int32) = bI false from rfl)]
    exact ⟨_, _, _, _, _, _, _, _, _, _, _, _, rfl, rfl, N, g, q + 1, hs, hX, hM, by omega, rfl, h1⟩
  · obtain ⟨hnew, hn⟩ := day_new hs hT0 hR
    have hs1 := hs.ap hT0 hnew
    obtain ⟨ro', e3, hX'⟩ := x3append hs hs1 hX fo' (hn _ hr1)
    obtain ⟨no', e4, hM'⟩ := x9comes hs hs1 hM sg' (hn _ hr2)
    rw [if_neg (show ¬ (1 : Int32) = bI false from one0), if_neg (show ¬ (1 : Int32) = bI false from one0), e3, e4, Option.bind_some, Option.bind_some]
    exact ⟨_, _, _, _, _, _, _, _, _, _, _, _, rfl, rfl, N + 1, _, q + 1, hs1, hX', hM', by omega, rfl, h1⟩
theorem deed (hs : Sok T N g) (hT0 : ¬ T = 0) (hX : PX te da ro T N g) (hM : PM no 0 T N g) (a1 a2 : Int32) {q : Nat} (hq : q + 1 < 2 ^ 31) (fo fr en st w sg : Nat → Int32) (hL : StL q st) (sd : Int32) : ∃ da' ro' b1 b2 fs fo' fr' en' st' sd' no' w' sg', f_X8_doDrawnDeed te da ro a1 a2 (nI q) fo fr en st sd = some (da', ro', b1, b2, fs, fo', fr', en', st', sd') ∧ f_X9_does sd no w sg = some (sd', no', w', sg') ∧ Deed T te da' ro' no' q fs st' := by
  have hT := hs.T14
  have hN := hs.N13
  unfold f_X8_doDrawnDeed f_X9_does
  obtain ⟨j, s1, hj, e1, e2⟩ := draws sd (n := 4) (by omega) (by omega)
  have e1' : f_X1_draw sd 4 = some (nI j, s1) := e1
  have e2' : f_X9_draw sd 4 = some (nI j, s1) := e2
  rw [e1', e2', Option.bind_some, Option.bind_some]
  dsimp only
  by_cases c : j = 0
  · subst c
    unfold f_X8_dropDrawnDay
    rw [if_pos (show nI 0 = 0 from rfl), if_pos (show nI 0 = 0 from rfl), x9days hM, Option.bind_some]
    have eN := hX.2.1
    by_cases c0 : N = 0
    · subst c0
      rw [if_pos (show nI 0 ≤ 0 from Int32.le_refl _), if_pos (show da ≤ 0 by rw [eN]; exact Int32.le_refl _), Option.bind_some]
      exact ⟨_, _, _, _, _, _, _, _, _, _, _, _, _, rfl, rfl, 0, g, q, hs, hX, hM, by omega, rfl, hL⟩
    · have hN0 : ¬ nI N ≤ 0 := fun h => by rw [show (0 : Int32) = nI 0 from rfl, nI_leI (by omega) (by omega)] at h; omega
      obtain ⟨d, s2, hd, e3, e4⟩ := draws s1 (n := N) (by omega) (by omega)
      obtain ⟨ro', e5, hX'⟩ := x3remove hs hX hd
      obtain ⟨no', e6, hM'⟩ := x9goes hs hM hd
      subst eN
      rw [if_neg hN0, if_neg hN0, Option.bind_some, e3, e4, Option.bind_some, Option.bind_some]
      dsimp only
      rw [e5, e6, Option.bind_some, Option.bind_some]
      exact ⟨_, _, _, _, _, _, _, _, _, _, _, _, _, rfl, rfl, N - 1, _, q, hs.rm hd, hX', hM', by omega, rfl, hL⟩
  · obtain ⟨a, s2, ha, e3, e4⟩ := draws s1 (n := T) (by omega) (by omega)
    obtain ⟨b, s3, hb, e5, e6⟩ := draws s2 (n := T) (by omega) (by omega)
    have hj0 : ¬ nI j = 0 := nI_ne0 (by omega) (by omega)
    unfold f_X8_renameDrawnTeams
    have eT := hX.1
    subst eT
    rw [if_neg hj0, if_neg hj0, x9teams hM, Option.bind_some, e3, e4, Option.bind_some, Option.bind_some]
    dsimp only
    rw [e5, Option.bind_some, Option.bind_some, e6, Option.bind_some]
    dsimp only
    by_cases c2 : a = b
    · obtain ⟨da', ro', b1, b2, fs, fo', fr', en', st', no', w', sg', e7, e8, h⟩ := deed_first hs hT0 hX hM a1 a2 hq fo fr en st w sg hL s3
      rw [if_pos (congrArg nI c2), if_pos (congrArg nI c2), e7, e8, Option.bind_some]
      exact ⟨_, _, _, _, _, _, _, _, _, _, _, _, _, rfl, rfl, h⟩
    · obtain ⟨ro1, e9, hX1⟩ := x3swap hs hX ha hb c2
      obtain ⟨no1, e10, hM1⟩ := x9names hs hM ha hb c2
      obtain ⟨da', ro', b1, b2, fs, fo', fr', en', st', no', w', sg', e7, e8, h⟩ := deed_first (hs.cj ha hb) hT0 hX1 hM1 a1 a2 hq fo fr en st w sg hL s3
      have hne : ¬ nI a = nI b := fun h => c2 ((nI_eq (by omega) (by omega)).mp h)
      rw [if_neg hne, if_neg hne, e9, e10, Option.bind_some, Option.bind_some]
      dsimp only
      rw [e7, e8, Option.bind_some]
      exact ⟨_, _, _, _, _, _, _, _, _, _, _, _, _, rfl, rfl, h⟩
theorem drawn_go (hT0 : ¬ T = 0) (n : Nat) (hn : n ≤ 60) (p2 ah an : Int32) (abt abd : Nat → Int32) (abr : Nat → Nat → Int32) (sm : Int32) (sn : Nat → Int32) : ∀ (m i : Nat) (N : Nat) (g : Nat → Nat → Nat) (da : Int32) (ro no : Nat → Int32) (a1 a2 : Int32) (q : Nat) (fo fr en st w sg : Nat → Int32) (sd : Int32), i ≤ n → n - i < m → Sok T N g → PX te da ro T N g → PM no 0 T N g → q + 61 < 2 ^ 31 + i → StL q st →
    ∃ r da' ro' b1 b2 fs fo' fr' en' st' sd' no' w' sg', lp (f_X8_drawn_L46 te (nI n) p2 ah an abt abd abr) m (nI i, da, ro, a1, a2, nI q, fo, fr, en, st, sd) = some (r, da', ro', ah, an, abt, abd, abr, b1, b2, fs, fo', fr', en', st', sd') ∧ lp (f_X9_drawn_L37 (nI n) p2 0 sm sn) m (nI i, sd, no, w, sg) = some (r, 0, sm, sd', no', sn, w', sg') ∧ ∃ N g q', Sok T N g ∧ PX te da' ro' T N g ∧ PM no' 0 T N g ∧ q' ≤ q + (n - i) ∧ fs = nI q' ∧ StL q' st' := by
  intro m
  induction m with
  | zero => intros; omega
  | succ m ih =>
    intro i N g da ro no a1 a2 q fo fr en st w sg sd hi hm hs hX hM hq hL
    show ∃ r da' ro' b1 b2 fs fo' fr' en' st' sd' no' w' sg', f_X8_drawn_L46 te (nI n) p2 ah an abt abd abr (lp (f_X8_drawn_L46 te (nI n) p2 ah an abt abd abr) m) _ = _ ∧ f_X9_drawn_L37 (nI n) p2 0 sm sn (lp (f_X9_drawn_L37 (nI n) p2 0 sm sn) m) _ = _ ∧ _
    generalize lp (f_X8_drawn_L46 te (nI n) p2 ah an abt abd abr) m = self8 at ih ⊢
    generalize lp (f_X9_drawn_L37 (nI n) p2 0 sm sn) m = self9 at ih ⊢
    unfold f_X8_drawn_L46 f_X9_drawn_L37
    dsimp only
    by_cases c : n ≤ i
    · rw [if_pos ((nI_leI (by omega) (by omega)).mpr c), if_pos ((nI_leI (by omega) (by omega)).mpr c), x9days hM, Option.bind_some, ← hX.2.1]
      exact ⟨_, _, _, _, _, _, _, _, _, _, _, _, _, _, rfl, rfl, N, g, q, hs, hX, hM, by omega, rfl, hL⟩
    · obtain ⟨da', ro', b1, b2, fs, fo', fr', en', st', sd', no', w', sg', e1, e2, N', g', q', hs', hX', hM', hq', rfl, hL'⟩ := deed hs hT0 hX hM a1 a2 (q := q) (by omega) fo fr en st w sg hL sd
      rw [if_neg (nI_ge (by omega) (by omega)), if_neg (nI_ge (by omega) (by omega)), e1, e2, Option.bind_some, Option.bind_some]
      dsimp only
      rw [bd_eq, bd_eq, nI_1]
      obtain ⟨r, da2, ro2, c1, c2, fs2, fo2, fr2, en2, st2, sd2, no2, w2, sg2, e3, e4, N2, g2, q2, k1, k2, k3, k4, k5, k6⟩ := ih (i + 1) N' g' da' ro' no' b1 b2 q' fo' fr' en' st' w' sg' sd' (by omega) (by omega) hs' hX' hM' (by omega) hL'
      exact ⟨r, da2, ro2, c1, c2, fs2, fo2, fr2, en2, st2, sd2, no2, w2, sg2, e3, e4, N2, g2, q2, k1, k2, k3, by omega, k5, k6⟩
end
theorem ix160 (x : Int32) : x < 1 ∨ (¬ x ≤ 60 ∧ 60 < x ∧ ¬ x < 1) ∨ ∃ n : Nat, 1 ≤ n ∧ n ≤ 60 ∧ x = nI n ∧ ¬ x < 1 ∧ ¬ 60 < x ∧ x ≤ 60 := by
  rcases ix x 61 (by omega) with h | ⟨h, -⟩ | ⟨j, hj, rfl⟩
  · left
    rw [Int32.lt_iff_toInt_lt] at h ⊢
    have e1 : (0 : Int32).toInt = 0 := by decide
    have e2 : (1 : Int32).toInt = 1 := by decide
    omega
  · right; left
    rw [Int32.le_iff_toInt_le] at h
    rw [Int32.le_iff_toInt_le, Int32.lt_iff_toInt_lt, Int32.lt_iff_toInt_lt]
    have e1 : (nI 61).toInt = 61 := by decide
    have e2 : (1 : Int32).toInt = 1 := by decide
    have e3 : (60 : Int32).toInt = 60 := by decide
    omega
  · by_cases c : j < 1
    · exact Or.inl (show nI j < nI 1 from nI_lt c (by omega))
    · exact Or.inr (Or.inr ⟨j, by omega, by omega, rfl, (show ¬ nI j < nI 1 from nI_nlt (by omega) (by omega)), (show ¬ nI 60 < nI j from nI_nlt (by omega) (by omega)), (nI_leI (b := 60) (by omega) (by omega)).mpr (by omega)⟩)
theorem st_27 : St_27 rd_Inv := by
  intro k
  intros
  rename_i p1 p2 hk hI
  have hI' := st_m k _ _ _ _ _ _ _ _ _ _ _ _ _ _ _ _ _ _ _ _ _ _ _ _ _ hI
  obtain ⟨hS, hA, h3, h4, h5, h7⟩ := hI
  obtain ⟨ah', an', abt', abd', abr', sm', snaps', ek, es, hA'⟩ := keep_snap hA hS
  obtain ⟨T, N, g, hs, hX, hM⟩ := hS
  have hT := hs.T14
  have eT := hX.1
  unfold f_X8_drawn f_X9_drawn f_X9_isIn
  rcases ix160 p1 with c | ⟨c1, c2, c3⟩ | ⟨n, hn1, hn, rfl, c1, c2, c3⟩
  · rw [if_pos c, if_pos c, Option.bind_some, if_pos zer0]
    exact ⟨_, _, _, _, _, _, _, _, _, _, _, _, _, _, _, _, _, _, _, _, _, _, _, _, rfl, rfl, rfl, hI'⟩
  · rw [if_neg c3, if_neg c3, if_neg c1, if_pos c2, Option.bind_some, if_pos zer0]
    exact ⟨_, _, _, _, _, _, _, _, _, _, _, _, _, _, _, _, _, _, _, _, _, _, _, _, rfl, rfl, rfl, hI'⟩
  · rw [if_neg c1, if_neg c1, if_neg c2, if_pos c3, Option.bind_some, if_neg one0, x9teams hM, Option.bind_some]
    by_cases c0 : T = 0
    · rw [if_pos (show nI T = 0 by rw [c0]; rfl), if_pos (by rw [eT, c0]; rfl)]
      exact ⟨_, _, _, _, _, _, _, _, _, _, _, _, _, _, _, _, _, _, _, _, _, _, _, _, rfl, rfl, rfl, hI'⟩
    · have hne : ¬ nI T = 0 := nI_ne0 (by omega) (by omega)
      obtain ⟨q, hq, eq, hL⟩ := h5.stl
      subst eq
      rw [if_neg hne, if_neg (by rw [eT]; exact hne), ek, es, Option.bind_some, Option.bind_some]
      dsimp only
      obtain ⟨r, da', ro', b1, b2, fs, fo', fr', en', st', sd', no', w', sg', e1, e2, N', g', q', k1, k2, k3, k4, k5, k6⟩ := drawn_go c0 n hn p2 ah' an' abt' abd' abr' sm' snaps' 20000 0 N g _ _ _ _ _ q _ _ _ _ _ _ p2 (by omega) (by omega) hs hX hM (by omega) hL
      have e1' := e1
      have e2' := e2
      rw [show nI 0 = 0 from rfl] at e1' e2'
      rw [e1', e2']
      exact ⟨_, _, _, _, _, _, _, _, _, _, _, _, _, _, _, _, _, _, _, _, _, _, _, _, rfl, rfl, rfl, ⟨T, N', g', k1, k2, k3⟩, hA', h3, h4, ⟨q', by omega, k5, k6⟩, h7⟩
