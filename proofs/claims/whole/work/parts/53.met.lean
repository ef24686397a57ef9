/-! OURS: on which day two teams meet -/
noncomputable def mo (N : Nat) (g : Nat → Nat → Nat) (a b : Nat) : Int32 := by
  classical
  exact if h : ∃ d, d < N ∧ g d a = b then nI h.choose else -1
theorem mo_in {T N : Nat} {g : Nat → Nat → Nat} (hs : Sok T N g) {a b d : Nat} (ha : a < T) (hd : d < N) (h : g d a = b) : mo N g a b = nI d := by
  have hx : ∃ d, d < N ∧ g d a = b := ⟨d, hd, h⟩
  unfold mo
  rw [dif_pos hx]
  have h2 := hx.choose_spec
  exact congrArg nI (hs.2.2 _ _ a h2.1 hd ha (h2.2.trans h.symm))
theorem mo_out {N : Nat} {g : Nat → Nat → Nat} {a b : Nat} (h : ∀ d, d < N → g d a ≠ b) : mo N g a b = -1 := by
  unfold mo
  rw [dif_neg]
  rintro ⟨d, hd, e⟩
  exact h d hd e
theorem mo_cases {T N : Nat} {g : Nat → Nat → Nat} (hs : Sok T N g) (a b : Nat) (ha : a < T) : (∃ d, d < N ∧ g d a = b ∧ mo N g a b = nI d) ∨ ((∀ d, d < N → g d a ≠ b) ∧ mo N g a b = -1) := by
  by_cases h : ∃ d, d < N ∧ g d a = b
  · obtain ⟨d, hd, e⟩ := h
    exact Or.inl ⟨d, hd, e, mo_in hs ha hd e⟩
  · have h' : ∀ d, d < N → g d a ≠ b := fun d hd e => h ⟨d, hd, e⟩
    exact Or.inr ⟨h', mo_out h'⟩
section
variable {T N : Nat} {g : Nat → Nat → Nat} {te da : Int32} {ro no : Nat → Int32} {o : Nat}
theorem x9metOn (hs : Sok T N g) (n : Nat) (hn : n < 2 ^ 31) (h184 : 184 ≤ n) (hM : PM no 0 T N g) {a b : Nat} (ha : a < T) (hb : b < T) : f_X9_metOn n no (nI a) (nI b) = some (mo N g a b) := by
  have := hs.T14; have := hs.N13
  unfold f_X9_metOn
  refine lp_spec (I := fun x => ∃ d0, d0 ≤ N ∧ x = nI d0 ∧ ∀ d, d < d0 → g d a ≠ b) (ms := fun x => N - x.toNatClampNeg) (res := fun _ => some (mo N g a b)) ?_ 20000 0 ⟨0, by omega, rfl, fun d h => by omega⟩ (by show N - _ < _; omega)
  rintro x ⟨d0, hd0, rfl, hbef⟩ self hself
  show f_X9_metOn_L2 n no (nI a) (nI b) self (nI d0) = _
  unfold f_X9_metOn_L2
  have e1 : no (1 : Int32).toNatClampNeg = nI N := hM.2.1
  rw [if_pos (show inb 1 n from inb_ok (a := 1) (by omega) hn), e1]
  by_cases c : N ≤ d0
  · rw [if_pos ((nI_leI (by omega) (by omega)).mpr c), mo_out (fun d hd => hbef d (by omega))]
  · rw [if_neg (fun h => c ((nI_leI (by omega) (by omega)).mp h)), x9meets hs n hn h184 hM (by omega) ha, Option.bind_some]
    by_cases c2 : g d0 a = b
    · rw [if_pos (congrArg nI c2), mo_in hs ha (by omega) c2]
    · have hg := (hs.2.1 d0 a (by omega) ha).1
      rw [if_neg (fun h => c2 ((nI_eq (by omega) (by omega)).mp h)), bd_eq, nI_1]
      refine hself _ ⟨d0 + 1, by omega, rfl, fun d hd => ?_⟩ ?_
      · rcases Nat.lt_or_ge d d0 with h | h
        · exact hbef d h
        · rw [show d = d0 by omega]; exact c2
      · show N - _ < N - _
        rw [nI_clamp (by omega), nI_clamp (by omega)]
        omega
theorem x3has2_in (T : Nat) (hT : T < 2 ^ 31) {a b : Nat} (ha : a < T) (hb : b < T) (hab : a ≠ b) : f_X3_hasTwoTeams (nI T) (nI a) (nI b) = some 1 := by
  unfold f_X3_hasTwoTeams
  rw [if_neg (fun e => hab ((nI_eq (by omega) (by omega)).mp e)), if_neg (nI_pos (by omega)), if_neg (nI_ge ha hT), if_neg (nI_pos (by omega)), if_neg (nI_ge hb hT)]
theorem x3has2_out (T : Nat) (hT : T < 2 ^ 31) (x y : Int32) (h : ¬ ∃ a b : Nat, a < T ∧ b < T ∧ a ≠ b ∧ x = nI a ∧ y = nI b) : f_X3_hasTwoTeams (nI T) x y = some 0 := by
  unfold f_X3_hasTwoTeams
  by_cases c0 : x = y
  · rw [if_pos c0]
  rw [if_neg c0]
  rcases ix x T hT with c | ⟨c1, c2⟩ | ⟨a, ha, rfl⟩
  · rw [if_pos c]
  · rw [if_neg c2, if_pos c1]
  · rw [if_neg (nI_pos (by omega)), if_neg (nI_ge ha hT)]
    rcases ix y T hT with c | ⟨c1, c2⟩ | ⟨b, hb, rfl⟩
    · rw [if_pos c]
    · rw [if_neg c2, if_pos c1]
    · exact absurd ⟨a, b, ha, hb, fun e => c0 (congrArg nI e), rfl, rfl⟩ h
theorem x3dayOf (hs : Sok T N g) (hX : PX te da ro T N g) {a b : Nat} (ha : a < T) (hb : b < T) (hab : a ≠ b) : f_X3_dayOf te da ro (nI a) (nI b) = some (mo N g a b) := by
  obtain ⟨rfl, rfl, hr⟩ := hX
  have := hs.T14; have := hs.N13
  unfold f_X3_dayOf
  rw [x3has2_in T (by omega) ha hb hab, Option.bind_some, if_neg one0]
  refine lp_spec (I := fun x => ∃ d0, d0 ≤ N ∧ x = nI d0 ∧ ∀ d, d < d0 → g d a ≠ b) (ms := fun x => N - x.toNatClampNeg) (res := fun _ => some (mo N g a b)) ?_ 20000 0 ⟨0, by omega, rfl, fun d h => by omega⟩ (by show N - _ < _; omega)
  rintro x ⟨d0, hd0, rfl, hbef⟩ self hself
  show f_X3_dayOf_L13 (nI T) (nI N) ro (nI a) (nI b) self (nI d0) = _
  unfold f_X3_dayOf_L13
  by_cases c : N ≤ d0
  · rw [if_pos ((nI_leI (by omega) (by omega)).mpr c), mo_out (fun d hd => hbef d (by omega))]
  · have ei : nI d0 * (14 : Int32) + nI a = nI (14 * d0 + a) := by rw [show (14 : Int32) = nI 14 from rfl, pk_mul, nI_add, Nat.mul_comm]
    rw [if_neg (fun h => c ((nI_leI (by omega) (by omega)).mp h)), ei, if_pos (inb_ok (by omega) (by omega)), nI_clamp (by omega), hr d0 a (by omega) ha]
    by_cases c2 : g d0 a = b
    · rw [if_pos (congrArg nI c2), mo_in hs ha (by omega) c2]
    · have hg := (hs.2.1 d0 a (by omega) ha).1
      rw [if_neg (fun h => c2 ((nI_eq (by omega) (by omega)).mp h)), bd_eq, nI_1]
      refine hself _ ⟨d0 + 1, by omega, rfl, fun d hd => ?_⟩ ?_
      · rcases Nat.lt_or_ge d d0 with h | h
        · exact hbef d h
        · rw [show d = d0 by omega]; exact c2
      · show N - _ < N - _
        rw [nI_clamp (by omega), nI_clamp (by omega)]
        omega
theorem x3dayOf_out (hs : Sok T N g) (hX : PX te da ro T N g) {x y : Int32} (h : ¬ ∃ a b : Nat, a < T ∧ b < T ∧ a ≠ b ∧ x = nI a ∧ y = nI b) : f_X3_dayOf te da ro x y = some (-1) := by
  obtain ⟨rfl, rfl, hr⟩ := hX
  have := hs.T14
  unfold f_X3_dayOf
  rw [x3has2_out T (by omega) _ _ h, Option.bind_some, if_pos zer0]
end
theorem st_6 : St_6 rd_Inv := by
  intro k
  intros
  rename_i p1 p2 hk hI
  have hI' := st_m k _ _ _ _ _ _ _ _ _ _ _ _ _ _ _ _ _ _ _ _ _ _ _ _ _ hI
  obtain ⟨⟨T, N, g, hs, hX, hM⟩, -⟩ := hI
  have := hs.T14
  unfold f_X8_met f_X9_met
  rw [x9isTeam hs hM, Option.bind_some]
  by_cases ca : ∃ j : Nat, j < T ∧ p1 = nI j
  · rw [if_pos ca, if_neg one0, x9isTeam hs hM, Option.bind_some]
    by_cases cb : ∃ j : Nat, j < T ∧ p2 = nI j
    · rw [if_pos cb, if_neg one0]
      obtain ⟨a, ha, rfl⟩ := ca
      obtain ⟨b, hb, rfl⟩ := cb
      by_cases hab : a = b
      · rw [if_pos (congrArg nI hab), x3dayOf_out hs hX, Option.bind_some]
        · exact ⟨_, _, _, rfl, rfl, rfl, hI'⟩
        · rintro ⟨a', b', ha', hb', hab', e1, e2⟩
          rw [nI_eq (by omega) (by omega)] at e1 e2
          omega
      · rw [if_neg (fun e => hab ((nI_eq (by omega) (by omega)).mp e)), x9metOn hs 184 (by omega) (by omega) hM ha hb, x3dayOf hs hX ha hb hab, Option.bind_some, Option.bind_some]
        exact ⟨_, _, _, rfl, rfl, rfl, hI'⟩
    · rw [if_neg cb, if_pos zer0, x3dayOf_out hs hX (fun ⟨a, b, ha, hb, _, e1, e2⟩ => cb ⟨b, hb, e2⟩), Option.bind_some]
      exact ⟨_, _, _, rfl, rfl, rfl, hI'⟩
  · rw [if_neg ca, if_pos zer0, x3dayOf_out hs hX (fun ⟨a, b, ha, hb, _, e1, e2⟩ => ca ⟨a, ha, e1⟩), Option.bind_some]
    exact ⟨_, _, _, rfl, rfl, rfl, hI'⟩
