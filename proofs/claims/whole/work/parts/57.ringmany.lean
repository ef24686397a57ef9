/-! OURS: rings counted, rings told; St_7, St_8 -/
section
variable {T N : Nat} {g : Nat → Nat → Nat} {te da : Int32} {ro no : Nat → Int32} {o : Nat}
/-- how many rings two days make -/
def rc (T : Nat) (g : Nat → Nat → Nat) (d e : Nat) : Nat := cmF (rs g d e) T 0 0
theorem rc_le (T : Nat) (g : Nat → Nat → Nat) (d e : Nat) : rc T g d e ≤ T := cmF_le _ _ _ _
theorem x3circles (hs : Sok T N g) (hX : PX te da ro T N g) (hM : PM no 0 T N g) {d e : Nat} (hd : d < N) (he : e < N) : f_X3_circles te da ro (nI d) (nI e) = some (nI (rc T g d e)) := by
  have hT := hs.T14
  have hX2 := hX
  obtain ⟨rfl, rfl, -⟩ := hX2
  unfold f_X3_circles
  refine lp_spec (I := fun x => ∃ (s : Int32) (c t : Nat), x = (s, nI c, nI t) ∧ t ≤ T ∧ c + cmF (rs g d e) (T - t) t s = rc T g d e) (ms := fun x => T - x.2.2.toNatClampNeg) (res := fun _ => some (nI (rc T g d e))) ?_ 20000 _ ⟨0, 0, 0, rfl, by omega, by rw [Nat.zero_add]; rfl⟩ (by show T - _ < _; omega)
  rintro x ⟨s, c, t, rfl, ht, hc⟩ self hself
  show (if nI T ≤ nI t then _ else _) = _
  by_cases c1 : T ≤ t
  · have e1 : T - t = 0 := by omega
    rw [if_pos ((nI_leI (by omega) (by omega)).mpr c1)]
    rw [e1] at hc
    exact congrArg (fun z => some (nI z)) hc
  · have e1 : T - t = (T - (t + 1)) + 1 := by omega
    rw [e1] at hc
    have hc' : c + (if bt s t then cmF (rs g d e) (T - (t + 1)) (t + 1) s else cmF (rs g d e) (T - (t + 1)) (t + 1) (s ||| rs g d e t) + 1) = rc T g d e := hc
    rw [if_neg (nI_ge (by omega) (by omega))]
    have hms : T - (nI (t + 1)).toNatClampNeg < T - (nI t).toNatClampNeg := by rw [nI_clamp (by omega), nI_clamp (by omega)]; omega
    cases hb : bt s t with
    | true =>
      rw [hb] at hc'
      rw [if_neg (by rw [bit0 s t (by omega), hb]; simp), bd_eq, nI_1]
      exact hself _ ⟨s, c, t + 1, rfl, by omega, hc'⟩ hms
    | false =>
      rw [hb] at hc'
      rw [if_pos (by rw [bit0 s t (by omega)]; exact hb), x3circleOf hs hX 184 (by omega) (by omega) hM hd he (by omega), Option.bind_some, bd_eq, bd_eq, bd_eq, nI_1, nI_1]
      refine hself _ ⟨_, c + 1, t + 1, rfl, by omega, ?_⟩ hms
      have h9 : c + (cmF (rs g d e) (T - (t + 1)) (t + 1) (s ||| rs g d e t) + 1) = rc T g d e := hc'
      omega
/-- what is left of the teams, beside those that were seen -/
def leftR (T : Nat) (left s : Int32) : Prop := ∀ i, i < 32 → bt left i = (decide (i < T) && !bt s i)
theorem leftR.go {left s r : Int32} (h : leftR T left s) : leftR T (left &&& (r ^^^ (-1))) (s ||| r) := by
  intro i hi
  rw [b_and, b_not r hi, h i hi, b_or]
  cases decide (i < T) <;> cases bt s i <;> cases bt r i <;> rfl
theorem leftR.lt {left s r : Int32} {l : Nat} (hl : l < 32) (h1 : bt left l = true) (h2 : bt r l = true) : pct 32 (bt (left &&& (r ^^^ (-1)))) < pct 32 (bt left) := by
  refine pct_lt 32 _ _ l (fun i hi h => ?_) hl ?_ h1
  · rw [b_and] at h
    cases hb : bt left i with
    | true => rfl
    | false => rw [hb] at h; cases h
  · rw [b_and, b_not r hl, h2]
    cases bt left l <;> rfl
theorem left_none {left s : Int32} (h : leftR T left s) (hT : T ≤ 14) (h0 : left = 0) {j : Nat} (hj : j < T) : bt s j = true := by
  have := h j (by omega)
  rw [h0, b_0, decide_eq_true hj] at this
  cases hb : bt s j with
  | true => rfl
  | false => rw [hb] at this; cases this
theorem left_some {left s : Int32} (h : leftR T left s) (hT : T ≤ 14) (h0 : ¬ left = 0) {t : Nat} (ht : ∀ j, j < t → bt s j = true) : ∃ l, t ≤ l ∧ l < T ∧ bt s l = false ∧ bt left l = true ∧ f_X9_least left = some (nI l) ∧ ∀ j, t ≤ j → j < l → bt s j = true := by
  obtain ⟨l, hl, hb, hlow⟩ := least_ex left h0
  have h1 := h l hl
  rw [hb] at h1
  have hlT : l < T := by
    cases hd : decide (l < T) with
    | true => exact of_decide_eq_true hd
    | false => rw [hd] at h1; cases h1
  have hs : bt s l = false := by
    cases hd : bt s l with
    | false => rfl
    | true => rw [hd] at h1; simp at h1
  refine ⟨l, ?_, hlT, hs, hb, x9least left hl hb hlow, fun j h1 h2 => ?_⟩
  · rcases Nat.lt_or_ge l t with h | h
    · rw [ht l h] at hs; cases hs
    · exact h
  · have := h j (by omega)
    rw [hlow j h2, decide_eq_true (show j < T by omega)] at this
    cases hd : bt s j with
    | true => rfl
    | false => rw [hd] at this; cases this
theorem all_left (hT : T ≤ 14) : leftR T (((1 : Int32) <<< (nI T &&& 31)) - 1) 0 := by
  intro i hi
  rw [b_all T (by omega) i hi, b_0]
  cases decide (i < T) <;> rfl
theorem x9ringMany (hs : Sok T N g) (hX : PX te da ro T N g) (n0 : Nat) (hn0 : n0 < 2 ^ 31) (h184 : 184 ≤ n0) (hM : PM no 0 T N g) {d e : Nat} (hd : d < N) (he : e < N) : f_X9_ringMany n0 no (nI d) (nI e) = some (nI (rc T g d e)) := by
  have hT := hs.T14
  unfold f_X9_ringMany
  rw [if_pos (show inb 0 n0 from inb_ok (a := 0) (by omega) hn0), show no (0 : Int32).toNatClampNeg = nI T from hM.1, bd_eq]
  refine lp_spec (I := fun x => ∃ (left s : Int32) (c t : Nat), x = (left, nI c) ∧ t ≤ T ∧ leftR T left s ∧ (∀ j, j < t → bt s j = true) ∧ c + cmF (rs g d e) (T - t) t s = rc T g d e) (ms := fun x => pct 32 (bt x.1)) (res := fun _ => some (nI (rc T g d e))) ?_ 20000 _ ⟨_, 0, 0, 0, rfl, by omega, all_left hT, fun j hj => by omega, by rw [Nat.zero_add]; rfl⟩ (Nat.lt_of_le_of_lt (pct_max 32 _) (by omega))
  rintro x ⟨left, s, c, t, rfl, ht, hl, hlow, hc⟩ self hself
  show (if left = 0 then _ else _) = _
  by_cases h0 : left = 0
  · rw [if_pos h0]
    have hc2 := cmF_skip (rs g d e) T s (T - t) t (by omega) (fun j _ h => left_none hl hT h0 (by omega))
    rw [show t + (T - t) = T by omega, Nat.sub_self] at hc2
    rw [hc2] at hc
    exact congrArg (fun z => some (nI z)) hc
  · obtain ⟨l, h1, h2, h3, h4, h5, h6⟩ := left_some hl hT h0 hlow
    rw [if_neg h0, h5, Option.bind_some, x9ringOf hs hX n0 hn0 h184 hM hd he h2, Option.bind_some, bd_eq, bd_eq, nI_1]
    have hself' := rs_self hs hd he h2
    refine hself _ ⟨_, s ||| rs g d e l, c + 1, l + 1, rfl, by omega, hl.go, fun j hj => ?_, ?_⟩ (leftR.lt (s := s) (by omega) h4 hself')
    · rw [b_or]
      by_cases e1 : j = l
      · subst e1; rw [hself', Bool.or_true]
      · by_cases e2 : j < t
        · rw [hlow j e2]; rfl
        · rw [h6 j (by omega) (by omega)]; rfl
    · have hc2 := cmF_skip (rs g d e) T s (l - t) t (by omega) (fun j a b => h6 j a (by omega))
      rw [show t + (l - t) = l by omega] at hc2
      rw [hc2, show T - l = (T - (l + 1)) + 1 by omega] at hc
      have hc' : c + (if bt s l then cmF (rs g d e) (T - (l + 1)) (l + 1) s else cmF (rs g d e) (T - (l + 1)) (l + 1) (s ||| rs g d e l) + 1) = rc T g d e := hc
      rw [h3] at hc'
      have h9 : c + (cmF (rs g d e) (T - (l + 1)) (l + 1) (s ||| rs g d e l) + 1) = rc T g d e := hc'
      omega
theorem x3hasDays_in (hN : N < 2 ^ 31) {a b : Nat} (ha : a < N) (hb : b < N) (hab : a ≠ b) : f_X3_hasTwoDays (nI N) (nI a) (nI b) = some 1 := by
  unfold f_X3_hasTwoDays
  rw [if_neg (fun e => hab ((nI_eq (by omega) (by omega)).mp e)), if_neg (nI_pos (by omega)), if_neg (nI_ge ha hN), if_neg (nI_pos (by omega)), if_neg (nI_ge hb hN)]
theorem x3hasDays_out (hN : N < 2 ^ 31) (x y : Int32) (h : ¬ ∃ a b : Nat, a < N ∧ b < N ∧ a ≠ b ∧ x = nI a ∧ y = nI b) : f_X3_hasTwoDays (nI N) x y = some 0 := by
  unfold f_X3_hasTwoDays
  by_cases c0 : x = y
  · rw [if_pos c0]
  rw [if_neg c0]
  rcases ix x N hN with c | ⟨c1, c2⟩ | ⟨a, ha, rfl⟩
  · rw [if_pos c]
  · rw [if_neg c2, if_pos c1]
  · rw [if_neg (nI_pos (by omega)), if_neg (nI_ge ha hN)]
    rcases ix y N hN with c | ⟨c1, c2⟩ | ⟨b, hb, rfl⟩
    · rw [if_pos c]
    · rw [if_neg c2, if_pos c1]
    · exact absurd ⟨a, b, ha, hb, fun e => c0 (congrArg nI e), rfl, rfl⟩ h
theorem x9isDay_in (hs : Sok T N g) (hM : PM no 0 T N g) {d : Nat} (hd : d < N) : f_X9_isDay no (nI d) = some 1 := by
  rw [x9isDay hs hM, if_pos ⟨d, hd, rfl⟩]
theorem x9isDay_out (hs : Sok T N g) (hM : PM no 0 T N g) {x : Int32} (h : ¬ ∃ d : Nat, d < N ∧ x = nI d) : f_X9_isDay no x = some 0 := by
  rw [x9isDay hs hM, if_neg h]
theorem x9isTeam_in (hs : Sok T N g) (hM : PM no 0 T N g) {d : Nat} (hd : d < T) : f_X9_isTeam no (nI d) = some 1 := by
  rw [x9isTeam hs hM, if_pos ⟨d, hd, rfl⟩]
theorem x9isTeam_out (hs : Sok T N g) (hM : PM no 0 T N g) {x : Int32} (h : ¬ ∃ d : Nat, d < T ∧ x = nI d) : f_X9_isTeam no x = some 0 := by
  rw [x9isTeam hs hM, if_neg h]
/-- two days, or not -/
theorem twoDays (hN : N < 2 ^ 31) (x y : Int32) : (∃ a b : Nat, a < N ∧ b < N ∧ a ≠ b ∧ x = nI a ∧ y = nI b) ∨ ((¬ ∃ a b : Nat, a < N ∧ b < N ∧ a ≠ b ∧ x = nI a ∧ y = nI b) ∧ ((¬ ∃ d : Nat, d < N ∧ x = nI d) ∨ ((∃ d : Nat, d < N ∧ x = nI d) ∧ ((¬ ∃ d : Nat, d < N ∧ y = nI d) ∨ ((∃ d : Nat, d < N ∧ y = nI d) ∧ x = y))))) := by
  by_cases h1 : ∃ d : Nat, d < N ∧ x = nI d
  · by_cases h2 : ∃ d : Nat, d < N ∧ y = nI d
    · obtain ⟨a, ha, rfl⟩ := h1
      obtain ⟨b, hb, rfl⟩ := h2
      by_cases e : a = b
      · subst e
        refine Or.inr ⟨?_, Or.inr ⟨⟨a, ha, rfl⟩, Or.inr ⟨⟨a, ha, rfl⟩, rfl⟩⟩⟩
        rintro ⟨a', b', _, _, hab, e1, e2⟩
        rw [nI_eq (by omega) (by omega)] at e1 e2
        omega
      · exact Or.inl ⟨a, b, ha, hb, e, rfl, rfl⟩
    · exact Or.inr ⟨fun ⟨a, b, ha, hb, _, _, e⟩ => h2 ⟨b, hb, e⟩, Or.inr ⟨h1, Or.inl h2⟩⟩
  · exact Or.inr ⟨fun ⟨a, b, ha, hb, _, e, _⟩ => h1 ⟨a, ha, e⟩, Or.inl h1⟩
end
theorem st_7 : St_7 rd_Inv := by
  intro k
  intros
  rename_i p1 p2 hk hI
  have hI' := st_m k _ _ _ _ _ _ _ _ _ _ _ _ _ _ _ _ _ _ _ _ _ _ _ _ _ hI
  obtain ⟨⟨T, N, g, hs, hX, hM⟩, -⟩ := hI
  have hN := hs.N13
  have hda := hX.2.1
  unfold f_X8_rings f_X9_rings
  rw [hda]
  rcases twoDays (N := N) (by omega) p1 p2 with ⟨a, b, ha, hb, hab, rfl, rfl⟩ | ⟨hno, h | ⟨⟨a, ha, rfl⟩, h | ⟨⟨b, hb, rfl⟩, h⟩⟩⟩
  · rw [x3hasDays_in (by omega) ha hb hab, x9isDay_in hs hM ha, x9isDay_in hs hM hb, Option.bind_some, Option.bind_some, Option.bind_some, if_neg one0, if_neg one0, if_neg one0, if_neg (fun e => hab ((nI_eq (by omega) (by omega)).mp e)), ← hda, x3circles hs hX hM ha hb, x9ringMany hs hX 184 (by omega) (by omega) hM ha hb, Option.bind_some, Option.bind_some]
    rw [hda] at hI' ⊢
    exact ⟨_, _, _, rfl, rfl, rfl, hI'⟩
  · rw [x3hasDays_out (by omega) _ _ hno, x9isDay_out hs hM h, Option.bind_some, Option.bind_some, if_pos zer0, if_pos zer0]
    rw [hda] at hI'
    exact ⟨_, _, _, rfl, rfl, rfl, hI'⟩
  · rw [x3hasDays_out (by omega) _ _ hno, x9isDay_in hs hM ha, x9isDay_out hs hM h, Option.bind_some, Option.bind_some, Option.bind_some, if_pos zer0, if_neg one0, if_pos zer0]
    rw [hda] at hI'
    exact ⟨_, _, _, rfl, rfl, rfl, hI'⟩
  · rw [x3hasDays_out (by omega) _ _ hno, x9isDay_in hs hM ha, x9isDay_in hs hM hb, Option.bind_some, Option.bind_some, Option.bind_some, if_pos zer0, if_neg one0, if_neg one0, if_pos h]
    rw [hda] at hI'
    exact ⟨_, _, _, rfl, rfl, rfl, hI'⟩
