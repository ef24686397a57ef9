/-! OURS: ring; St_8 -/
theorem atF_big (R : Nat → Int32) : ∀ m t s i, cmF R m t s ≤ i → atF R m t s i = 0
  | 0, _, _, _, _ => rfl
  | m + 1, t, s, i, h => by
    have h' : (if bt s t then cmF R m (t + 1) s else cmF R m (t + 1) (s ||| R t) + 1) ≤ i := h
    show (if bt s t then atF R m (t + 1) s i else if i = 0 then R t else atF R m (t + 1) (s ||| R t) (i - 1)) = 0
    split at h'
    · rename_i hb
      rw [if_pos hb]
      exact atF_big R m _ _ _ h'
    · rename_i hb
      rw [if_neg hb, if_neg (by omega)]
      exact atF_big R m _ _ _ (by omega)
theorem atF_in (R : Nat → Int32) (T : Nat) (hT : T ≤ 14) (hR : ∀ t, t < T → bt (R t) t = true) : ∀ m t s i, t + m ≤ T → i < cmF R m t s → ¬ atF R m t s i = 0
  | 0, _, _, _, _, h => by cases h
  | m + 1, t, s, i, ht, h => by
    have h' : i < (if bt s t then cmF R m (t + 1) s else cmF R m (t + 1) (s ||| R t) + 1) := h
    show ¬ (if bt s t then atF R m (t + 1) s i else if i = 0 then R t else atF R m (t + 1) (s ||| R t) (i - 1)) = 0
    split at h'
    · rename_i hb
      rw [if_pos hb]
      exact atF_in R T hT hR m _ _ _ (by omega) h'
    · rename_i hb
      rw [if_neg hb]
      by_cases e : i = 0
      · rw [if_pos e]
        intro h0
        have := hR t (by omega)
        rw [h0, b_0] at this
        cases this
      · rw [if_neg e]
        exact atF_in R T hT hR m _ _ _ (by omega) (by omega)
section
variable {T N : Nat} {g : Nat → Nat → Nat} {te da : Int32} {ro no : Nat → Int32} {o : Nat}
theorem x3circleAt (hs : Sok T N g) (hX : PX te da ro T N g) (hM : PM no 0 T N g) {d e : Nat} (hd : d < N) (he : e < N) (i0 : Nat) (hi0 : i0 < 2 ^ 31) : f_X3_circleAt te da ro (nI d) (nI e) (nI i0) = some (atF (rs g d e) T 0 0 i0) := by
  have hT := hs.T14
  have hX2 := hX
  obtain ⟨rfl, rfl, -⟩ := hX2
  unfold f_X3_circleAt
  refine lp_spec (I := fun x => ∃ (s : Int32) (c t : Nat), x = (s, nI c, nI t) ∧ t ≤ T ∧ c ≤ t ∧ c ≤ i0 ∧ atF (rs g d e) (T - t) t s (i0 - c) = atF (rs g d e) T 0 0 i0) (ms := fun x => T - x.2.2.toNatClampNeg) (res := fun _ => some (atF (rs g d e) T 0 0 i0)) ?_ 20000 _ ⟨0, 0, 0, rfl, by omega, by omega, by omega, rfl⟩ (by show T - _ < _; omega)
  rintro x ⟨s, c, t, rfl, ht, hct, hci, hc⟩ self hself
  show (if nI T ≤ nI t then _ else _) = _
  by_cases c1 : T ≤ t
  · have e1 : T - t = 0 := by omega
    rw [if_pos ((nI_leI (by omega) (by omega)).mpr c1)]
    rw [e1] at hc
    exact congrArg some hc
  · have e1 : T - t = (T - (t + 1)) + 1 := by omega
    rw [e1] at hc
    have hc' : (if bt s t then atF (rs g d e) (T - (t + 1)) (t + 1) s (i0 - c) else if i0 - c = 0 then rs g d e t else atF (rs g d e) (T - (t + 1)) (t + 1) (s ||| rs g d e t) (i0 - c - 1)) = atF (rs g d e) T 0 0 i0 := hc
    rw [if_neg (nI_ge (by omega) (by omega))]
    have hms : T - (nI (t + 1)).toNatClampNeg < T - (nI t).toNatClampNeg := by rw [nI_clamp (by omega), nI_clamp (by omega)]; omega
    cases hb : bt s t with
    | true =>
      rw [hb] at hc'
      rw [if_neg (by rw [bit0 s t (by omega), hb]; simp), bd_eq, nI_1]
      exact hself _ ⟨s, c, t + 1, rfl, by omega, by omega, hci, hc'⟩ hms
    | false =>
      rw [hb] at hc'
      have hc2 : (if i0 - c = 0 then rs g d e t else atF (rs g d e) (T - (t + 1)) (t + 1) (s ||| rs g d e t) (i0 - c - 1)) = atF (rs g d e) T 0 0 i0 := hc'
      rw [if_pos (by rw [bit0 s t (by omega)]; exact hb), x3circleOf hs hX 184 (by omega) (by omega) hM hd he (by omega), Option.bind_some]
      by_cases e2 : c = i0
      · rw [if_pos (congrArg nI e2)]
        rw [if_pos (by omega)] at hc2
        exact congrArg some hc2
      · rw [if_neg (fun h => e2 ((nI_eq (by omega) hi0).mp h)), bd_eq, bd_eq, bd_eq, nI_1, nI_1]
        rw [if_neg (by omega)] at hc2
        exact hself _ ⟨_, c + 1, t + 1, rfl, by omega, by omega, by omega, hc2⟩ hms
theorem x3circleAt_neg (hs : Sok T N g) (hX : PX te da ro T N g) (hM : PM no 0 T N g) {d e : Nat} (hd : d < N) (he : e < N) {p : Int32} (hp : p < 0) : f_X3_circleAt te da ro (nI d) (nI e) p = some 0 := by
  have hT := hs.T14
  have hX2 := hX
  obtain ⟨rfl, rfl, -⟩ := hX2
  unfold f_X3_circleAt
  refine lp_spec (I := fun x => ∃ (s : Int32) (c t : Nat), x = (s, nI c, nI t) ∧ t ≤ T ∧ c ≤ t) (ms := fun x => T - x.2.2.toNatClampNeg) (res := fun _ => some 0) ?_ 20000 _ ⟨0, 0, 0, rfl, by omega, by omega⟩ (by show T - _ < _; omega)
  rintro x ⟨s, c, t, rfl, ht, hct⟩ self hself
  show (if nI T ≤ nI t then _ else _) = _
  by_cases c1 : T ≤ t
  · rw [if_pos ((nI_leI (by omega) (by omega)).mpr c1)]
  · rw [if_neg (nI_ge (by omega) (by omega))]
    have hms : T - (nI (t + 1)).toNatClampNeg < T - (nI t).toNatClampNeg := by rw [nI_clamp (by omega), nI_clamp (by omega)]; omega
    cases hb : bt s t with
    | true =>
      rw [if_neg (by rw [bit0 s t (by omega), hb]; simp), bd_eq, nI_1]
      exact hself _ ⟨s, c, t + 1, rfl, by omega, by omega⟩ hms
    | false =>
      rw [if_pos (by rw [bit0 s t (by omega)]; exact hb), x3circleOf hs hX 184 (by omega) (by omega) hM hd he (by omega), Option.bind_some, if_neg (fun h => by rw [← h] at hp; exact nI_pos (by omega) hp), bd_eq, bd_eq, bd_eq, nI_1, nI_1]
      exact hself _ ⟨_, c + 1, t + 1, rfl, by omega, by omega⟩ hms
theorem x9ring_go (hs : Sok T N g) (hX : PX te da ro T N g) (hM : PM no 0 T N g) {d e : Nat} (hd : d < N) (he : e < N) (i0 : Nat) (hi0 : i0 < rc T g d e) : lp (f_X9_ring_L66 no (nI d) (nI e) (nI i0) 0) 20000 (((1 : Int32) <<< (nI T &&& 31)) - 1, 0, 0) = some (atF (rs g d e) T 0 0 i0, 0) := by
  have hT := hs.T14
  have hrc := rc_le T g d e
  refine lp_spec (I := fun x => ∃ (left st s : Int32) (k t : Nat), x = (left, st, nI k) ∧ ((k = i0 + 1 ∧ st = atF (rs g d e) T 0 0 i0) ∨ (k ≤ i0 ∧ t ≤ T ∧ leftR T left s ∧ (∀ j, j < t → bt s j = true) ∧ i0 - k < cmF (rs g d e) (T - t) t s ∧ atF (rs g d e) (T - t) t s (i0 - k) = atF (rs g d e) T 0 0 i0))) (ms := fun x => i0 + 1 - x.2.2.toNatClampNeg) (res := fun _ => some (atF (rs g d e) T 0 0 i0, 0)) ?_ 20000 _ ⟨_, 0, 0, 0, 0, rfl, Or.inr ⟨by omega, by omega, all_left hT, fun j hj => by omega, hi0, rfl⟩⟩ (by show i0 + 1 - _ < _; omega)
  rintro x ⟨left, st, s, k, t, rfl, h⟩ self hself
  show (if nI i0 < nI k then _ else _) = _
  rcases h with ⟨rfl, rfl⟩ | ⟨hk, ht, hl, hlow, hlt, hat⟩
  · rw [if_pos (nI_lt (by omega) (by omega))]
  · have h0 : ¬ left = 0 := by
      intro h0
      have hc2 := cmF_skip (rs g d e) T s (T - t) t (by omega) (fun j _ h => left_none hl hT h0 (by omega))
      rw [show t + (T - t) = T by omega, Nat.sub_self] at hc2
      rw [hc2] at hlt
      cases hlt
    obtain ⟨l, h1, h2, h3, h4, h5, h6⟩ := left_some hl hT h0 hlow
    have hself' := rs_self hs hd he h2
    have hc2 := cmF_skip (rs g d e) T s (l - t) t (by omega) (fun j a b => h6 j a (by omega))
    have ha2 := atF_skip (rs g d e) T s (i0 - k) (l - t) t (by omega) (fun j a b => h6 j a (by omega))
    rw [show t + (l - t) = l by omega, show T - l = (T - (l + 1)) + 1 by omega] at hc2 ha2
    rw [hc2] at hlt
    rw [ha2] at hat
    have hlt' : i0 - k < (if bt s l then cmF (rs g d e) (T - (l + 1)) (l + 1) s else cmF (rs g d e) (T - (l + 1)) (l + 1) (s ||| rs g d e l) + 1) := hlt
    have hat' : (if bt s l then atF (rs g d e) (T - (l + 1)) (l + 1) s (i0 - k) else if i0 - k = 0 then rs g d e l else atF (rs g d e) (T - (l + 1)) (l + 1) (s ||| rs g d e l) (i0 - k - 1)) = atF (rs g d e) T 0 0 i0 := hat
    rw [h3] at hlt' hat'
    have hlt2 : i0 - k < cmF (rs g d e) (T - (l + 1)) (l + 1) (s ||| rs g d e l) + 1 := hlt'
    have hat2 : (if i0 - k = 0 then rs g d e l else atF (rs g d e) (T - (l + 1)) (l + 1) (s ||| rs g d e l) (i0 - k - 1)) = atF (rs g d e) T 0 0 i0 := hat'
    rw [if_neg (nI_nlt (by omega) (by omega)), h5, Option.bind_some, x9ringOf hs hX 184 (by omega) (by omega) hM hd he h2, Option.bind_some, bd_eq, bd_eq, nI_1]
    have hms : i0 + 1 - (nI (k + 1)).toNatClampNeg < i0 + 1 - (nI k).toNatClampNeg := by rw [nI_clamp (by omega), nI_clamp (by omega)]; omega
    refine hself _ ⟨_, _, s ||| rs g d e l, k + 1, l + 1, rfl, ?_⟩ hms
    by_cases e1 : i0 = k
    · rw [if_pos (by omega)] at hat2
      exact Or.inl ⟨by omega, hat2⟩
    · rw [if_neg (by omega)] at hat2
      refine Or.inr ⟨by omega, by omega, hl.go, fun j hj => ?_, by omega, hat2⟩
      rw [b_or]
      by_cases e2 : j = l
      · subst e2; rw [hself', Bool.or_true]
      · by_cases e3 : j < t
        · rw [hlow j e3]; rfl
        · rw [h6 j (by omega) (by omega)]; rfl
theorem x8ring_in (hs : Sok T N g) (hX : PX te da ro T N g) {d e : Nat} (hd : d < N) (he : e < N) (hde : d ≠ e) {p r : Int32} (h : f_X3_circleAt te da ro (nI d) (nI e) p = some r) : f_X8_ring te da ro (nI d) (nI e) p = some r := by
  have := hs.N13
  unfold f_X8_ring
  rw [h, hX.2.1, x3hasDays_in (by omega) hd he hde, Option.bind_some, if_neg one0, Option.bind_some]
  unfold f_X8_ring_J26
  by_cases h0 : r = 0
  · rw [if_pos h0, h0]
  · rw [if_neg h0]
theorem x8ring_out (hs : Sok T N g) (hX : PX te da ro T N g) {x y p : Int32} (h : ¬ ∃ a b : Nat, a < N ∧ b < N ∧ a ≠ b ∧ x = nI a ∧ y = nI b) : f_X8_ring te da ro x y p = some 0 := by
  have := hs.N13
  unfold f_X8_ring
  rw [hX.2.1, x3hasDays_out (by omega) _ _ h, Option.bind_some, if_pos zer0]
  rfl
theorem x9ring_2 (hs : Sok T N g) (hX : PX te da ro T N g) (hM : PM no 0 T N g) {a b : Nat} (ha : a < N) (hb : b < N) (hab : a ≠ b) (th : Int32) {p3 r : Int32} (hr : f_X9_isIn p3 0 (nI (rc T g a b) - 1) = some r) : f_X9_ring th no (nI a) (nI b) p3 = if r = 0 then some (0, 1) else lp (f_X9_ring_L66 no (nI a) (nI b) p3 0) 20000 (((1 : Int32) <<< (nI T &&& 31)) - 1, 0, 0) := by
  have := hs.N13
  unfold f_X9_ring f_X9_refuse
  have hne : ¬ nI a = nI b := fun e => hab ((nI_eq (by omega) (by omega)).mp e)
  simp only [x9isDay_in hs hM ha, x9isDay_in hs hM hb, Option.bind_some, if_neg one0, if_neg hne, x9ringMany hs hX 184 (by omega) (by omega) hM ha hb, hr, x9teams hM, bd_eq]
theorem x9ring_no (hs : Sok T N g) (hM : PM no 0 T N g) (th p1 p2 p3 : Int32) (h : (¬ ∃ d : Nat, d < N ∧ p1 = nI d) ∨ ((∃ d : Nat, d < N ∧ p1 = nI d) ∧ ((¬ ∃ d : Nat, d < N ∧ p2 = nI d) ∨ ((∃ d : Nat, d < N ∧ p2 = nI d) ∧ p1 = p2)))) : f_X9_ring th no p1 p2 p3 = some (0, 1) := by
  unfold f_X9_ring f_X9_refuse
  rcases h with h | ⟨⟨a, ha, rfl⟩, h | ⟨⟨b, hb, rfl⟩, h⟩⟩
  · rw [x9isDay_out hs hM h, Option.bind_some, if_pos zer0]; rfl
  · rw [x9isDay_in hs hM ha, x9isDay_out hs hM h, Option.bind_some, if_neg one0, Option.bind_some, if_pos zer0]; rfl
  · rw [x9isDay_in hs hM ha, x9isDay_in hs hM hb, Option.bind_some, if_neg one0, Option.bind_some, if_neg one0, if_pos h]; rfl
end
theorem st_8 : St_8 rd_Inv := by
  intro k
  intros
  rename_i p1 p2 p3 hk hI
  have hI' := st_m k _ _ _ _ _ _ _ _ _ _ _ _ _ _ _ _ _ _ _ _ _ _ _ _ _ hI
  obtain ⟨⟨T, N, g, hs, hX, hM⟩, -⟩ := hI
  have hN := hs.N13
  have hT := hs.T14
  rcases twoDays (N := N) (by omega) p1 p2 with ⟨a, b, ha, hb, hab, rfl, rfl⟩ | ⟨hno, h⟩
  · have hrc := rc_le T g a b
    by_cases c : ∃ j : Nat, j < rc T g a b ∧ p3 = nI j
    · obtain ⟨i0, hi0, rfl⟩ := c
      have e1 := fun th => x9ring_2 hs hX hM ha hb hab th (r := 1) (by rw [x9isIn0 _ _ (by omega), if_pos ⟨i0, hi0, rfl⟩])
      have hne : ¬ atF (rs g a b) T 0 0 i0 = 0 := atF_in (rs g a b) T hT (fun t ht => rs_self hs ha hb ht) T 0 0 i0 (by omega) hi0
      refine ⟨_, _, _, x8ring_in hs hX ha hb hab (x3circleAt hs hX hM ha hb i0 (by omega)), (e1 _).trans ((if_neg one0).trans (x9ring_go hs hX hM ha hb i0 hi0)), ⟨?_, fun _ => rfl⟩, hI'⟩
      rw [if_neg hne]
    · have e1 := fun th => x9ring_2 hs hX hM ha hb hab th (r := 0) (by rw [x9isIn0 _ _ (by omega), if_neg c])
      have c3 : p3 < 0 ∨ ∃ i0 : Nat, i0 < 2 ^ 31 ∧ p3 = nI i0 ∧ rc T g a b ≤ i0 := by
        by_cases c0 : p3 < 0
        · exact Or.inl c0
        · obtain ⟨i0, hi0, rfl⟩ := nI_of c0
          rcases Nat.lt_or_ge i0 (rc T g a b) with h | h
          · exact absurd ⟨i0, h, rfl⟩ c
          · exact Or.inr ⟨i0, hi0, rfl, h⟩
      rcases c3 with c0 | ⟨i0, hi0, rfl, h⟩
      · exact ⟨_, _, _, x8ring_in hs hX ha hb hab (x3circleAt_neg hs hX hM ha hb c0), (e1 _).trans (if_pos zer0), ⟨rfl, fun h => absurd rfl h⟩, hI'⟩
      · exact ⟨_, _, _, x8ring_in hs hX ha hb hab ((x3circleAt hs hX hM ha hb i0 hi0).trans (congrArg some (atF_big _ _ _ _ _ h))), (e1 _).trans (if_pos zer0), ⟨rfl, fun h => absurd rfl h⟩, hI'⟩
  · exact ⟨_, _, _, x8ring_out hs hX hno, x9ring_no hs hM _ p1 p2 p3 h, ⟨rfl, fun h => absurd rfl h⟩, hI'⟩
