/-! OURS: schedules by starters -/
theorem mdA {x c m : Nat} (hx : x < m) (hc : c < m) : (x + c < m ∧ (x + c) % m = x + c) ∨ (m ≤ x + c ∧ (x + c) % m = x + c - m) := by
  rcases Nat.lt_or_ge (x + c) m with h | h
  · exact Or.inl ⟨h, Nat.mod_eq_of_lt h⟩
  · exact Or.inr ⟨h, by rw [Nat.mod_eq_sub_mod h, Nat.mod_eq_of_lt (by omega)]⟩
theorem mdS {t d m : Nat} (ht : t < m) (hd : d < m) : (d ≤ t ∧ (t + m - d) % m = t - d) ∨ (t < d ∧ (t + m - d) % m = t + m - d) := by
  rcases Nat.lt_or_ge t d with h | h
  · exact Or.inr ⟨h, Nat.mod_eq_of_lt (by omega)⟩
  · exact Or.inl ⟨h, by rw [Nat.mod_eq_sub_mod (by omega), show t + m - d - m = t - d by omega, Nat.mod_eq_of_lt (by omega)]⟩
def byG (m : Nat) (s : Nat → Nat) (d t : Nat) : Nat := if t = m then d else if t = d then m else (s ((t + m - d) % m) + d) % m
def StOk (m : Nat) (s : Nat → Nat) : Prop := (3 ≤ m ∧ m ≤ 13 ∧ m % 2 = 1) ∧ (∀ a, 1 ≤ a → a < m → 1 ≤ s a ∧ s a < m ∧ s a ≠ a ∧ s (s a) = a) ∧ ∀ a b, 1 ≤ a → a < m → 1 ≤ b → b < m → (s a + m - a) % m = (s b + m - b) % m → a = b
theorem byG_m (m : Nat) (s : Nat → Nat) (d : Nat) : byG m s d m = d := if_pos rfl
theorem byG_d {m : Nat} (s : Nat → Nat) {d : Nat} (hd : d < m) : byG m s d d = m := by
  unfold byG
  rw [if_neg (by omega), if_pos rfl]
theorem byG_t {m : Nat} (s : Nat → Nat) {d t : Nat} (ht : t < m) (htd : t ≠ d) : byG m s d t = (s ((t + m - d) % m) + d) % m := by
  unfold byG
  rw [if_neg (by omega), if_neg htd]
/-- the pair of a number a of the starter on a day -/
theorem byG_a {m : Nat} {s : Nat → Nat} (h : StOk m s) {d a : Nat} (hd : d < m) (h1 : 1 ≤ a) (ha : a < m) : (a + d) % m < m ∧ (a + d) % m ≠ d ∧ byG m s d ((a + d) % m) = (s a + d) % m := by
  have k1 := mdA ha hd
  have hlt : (a + d) % m < m := Nat.mod_lt _ (by omega)
  have hne : (a + d) % m ≠ d := by omega
  have k2 := mdS hlt hd
  have e : ((a + d) % m + m - d) % m = a := by omega
  exact ⟨hlt, hne, by rw [byG_t s hlt hne, e]⟩
theorem byG_x {m d t : Nat} (hd : d < m) (ht : t < m) (htd : t ≠ d) : 1 ≤ (t + m - d) % m ∧ (t + m - d) % m < m ∧ ((t + m - d) % m + d) % m = t := by
  have k1 := mdS ht hd
  have hlt : (t + m - d) % m < m := Nat.mod_lt _ (by omega)
  have k2 := mdA hlt hd
  refine ⟨by omega, hlt, by omega⟩
theorem by_Sok {m : Nat} {s : Nat → Nat} (h : StOk m s) : Sok (m + 1) m (byG m s) := by
  obtain ⟨⟨h3, h13, hodd⟩, hs, hinj⟩ := h
  have h : StOk m s := ⟨⟨h3, h13, hodd⟩, hs, hinj⟩
  refine ⟨Or.inr ⟨by omega, by omega, by omega, by omega⟩, fun d t hd ht => ?_, fun d e t hd he ht hEq => ?_⟩
  · by_cases c1 : t = m
    · subst c1
      rw [byG_m, byG_d s hd]
      exact ⟨by omega, by omega, rfl⟩
    · by_cases c2 : t = d
      · subst c2
        rw [byG_d s hd, byG_m]
        exact ⟨by omega, by omega, rfl⟩
      · obtain ⟨x1, x2, x3⟩ := byG_x hd (show t < m by omega) c2
        obtain ⟨y1, y2, y3, y4⟩ := hs _ x1 x2
        obtain ⟨z1, z2, z3⟩ := byG_a h hd y1 y2
        have k1 := mdA x2 hd
        have k2 := mdA y2 hd
        rw [byG_t s (show t < m by omega) c2, z3, y4, x3]
        exact ⟨by omega, by omega, rfl⟩
  · by_cases c1 : t = m
    · subst c1
      rw [byG_m, byG_m] at hEq
      exact hEq
    · have htm : t < m := by omega
      by_cases c2 : t = d
      · by_cases c3 : t = e
        · omega
        · rw [c2] at hEq c3 htm
          rw [byG_d s hd, byG_t s htm c3] at hEq
          have := Nat.mod_lt (s ((d + m - e) % m) + e) (show 0 < m by omega)
          omega
      · by_cases c3 : t = e
        · rw [c3] at hEq c2 htm
          rw [byG_d s he, byG_t s htm c2] at hEq
          have := Nat.mod_lt (s ((e + m - d) % m) + d) (show 0 < m by omega)
          omega
        · obtain ⟨x1, x2, x3⟩ := byG_x hd htm c2
          obtain ⟨w1, w2, w3⟩ := byG_x he htm c3
          obtain ⟨y1, y2, y3, y4⟩ := hs _ x1 x2
          obtain ⟨v1, v2, v3, v4⟩ := hs _ w1 w2
          rw [byG_t s htm c2, byG_t s htm c3] at hEq
          have k1 := mdA y2 hd
          have k2 := mdA v2 he
          have k3 := mdS y2 x2
          have k4 := mdS v2 w2
          have k5 := mdS htm hd
          have k6 := mdS htm he
          have e1 := hinj _ _ x1 x2 w1 w2 (by omega)
          omega
/-- a place of a row that holds what it should -/
def gdA (f : Nat → Int32) (o : Nat) (G : Nat → Nat) (t : Nat) : Prop := f (o + t) = nI (G t)
theorem gdA.up {f : Nat → Int32} {o : Nat} {G : Nat → Nat} {A B t : Nat} (hA : G A = B) (hB : G B = A) (h : gdA f o G t ∨ t = A ∨ t = B) : gdA (upd (upd f (o + A) (nI B)) (o + B) (nI A)) o G t := by
  unfold gdA at h ⊢
  by_cases c1 : t = B
  · subst c1; rw [upd_at, hB]
  · rw [upd_ne _ _ (by omega)]
    by_cases c2 : t = A
    · subst c2; rw [upd_at, hA]
    · rw [upd_ne _ _ (by omega)]
      rcases h with h | h | h
      · exact h
      · exact absurd h c2
      · exact absurd h c1
theorem x3fillBy {m : Nat} {s : Nat → Nat} (h : StOk m s) (te da : Int32) (ro row : Nat → Int32) (hrow : ∀ a, 1 ≤ a → a < m → row a = nI (s a)) : ∃ ro', f_X3_fillBy 13 te da ro row (nI m) = some (nI (m + 1), nI m, ro') ∧ PX (nI (m + 1)) (nI m) ro' (m + 1) m (byG m s) := by
  obtain ⟨⟨h3, h13, hodd⟩, hs, hinj⟩ := h
  have h : StOk m s := ⟨⟨h3, h13, hodd⟩, hs, hinj⟩
  have hS := by_Sok h
  have key : ∃ r, f_X3_fillBy 13 te da ro row (nI m) = some r ∧ ∃ ro', r = (nI (m + 1), nI m, ro') ∧ PX (nI (m + 1)) (nI m) ro' (m + 1) m (byG m s) := by
    unfold f_X3_fillBy f_X3_clear
    rw [if_neg (show ¬ nI m < (1 : Int32) from nI_nlt (b := m) (a := m) (by omega) (by omega) |> fun _ => (show ¬ nI m < nI 1 from nI_nlt (by omega) (by omega))), if_neg (show ¬ (13 : Int32) < nI m from nI_nlt (a := 13) (by omega) (by omega)), if_pos (show nI m ≤ Int32.ofNat 13 from (nI_leI (b := 13) (by omega) (by omega)).mpr h13), Option.bind_some]
    dsimp only
    rw [nI_1]
    refine lp_ex (I := fun x => ∃ (d : Nat) (f : Nat → Int32), d ≤ m ∧ x = (nI d, f) ∧ ∀ e t, e < d → t < m + 1 → gdA f (14 * e) (byG m s e) t) (ms := fun x => m - x.1.toNatClampNeg) (Post := fun r => ∃ ro', r = (nI (m + 1), nI m, ro') ∧ PX (nI (m + 1)) (nI m) ro' (m + 1) m (byG m s)) ?_ 20000 _ ⟨0, ro, by omega, rfl, fun e t h => by omega⟩ (by show m - _ < _; omega)
    rintro x ⟨d, f, hd, rfl, hf⟩ self hself
    unfold f_X3_fillBy_L32
    dsimp only
    by_cases c : m ≤ d
    · rw [if_pos ((nI_leI (by omega) (by omega)).mpr c)]
      exact ⟨_, rfl, f, rfl, rfl, rfl, fun e t he ht => hf e t (by omega) ht⟩
    · have hms : m - (nI (d + 1)).toNatClampNeg < m - (nI d).toNatClampNeg := by rw [nI_clamp (by omega), nI_clamp (by omega)]; omega
      rw [if_neg (nI_ge (by omega) (by omega)), x3pair_at (T := m + 1) (N := m) (by omega) (by omega) f (by omega) (by omega) (by omega) (by omega), Option.bind_some]
      refine lp_ex (I := fun x => ∃ (a : Nat) (f : Nat → Int32), 1 ≤ a ∧ a ≤ m ∧ x = (nI a, f) ∧ (∀ e t, e < d → t < m + 1 → gdA f (14 * e) (byG m s e) t) ∧ gdA f (14 * d) (byG m s d) m ∧ gdA f (14 * d) (byG m s d) d ∧ ∀ b, 1 ≤ b → b < a → gdA f (14 * d) (byG m s d) ((b + d) % m)) (ms := fun x => m - x.1.toNatClampNeg) (Post := fun r => ∃ ro', r = (nI (m + 1), nI m, ro') ∧ PX (nI (m + 1)) (nI m) ro' (m + 1) m (byG m s)) ?_ 20000 _ ⟨1, _, by omega, by omega, rfl, fun e t he ht => ?_, gdA.up (byG_m m s d) (byG_d s (by omega)) (Or.inr (Or.inl rfl)), gdA.up (byG_m m s d) (byG_d s (by omega)) (Or.inr (Or.inr rfl)), fun b h1 h2 => by omega⟩ (by show m - _ < _; omega)
      · rintro y ⟨a, f, ha1, ha, rfl, f1, f2, f3, f4⟩ self2 hself2
        unfold f_X3_fillBy_L47
        dsimp only
        by_cases c2 : m ≤ a
        · rw [if_pos ((nI_leI (by omega) (by omega)).mpr c2), bd_eq, nI_1]
          refine hself _ ⟨d + 1, f, by omega, rfl, fun e t he ht => ?_⟩ hms
          by_cases e1 : e = d
          · subst e1
            by_cases t1 : t = m
            · subst t1; exact f2
            · by_cases t2 : t = e
              · subst t2; exact f3
              · obtain ⟨x1, x2, x3⟩ := byG_x (show e < m by omega) (show t < m by omega) t2
                have := f4 _ x1 (by omega)
                rw [x3] at this
                exact this
          · exact f1 e t (by omega) ht
        · obtain ⟨y1, y2, y3, y4⟩ := hs a ha1 (by omega)
          obtain ⟨z1, z2, z3⟩ := byG_a h (show d < m by omega) ha1 (show a < m by omega)
          obtain ⟨w1, w2, w3⟩ := byG_a h (show d < m by omega) y1 y2
          rw [y4] at w3
          have hne : (a + d) % m ≠ (s a + d) % m := by
            have k1 := mdA (show a < m by omega) (show d < m by omega)
            have k2 := mdA y2 (show d < m by omega)
            omega
          rw [if_neg (nI_ge (by omega) (by omega)), if_pos (nI_ne0 (by omega) (by omega)), if_pos (inb_ok (by omega) (by omega)), if_pos (nI_ne0 (by omega) (by omega)), nI_clamp (by omega), hrow a ha1 (by omega), nI_add, nI_add, pk_rem (by omega) (by omega) (by omega), pk_rem (by omega) (by omega) (by omega), x3pair_at (T := m + 1) (N := m) (by omega) (by omega) f (by omega) (by omega) (by omega) hne, Option.bind_some, bd_eq, nI_1]
          refine hself2 _ ⟨a + 1, _, by omega, by omega, rfl, fun e t he ht => ?_, gdA.up z3 w3 (Or.inl f2), gdA.up z3 w3 (Or.inl f3), fun b h1 h2 => ?_⟩ (by show m - (nI (a + 1)).toNatClampNeg < m - (nI a).toNatClampNeg; rw [nI_clamp (by omega), nI_clamp (by omega)]; omega)
          · unfold gdA
            rw [upd_ne _ _ (by omega), upd_ne _ _ (by omega)]
            exact f1 e t he ht
          · by_cases e1 : b = a
            · subst e1; exact gdA.up z3 w3 (Or.inr (Or.inl rfl))
            · exact gdA.up z3 w3 (Or.inl (f4 b h1 (by omega)))
      · unfold gdA
        rw [upd_ne _ _ (by omega), upd_ne _ _ (by omega)]
        exact hf e t he ht
  obtain ⟨r, e, ro', rfl, hX⟩ := key
  exact ⟨ro', e, hX⟩
theorem x9clears (no : Nat → Int32) (x : Int32) : ∃ no', f_X9_clears 184 no x = some no' ∧ no' 0 = x := by
  unfold f_X9_clears
  refine lp_ex (I := fun y => ∃ (k : Nat) (f : Nat → Int32), k ≤ 184 ∧ y = (nI k, f)) (ms := fun y => 184 - y.1.toNatClampNeg) (Post := fun no' : Nat → Int32 => no' 0 = x) ?_ 20000 _ ⟨0, no, by omega, rfl⟩ (by show 184 - _ < _; omega)
  rintro y ⟨k, f, hk, rfl⟩ self hself
  unfold f_X9_clears_L2
  dsimp only
  by_cases c : k = 184
  · subst c
    rw [if_pos (by decide), if_pos inb0, bd_eq]
    exact ⟨_, rfl, upd_at _ _ _⟩
  · rw [if_neg (show ¬ (184 : Int32) ≤ nI k from nI_ge (b := 184) (by omega) (by omega)), if_pos (inb_ok (by omega) (by omega)), bd_eq, bd_eq, nI_1]
    exact hself _ ⟨k + 1, _, by omega, rfl⟩ (by show 184 - (nI (k + 1)).toNatClampNeg < 184 - (nI k).toNatClampNeg; rw [nI_clamp (by omega), nI_clamp (by omega)]; omega)
theorem x9laysBy {m : Nat} {s : Nat → Nat} (h : StOk m s) (no row : Nat → Int32) (hrow : ∀ a, 1 ≤ a → a < m → row a = nI (s a)) : ∃ no', f_X9_laysBy 184 14 no row (nI m) = some no' ∧ PM no' 0 (m + 1) m (byG m s) := by
  obtain ⟨⟨h3, h13, hodd⟩, hs, hinj⟩ := h
  have h : StOk m s := ⟨⟨h3, h13, hodd⟩, hs, hinj⟩
  obtain ⟨n0, e0, hn0⟩ := x9clears no (nI m + 1)
  unfold f_X9_laysBy
  rw [e0, Option.bind_some]
  rw [nI_1] at hn0
  refine lp_ex (I := fun x => ∃ (d : Nat) (f : Nat → Int32), d ≤ m ∧ x = (nI d, f) ∧ f 0 = nI (m + 1) ∧ ∀ e t, e < d → t < m + 1 → gdA f (2 + 14 * e) (byG m s e) t) (ms := fun x => m - x.1.toNatClampNeg) (Post := fun no' => PM no' 0 (m + 1) m (byG m s)) ?_ 20000 _ ⟨0, n0, by omega, rfl, hn0, fun e t h => by omega⟩ (by show m - _ < _; omega)
  rintro x ⟨d, f, hd, rfl, f0, hf⟩ self hself
  unfold f_X9_laysBy_L9
  dsimp only
  by_cases c : m ≤ d
  · rw [if_pos ((nI_leI (by omega) (by omega)).mpr c), if_pos inb1, bd_eq]
    refine ⟨_, rfl, ?_, upd_at _ _ _, fun e t he ht => ?_⟩
    · show upd f 1 _ 0 = _
      rw [upd_ne _ _ (by omega)]; exact f0
    · show upd f 1 _ (0 + 2 + 14 * e + t) = _
      rw [upd_ne _ _ (by omega), Nat.zero_add]
      exact hf e t (by omega) ht
  · have hms : m - (nI (d + 1)).toNatClampNeg < m - (nI d).toNatClampNeg := by rw [nI_clamp (by omega), nI_clamp (by omega)]; omega
    rw [if_neg (nI_ge (by omega) (by omega)), x9pairs_at 184 (by omega) (by omega) f (by omega) (by omega) (by omega), Option.bind_some]
    refine lp_ex (I := fun x => ∃ (a : Nat) (f : Nat → Int32), 1 ≤ a ∧ a ≤ m ∧ x = (nI a, f) ∧ f 0 = nI (m + 1) ∧ (∀ e t, e < d → t < m + 1 → gdA f (2 + 14 * e) (byG m s e) t) ∧ gdA f (2 + 14 * d) (byG m s d) m ∧ gdA f (2 + 14 * d) (byG m s d) d ∧ ∀ b, 1 ≤ b → b < a → gdA f (2 + 14 * d) (byG m s d) ((b + d) % m)) (ms := fun x => m - x.1.toNatClampNeg) (Post := fun no' => PM no' 0 (m + 1) m (byG m s)) ?_ 20000 _ ⟨1, _, by omega, by omega, rfl, ?_, fun e t he ht => ?_, gdA.up (byG_m m s d) (byG_d s (by omega)) (Or.inr (Or.inl rfl)), gdA.up (byG_m m s d) (byG_d s (by omega)) (Or.inr (Or.inr rfl)), fun b h1 h2 => by omega⟩ (by show m - _ < _; omega)
    · rintro y ⟨a, f, ha1, ha, rfl, f0, f1, f2, f3, f4⟩ self2 hself2
      unfold f_X9_laysBy_L24
      dsimp only
      by_cases c2 : m ≤ a
      · rw [if_pos ((nI_leI (by omega) (by omega)).mpr c2), bd_eq, nI_1]
        refine hself _ ⟨d + 1, f, by omega, rfl, f0, fun e t he ht => ?_⟩ hms
        by_cases e1 : e = d
        · subst e1
          by_cases t1 : t = m
          · subst t1; exact f2
          · by_cases t2 : t = e
            · subst t2; exact f3
            · obtain ⟨x1, x2, x3⟩ := byG_x (show e < m by omega) (show t < m by omega) t2
              have := f4 _ x1 (by omega)
              rw [x3] at this
              exact this
        · exact f1 e t (by omega) ht
      · obtain ⟨y1, y2, y3, y4⟩ := hs a ha1 (by omega)
        obtain ⟨z1, z2, z3⟩ := byG_a h (show d < m by omega) ha1 (show a < m by omega)
        obtain ⟨w1, w2, w3⟩ := byG_a h (show d < m by omega) y1 y2
        rw [y4] at w3
        rw [if_neg (nI_ge (by omega) (by omega)), if_pos (nI_ne0 (by omega) (by omega)), if_pos (inb_ok (by omega) (by omega)), if_pos (nI_ne0 (by omega) (by omega)), nI_clamp (by omega), hrow a ha1 (by omega), nI_add, nI_add, pk_rem (by omega) (by omega) (by omega), pk_rem (by omega) (by omega) (by omega), x9pairs_at 184 (by omega) (by omega) f (by omega) (by omega) (by omega), Option.bind_some, bd_eq, nI_1]
        refine hself2 _ ⟨a + 1, _, by omega, by omega, rfl, ?_, fun e t he ht => ?_, gdA.up z3 w3 (Or.inl f2), gdA.up z3 w3 (Or.inl f3), fun b h1 h2 => ?_⟩ (by show m - (nI (a + 1)).toNatClampNeg < m - (nI a).toNatClampNeg; rw [nI_clamp (by omega), nI_clamp (by omega)]; omega)
        · rw [upd_ne _ _ (by omega), upd_ne _ _ (by omega)]; exact f0
        · unfold gdA
          rw [upd_ne _ _ (by omega), upd_ne _ _ (by omega)]
          exact f1 e t he ht
        · by_cases e1 : b = a
          · subst e1; exact gdA.up z3 w3 (Or.inr (Or.inl rfl))
          · exact gdA.up z3 w3 (Or.inl (f4 b h1 (by omega)))
    · rw [upd_ne _ _ (by omega), upd_ne _ _ (by omega)]; exact f0
    · unfold gdA
      rw [upd_ne _ _ (by omega), upd_ne _ _ (by omega)]
      exact hf e t he ht
