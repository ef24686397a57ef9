/-! OURS: the two families -/
theorem nI_sba (a b c : Nat) (h : b ≤ a + c) : nI a - nI b + nI c = nI (a + c - b) := by
  have : nI a - nI b + nI c = nI a + nI c - nI b := by
    rw [Int32.sub_eq_add_neg, Int32.sub_eq_add_neg, Int32.add_assoc, Int32.add_assoc, Int32.add_comm (-nI b)]
  rw [this, nI_add, pk_sub h]
def whS (m a : Nat) : Nat := m - a
theorem whS_ok {m : Nat} (h3 : 3 ≤ m) (h13 : m ≤ 13) (hodd : m % 2 = 1) : StOk m (whS m) := by
  refine ⟨⟨h3, h13, hodd⟩, fun a h1 h2 => ?_, fun a b a1 a2 b1 b2 h => ?_⟩
  · unfold whS; omega
  · unfold whS at h
    have k1 := mdS (show m - a < m by omega) a2
    have k2 := mdS (show m - b < m by omega) b2
    omega
theorem x3wheel {m : Nat} (h3 : 3 ≤ m) (h13 : m ≤ 13) (hodd : m % 2 = 1) (te da : Int32) (ro : Nat → Int32) : ∃ ro', f_X3_fillWheel te da ro (nI (m + 1)) = some (nI (m + 1), nI m, ro') ∧ PX (nI (m + 1)) (nI m) ro' (m + 1) m (byG m (whS m)) := by
  have h := whS_ok h3 h13 hodd
  have hs := h.2.1
  have key : ∃ r, f_X3_fillWheel te da ro (nI (m + 1)) = some r ∧ ∃ ro', r = (nI (m + 1), nI m, ro') ∧ PX (nI (m + 1)) (nI m) ro' (m + 1) m (byG m (whS m)) := by
    unfold f_X3_fillWheel f_X3_clear
    rw [bd_eq, nI_down, if_neg (show ¬ nI m < (1 : Int32) from (show ¬ nI m < nI 1 from nI_nlt (by omega) (by omega))), if_pos (show nI m ≤ (13 : Int32) from (nI_leI (b := 13) (by omega) (by omega)).mpr h13), Option.bind_some]
    dsimp only
    refine lp_ex (I := fun x => ∃ (d : Nat) (f : Nat → Int32), d ≤ m ∧ x = (nI d, f) ∧ ∀ e t, e < d → t < m + 1 → gdA f (14 * e) (byG m (whS m) e) t) (ms := fun x => m - x.1.toNatClampNeg) (Post := fun r => ∃ ro', r = (nI (m + 1), nI m, ro') ∧ PX (nI (m + 1)) (nI m) ro' (m + 1) m (byG m (whS m))) ?_ 20000 _ ⟨0, ro, by omega, rfl, fun e t h => by omega⟩ (by show m - _ < _; omega)
    rintro x ⟨d, f, hd, rfl, hf⟩ self hself
    unfold f_X3_fillWheel_L28
    dsimp only
    by_cases c : m ≤ d
    · rw [if_pos ((nI_leI (by omega) (by omega)).mpr c)]
      exact ⟨_, rfl, f, rfl, rfl, rfl, fun e t he ht => hf e t (by omega) ht⟩
    · have hms : m - (nI (d + 1)).toNatClampNeg < m - (nI d).toNatClampNeg := by rw [nI_clamp (by omega), nI_clamp (by omega)]; omega
      rw [if_neg (nI_ge (by omega) (by omega)), x3pair_at (T := m + 1) (N := m) (by omega) (by omega) f (by omega) (by omega) (by omega) (by omega), Option.bind_some]
      refine lp_ex (I := fun x => ∃ (a : Nat) (f : Nat → Int32), 1 ≤ a ∧ a ≤ m ∧ x = (nI a, f) ∧ (∀ e t, e < d → t < m + 1 → gdA f (14 * e) (byG m (whS m) e) t) ∧ gdA f (14 * d) (byG m (whS m) d) m ∧ gdA f (14 * d) (byG m (whS m) d) d ∧ ∀ b, 1 ≤ b → b < a → gdA f (14 * d) (byG m (whS m) d) ((b + d) % m) ∧ gdA f (14 * d) (byG m (whS m) d) ((whS m b + d) % m)) (ms := fun x => m - x.1.toNatClampNeg) (Post := fun r => ∃ ro', r = (nI (m + 1), nI m, ro') ∧ PX (nI (m + 1)) (nI m) ro' (m + 1) m (byG m (whS m))) ?_ 20000 _ ⟨1, _, by omega, by omega, rfl, fun e t he ht => ?_, gdA.up (byG_m m _ d) (byG_d _ (by omega)) (Or.inr (Or.inl rfl)), gdA.up (byG_m m _ d) (byG_d _ (by omega)) (Or.inr (Or.inr rfl)), fun b h1 h2 => by omega⟩ (by show m - _ < _; omega)
      · rintro y ⟨a, f, ha1, ha, rfl, f1, f2, f3, f4⟩ self2 hself2
        unfold f_X3_fillWheel_L43
        dsimp only
        rw [show nI (m + 1) / (2 : Int32) = nI ((m + 1) / 2) from pk_div (d := 2) (by omega) (by omega) (by omega)]
        by_cases c2 : (m + 1) / 2 ≤ a
        · rw [if_pos ((nI_leI (by omega) (by omega)).mpr c2), bd_eq, nI_1]
          refine hself _ ⟨d + 1, f, by omega, rfl, fun e t he ht => ?_⟩ hms
          by_cases e1 : e = d
          · subst e1
            by_cases t1 : t = m
            · subst t1; exact f2
            · by_cases t2 : t = e
              · subst t2; exact f3
              · obtain ⟨x1, x2, x3⟩ := byG_x (show e < m by omega) (show t < m by omega) t2
                rcases Nat.lt_or_ge ((t + m - e) % m) a with x4 | x4
                · have := (f4 _ x1 x4).1
                  rw [x3] at this
                  exact this
                · have := (f4 (m - (t + m - e) % m) (by omega) (by omega)).2
                  rw [show whS m (m - (t + m - e) % m) = (t + m - e) % m by unfold whS; omega, x3] at this
                  exact this
          · exact f1 e t (by omega) ht
        · obtain ⟨y1, y2, y3, y4⟩ := hs a ha1 (by omega)
          obtain ⟨z1, z2, z3⟩ := byG_a h (show d < m by omega) ha1 (show a < m by omega)
          obtain ⟨w1, w2, w3⟩ := byG_a h (show d < m by omega) y1 y2
          rw [y4] at w3
          have hne : (a + d) % m ≠ (whS m a + d) % m := by
            have k1 := mdA (show a < m by omega) (show d < m by omega)
            have k2 := mdA y2 (show d < m by omega)
            omega
          rw [if_neg (nI_ge (by omega) (by omega)), if_pos (nI_ne0 (by omega) (by omega)), if_pos (nI_ne0 (by omega) (by omega)), nI_add, nI_add, pk_sub (by omega), pk_rem (by omega) (by omega) (by omega), pk_rem (by omega) (by omega) (by omega), Nat.add_comm d a, show d + m - a = whS m a + d by unfold whS; omega, x3pair_at (T := m + 1) (N := m) (by omega) (by omega) f (by omega) (by omega) (by omega) hne, Option.bind_some, bd_eq, nI_1]
          refine hself2 _ ⟨a + 1, _, by omega, by omega, rfl, fun e t he ht => ?_, gdA.up z3 w3 (Or.inl f2), gdA.up z3 w3 (Or.inl f3), fun b h1 h2 => ?_⟩ (by show m - (nI (a + 1)).toNatClampNeg < m - (nI a).toNatClampNeg; rw [nI_clamp (by omega), nI_clamp (by omega)]; omega)
          · unfold gdA
            rw [upd_ne _ _ (by omega), upd_ne _ _ (by omega)]
            exact f1 e t he ht
          · by_cases e1 : b = a
            · subst e1; exact ⟨gdA.up z3 w3 (Or.inr (Or.inl rfl)), gdA.up z3 w3 (Or.inr (Or.inr rfl))⟩
            · exact ⟨gdA.up z3 w3 (Or.inl (f4 b h1 (by omega)).1), gdA.up z3 w3 (Or.inl (f4 b h1 (by omega)).2)⟩
      · unfold gdA
        rw [upd_ne _ _ (by omega), upd_ne _ _ (by omega)]
        exact hf e t he ht
  obtain ⟨r, e, ro', rfl, hX⟩ := key
  exact ⟨ro', e, hX⟩
theorem x9turns {m : Nat} (h3 : 3 ≤ m) (h13 : m ≤ 13) (hodd : m % 2 = 1) (no : Nat → Int32) (hn0 : no 0 = nI (m + 1)) : ∃ no', f_X9_laysTurns no (nI m) = some no' ∧ no' 0 = nI (m + 1) ∧ ∀ e t, e < m → t < m + 1 → gdA no' (2 + 14 * e) (byG m (whS m) e) t := by
  have h := whS_ok h3 h13 hodd
  have hs := h.2.1
  unfold f_X9_laysTurns
  refine lp_ex (I := fun x => ∃ (d : Nat) (f : Nat → Int32), d ≤ m ∧ x = (nI d, f) ∧ f 0 = nI (m + 1) ∧ ∀ e t, e < d → t < m + 1 → gdA f (2 + 14 * e) (byG m (whS m) e) t) (ms := fun x => m - x.1.toNatClampNeg) (Post := fun no' : Nat → Int32 => no' 0 = nI (m + 1) ∧ ∀ e t, e < m → t < m + 1 → gdA no' (2 + 14 * e) (byG m (whS m) e) t) ?_ 20000 _ ⟨0, no, by omega, rfl, hn0, fun e t h => by omega⟩ (by show m - _ < _; omega)
  rintro x ⟨d, f, hd, rfl, f0, hf⟩ self hself
  unfold f_X9_laysTurns_L2
  dsimp only
  by_cases c : m ≤ d
  · rw [if_pos ((nI_leI (by omega) (by omega)).mpr c)]
    exact ⟨_, rfl, f0, fun e t he ht => hf e t (by omega) ht⟩
  · have hms : m - (nI (d + 1)).toNatClampNeg < m - (nI d).toNatClampNeg := by rw [nI_clamp (by omega), nI_clamp (by omega)]; omega
    rw [if_neg (nI_ge (by omega) (by omega)), x9pairs_at 184 (by omega) (by omega) f (by omega) (by omega) (by omega), Option.bind_some]
    refine lp_ex (I := fun x => ∃ (a : Nat) (f : Nat → Int32), 1 ≤ a ∧ a ≤ m ∧ x = (nI a, f) ∧ f 0 = nI (m + 1) ∧ (∀ e t, e < d → t < m + 1 → gdA f (2 + 14 * e) (byG m (whS m) e) t) ∧ gdA f (2 + 14 * d) (byG m (whS m) d) m ∧ gdA f (2 + 14 * d) (byG m (whS m) d) d ∧ ∀ b, 1 ≤ b → b < a → gdA f (2 + 14 * d) (byG m (whS m) d) ((b + d) % m) ∧ gdA f (2 + 14 * d) (byG m (whS m) d) ((whS m b + d) % m)) (ms := fun x => m - x.1.toNatClampNeg) (Post := fun no' : Nat → Int32 => no' 0 = nI (m + 1) ∧ ∀ e t, e < m → t < m + 1 → gdA no' (2 + 14 * e) (byG m (whS m) e) t) ?_ 20000 _ ⟨1, _, by omega, by omega, rfl, ?_, fun e t he ht => ?_, gdA.up (byG_m m _ d) (byG_d _ (by omega)) (Or.inr (Or.inl rfl)), gdA.up (byG_m m _ d) (byG_d _ (by omega)) (Or.inr (Or.inr rfl)), fun b h1 h2 => by omega⟩ (by show m - _ < _; omega)
    · rintro y ⟨a, f, ha1, ha, rfl, f0, f1, f2, f3, f4⟩ self2 hself2
      unfold f_X9_laysTurns_L19
      dsimp only
      rw [show (2 : Int32) * nI a = nI (2 * a) from pk_mul 2 a]
      by_cases c2 : m ≤ 2 * a
      · rw [if_pos ((nI_leI (by omega) (by omega)).mpr c2), bd_eq, nI_1]
        refine hself _ ⟨d + 1, f, by omega, rfl, f0, fun e t he ht => ?_⟩ hms
        by_cases e1 : e = d
        · subst e1
          by_cases t1 : t = m
          · subst t1; exact f2
          · by_cases t2 : t = e
            · subst t2; exact f3
            · obtain ⟨x1, x2, x3⟩ := byG_x (show e < m by omega) (show t < m by omega) t2
              rcases Nat.lt_or_ge ((t + m - e) % m) a with x4 | x4
              · have := (f4 _ x1 x4).1
                rw [x3] at this
                exact this
              · have := (f4 (m - (t + m - e) % m) (by omega) (by omega)).2
                rw [show whS m (m - (t + m - e) % m) = (t + m - e) % m by unfold whS; omega, x3] at this
                exact this
        · exact f1 e t (by omega) ht
      · obtain ⟨y1, y2, y3, y4⟩ := hs a ha1 (by omega)
        obtain ⟨z1, z2, z3⟩ := byG_a h (show d < m by omega) ha1 (show a < m by omega)
        obtain ⟨w1, w2, w3⟩ := byG_a h (show d < m by omega) y1 y2
        rw [y4] at w3
        rw [if_neg (nI_ge (by omega) (by omega)), if_pos (nI_ne0 (by omega) (by omega)), if_pos (nI_ne0 (by omega) (by omega)), nI_sba d a m (by omega), nI_add, pk_rem (by omega) (by omega) (by omega), pk_rem (by omega) (by omega) (by omega), Nat.add_comm d a, show d + m - a = whS m a + d by unfold whS; omega, x9pairs_at 184 (by omega) (by omega) f (by omega) (by omega) (by omega), Option.bind_some, bd_eq, nI_1]
        refine hself2 _ ⟨a + 1, _, by omega, by omega, rfl, ?_, fun e t he ht => ?_, gdA.up z3 w3 (Or.inl f2), gdA.up z3 w3 (Or.inl f3), fun b h1 h2 => ?_⟩ (by show m - (nI (a + 1)).toNatClampNeg < m - (nI a).toNatClampNeg; rw [nI_clamp (by omega), nI_clamp (by omega)]; omega)
        · rw [upd_ne _ _ (by omega), upd_ne _ _ (by omega)]; exact f0
        · unfold gdA
          rw [upd_ne _ _ (by omega), upd_ne _ _ (by omega)]
          exact f1 e t he ht
        · by_cases e1 : b = a
          · subst e1; exact ⟨gdA.up z3 w3 (Or.inr (Or.inl rfl)), gdA.up z3 w3 (Or.inr (Or.inr rfl))⟩
          · exact ⟨gdA.up z3 w3 (Or.inl (f4 b h1 (by omega)).1), gdA.up z3 w3 (Or.inl (f4 b h1 (by omega)).2)⟩
    · rw [upd_ne _ _ (by omega), upd_ne _ _ (by omega)]; exact f0
    · unfold gdA
      rw [upd_ne _ _ (by omega), upd_ne _ _ (by omega)]
      exact hf e t he ht
def twO (p d : Nat) : Nat := if 2 * (d - p) + 1 < p then 2 * (d - p) + 1 else 2 * (d - p) + 3
def twG (n d t : Nat) : Nat := if d < n / 2 then (if t = d then d + n / 2 else if t = d + n / 2 then d else (2 * d + n - t) % n) else if t % 2 = 0 then (t + twO (n / 2) d) % n else (t + n - twO (n / 2) d) % n
abbrev TwOk (n : Nat) : Prop := (∀ d, d < n - 1 → ∀ t, t < n → twG n d t < n ∧ twG n d t ≠ t ∧ twG n d (twG n d t) = t) ∧ (∀ d, d < n - 1 → ∀ e, e < n - 1 → ∀ t, t < n → twG n d t = twG n e t → d = e) ∧ ∀ d, d < n - 1 → ∀ t, t < n → n / 2 ≤ d → t % 2 = 1 → twG n d t % 2 = 0
theorem tw6 : TwOk 6 := by decide +kernel
theorem tw10 : TwOk 10 := by decide +kernel
theorem tw14 : TwOk 14 := by decide +kernel
abbrev TwN (n : Nat) : Prop := n = 6 ∨ n = 10 ∨ n = 14
theorem twOk {n : Nat} (h : TwN n) : TwOk n := by
  rcases h with rfl | rfl | rfl
  · exact tw6
  · exact tw10
  · exact tw14
theorem tw_Sok {n : Nat} (h : TwN n) : Sok n (n - 1) (twG n) := by
  have k := twOk h
  exact ⟨Or.inr (by omega), fun d t hd ht => k.1 d hd t ht, fun d e t hd he ht hh => k.2.1 d hd e he t ht hh⟩
theorem tw_a {n d : Nat} (hd : d < n / 2) : twG n d d = d + n / 2 := by
  unfold twG
  rw [if_pos hd, if_pos rfl]
theorem tw_b {n d : Nat} (hd : d < n / 2) (hn : TwN n) : twG n d (d + n / 2) = d := by
  unfold twG
  rw [if_pos hd, if_neg (by omega), if_pos rfl]
theorem tw_c {n d t : Nat} (hd : d < n / 2) (h1 : t ≠ d) (h2 : t ≠ d + n / 2) : twG n d t = (2 * d + n - t) % n := by
  unfold twG
  rw [if_pos hd, if_neg h1, if_neg h2]
theorem tw_e {n d t i : Nat} (hd : n / 2 ≤ d) (ht : t % 2 = 0) (hi : twO (n / 2) d = i) : twG n d t = (t + i) % n := by
  unfold twG
  rw [if_neg (by omega), if_pos ht, hi]
/-- a day's odd number -/
def TwI (p d i : Nat) : Prop := i % 2 = 1 ∧ ((i ≤ p ∧ i = 2 * (d - p) + 1) ∨ (p < i ∧ i = 2 * (d - p) + 3))
theorem TwI.o {p d i : Nat} (h : TwI p d i) (hp : p % 2 = 1) (hi : i ≠ p) : twO p d = i := by
  unfold TwI at h
  unfold twO
  by_cases c : 2 * (d - p) + 1 < p
  · rw [if_pos c]; omega
  · rw [if_neg c]; omega
theorem x3twins2 {n : Nat} (hn : TwN n) (f : Nat → Int32) (hf0 : ∀ e t, e < n / 2 → t < n → gdA f (14 * e) (twG n e) t) : ∃ r, lp (f_X3_fillTwins_L87 (nI n) (nI (n / 2)) (nI n) (nI (n - 1))) 20000 (nI (n / 2), 1, f) = some r ∧ ∃ ro', r = (nI n, nI (n - 1), ro') ∧ PX (nI n) (nI (n - 1)) ro' n (n - 1) (twG n) := by
  have hk := twOk hn
  refine lp_ex (I := fun x => ∃ (d i : Nat) (f : Nat → Int32), x = (nI d, nI i, f) ∧ n / 2 ≤ d ∧ i ≤ n + 1 ∧ TwI (n / 2) d i ∧ ∀ e t, e < d → t < n → gdA f (14 * e) (twG n e) t) (ms := fun x => n + 2 - x.2.1.toNatClampNeg) (Post := fun r => ∃ ro', r = (nI n, nI (n - 1), ro') ∧ PX (nI n) (nI (n - 1)) ro' n (n - 1) (twG n)) ?_ 20000 _ ⟨n / 2, 1, f, rfl, by omega, by omega, by unfold TwI; omega, hf0⟩ (by show n + 2 - _ < _; omega)
  rintro x ⟨d, i, f, rfl, hd, hi, hI, hf⟩ self hself
  have hI2 := hI
  unfold TwI at hI2
  unfold f_X3_fillTwins_L87
  dsimp only
  by_cases c : n ≤ i
  · rw [if_pos ((nI_leI (by omega) (by omega)).mpr c)]
    exact ⟨_, rfl, f, rfl, rfl, rfl, fun e t he ht => hf e t (by omega) ht⟩
  · have hms : n + 2 - (nI (i + 2)).toNatClampNeg < n + 2 - (nI i).toNatClampNeg := by rw [nI_clamp (by omega), nI_clamp (by omega)]; omega
    have e2 : nI i + (2 : Int32) = nI (i + 2) := nI_add (a := i) (b := 2)
    rw [if_neg (nI_ge (by omega) (by omega))]
    by_cases c1 : i = n / 2
    · rw [if_pos (congrArg nI c1), bd_eq, e2]
      exact hself _ ⟨d, i + 2, f, rfl, hd, by omega, by unfold TwI; omega, hf⟩ hms
    · have hO := hI.o (by omega) c1
      rw [if_neg (fun h => c1 ((nI_eq (by omega) (by omega)).mp h))]
      refine lp_ex (I := fun x => ∃ (t : Nat) (f : Nat → Int32), t ≤ n ∧ t % 2 = 0 ∧ x = (nI t, f) ∧ (∀ e t, e < d → t < n → gdA f (14 * e) (twG n e) t) ∧ ∀ s, s < t → s % 2 = 0 → gdA f (14 * d) (twG n d) s ∧ gdA f (14 * d) (twG n d) (twG n d s)) (ms := fun x => n - x.1.toNatClampNeg) (Post := fun r => ∃ ro', r = (nI n, nI (n - 1), ro') ∧ PX (nI n) (nI (n - 1)) ro' n (n - 1) (twG n)) ?_ 20000 _ ⟨0, f, by omega, rfl, rfl, hf, fun s h => by omega⟩ (by show n - _ < _; omega)
      rintro y ⟨t, f, ht, ht2, rfl, f1, f2⟩ self2 hself2
      unfold f_X3_fillTwins_L102
      dsimp only
      by_cases c2 : n ≤ t
      · rw [if_pos ((nI_leI (by omega) (by omega)).mpr c2), bd_eq, bd_eq, nI_1, e2]
        refine hself _ ⟨d + 1, i + 2, f, rfl, by omega, by omega, by unfold TwI; omega, fun e s he hs => ?_⟩ hms
        by_cases e1 : e = d
        · subst e1
          by_cases s1 : s % 2 = 0
          · exact (f2 s (by omega) s1).1
          · have k1 := hk.1 e (by omega) s hs
            have k2 := (f2 (twG n e s) (by omega) (hk.2.2 e (by omega) s hs hd (by omega))).2
            rw [k1.2.2] at k2
            exact k2
        · exact f1 e s (by omega) hs
      · have k1 := hk.1 d (by omega) t (by omega)
        have k2 := tw_e (t := t) hd ht2 hO
        rw [if_neg (nI_ge (by omega) (by omega)), if_pos (nI_ne0 (by omega) (by omega)), nI_add, pk_rem (by omega) (by omega) (by omega), ← k2, x3pair_at (T := n) (N := n - 1) (by omega) (by omega) f (by omega) (by omega) k1.1 (fun h => k1.2.1 h.symm), Option.bind_some, bd_eq, show nI t + (2 : Int32) = nI (t + 2) from nI_add (a := t) (b := 2)]
        refine hself2 _ ⟨t + 2, _, by omega, by omega, rfl, fun e s he hs => ?_, fun s h1 h2 => ?_⟩ (by show n - (nI (t + 2)).toNatClampNeg < n - (nI t).toNatClampNeg; rw [nI_clamp (by omega), nI_clamp (by omega)]; omega)
        · unfold gdA
          rw [upd_ne _ _ (by omega), upd_ne _ _ (by omega)]
          exact f1 e s he hs
        · by_cases e1 : s = t
          · subst e1; exact ⟨gdA.up rfl k1.2.2 (Or.inr (Or.inl rfl)), gdA.up rfl k1.2.2 (Or.inr (Or.inr rfl))⟩
          · exact ⟨gdA.up rfl k1.2.2 (Or.inl (f2 s (by omega) h2).1), gdA.up rfl k1.2.2 (Or.inl (f2 s (by omega) h2).2)⟩
theorem tw_fix {n d t : Nat} (hn : TwN n) (hd : d < n / 2) (h : t = d ∨ t = d + n / 2) : (2 * d + n - t) % n = t := by
  rcases h with rfl | rfl
  · rw [show 2 * t + n - t = t + n by omega, Nat.add_mod_right, Nat.mod_eq_of_lt (by omega)]
  · rw [show 2 * d + n - (d + n / 2) = d + n / 2 by omega, Nat.mod_eq_of_lt (by omega)]
theorem x3twins {n : Nat} (hn : TwN n) (te da : Int32) (ro : Nat → Int32) : ∃ ro', f_X3_fillTwins te da ro (nI n) = some (nI n, nI (n - 1), ro') ∧ PX (nI n) (nI (n - 1)) ro' n (n - 1) (twG n) := by
  have hk := twOk hn
  have key : ∃ r, f_X3_fillTwins te da ro (nI n) = some r ∧ ∃ ro', r = (nI n, nI (n - 1), ro') ∧ PX (nI n) (nI (n - 1)) ro' n (n - 1) (twG n) := by
    unfold f_X3_fillTwins f_X3_clear
    rw [if_neg (show ¬ nI n < (4 : Int32) from (show ¬ nI n < nI 4 from nI_nlt (by omega) (by omega))), if_pos (show nI n ≤ (14 : Int32) from (nI_leI (b := 14) (by omega) (by omega)).mpr (by omega)), bd_eq, Option.bind_some]
    dsimp only
    rw [bd_eq, show nI n / (2 : Int32) = nI (n / 2) from pk_div (d := 2) (by omega) (by omega) (by omega), show nI n - 1 = nI (n - 1) from pk_sub (b := 1) (by omega)]
    refine lp_ex (I := fun x => ∃ (d : Nat) (f : Nat → Int32), d ≤ n / 2 ∧ x = (nI d, f) ∧ ∀ e t, e < d → t < n → gdA f (14 * e) (twG n e) t) (ms := fun x => n - x.1.toNatClampNeg) (Post := fun r => ∃ ro', r = (nI n, nI (n - 1), ro') ∧ PX (nI n) (nI (n - 1)) ro' n (n - 1) (twG n)) ?_ 20000 _ ⟨0, ro, by omega, rfl, fun e t h => by omega⟩ (by show n - _ < _; omega)
    rintro x ⟨d, f, hd, rfl, hf⟩ self hself
    unfold f_X3_fillTwins_L30
    dsimp only
    by_cases c : n / 2 ≤ d
    · rw [if_pos ((nI_leI (by omega) (by omega)).mpr c)]
      exact x3twins2 hn f (fun e t he ht => hf e t (by omega) ht)
    · have hms : n - (nI (d + 1)).toNatClampNeg < n - (nI d).toNatClampNeg := by rw [nI_clamp (by omega), nI_clamp (by omega)]; omega
      have ka := tw_a (n := n) (d := d) (by omega)
      have kb := tw_b (n := n) (d := d) (by omega) hn
      rw [if_neg (nI_ge (by omega) (by omega)), nI_add, x3pair_at (T := n) (N := n - 1) (by omega) (by omega) f (by omega) (by omega) (by omega) (by omega), Option.bind_some]
      refine lp_ex (I := fun x => ∃ (t : Nat) (f : Nat → Int32), t ≤ n ∧ x = (nI t, f) ∧ (∀ e t, e < d → t < n → gdA f (14 * e) (twG n e) t) ∧ gdA f (14 * d) (twG n d) d ∧ gdA f (14 * d) (twG n d) (d + n / 2) ∧ ∀ s, s < t → gdA f (14 * d) (twG n d) s) (ms := fun x => n - x.1.toNatClampNeg) (Post := fun r => ∃ ro', r = (nI n, nI (n - 1), ro') ∧ PX (nI n) (nI (n - 1)) ro' n (n - 1) (twG n)) ?_ 20000 _ ⟨0, _, by omega, rfl, fun e t he ht => ?_, gdA.up ka kb (Or.inr (Or.inl rfl)), gdA.up ka kb (Or.inr (Or.inr rfl)), fun s h => by omega⟩ (by show n - _ < _; omega)
      · rintro y ⟨t, f, ht, rfl, f1, f2, f3, f4⟩ self2 hself2
        have hms2 : ∀ g : Nat → Int32, n - (nI (t + 1), g).1.toNatClampNeg < n - (nI t, f).1.toNatClampNeg ∨ n ≤ t := fun g => by
          show n - (nI (t + 1)).toNatClampNeg < n - (nI t).toNatClampNeg ∨ _
          rw [nI_clamp (by omega), nI_clamp (by omega)]; omega
        unfold f_X3_fillTwins_L47
        dsimp only
        by_cases c2 : n ≤ t
        · rw [if_pos ((nI_leI (by omega) (by omega)).mpr c2), bd_eq, nI_1]
          refine hself _ ⟨d + 1, f, by omega, rfl, fun e s he hs => ?_⟩ hms
          by_cases e1 : e = d
          · subst e1; exact f4 s (by omega)
          · exact f1 e s (by omega) hs
        · rw [if_neg (nI_ge (by omega) (by omega)), if_pos (nI_ne0 (by omega) (by omega)), show (2 : Int32) * nI d = nI (2 * d) from pk_mul 2 d, nI_add, pk_sub (by omega), pk_rem (by omega) (by omega) (by omega)]
          by_cases c3 : t = d ∨ t = d + n / 2
          · rw [tw_fix hn (by omega) c3, x3pair_eq (by omega) (by omega) f (by omega), Option.bind_some, bd_eq, nI_1]
            refine hself2 _ ⟨t + 1, f, by omega, rfl, f1, f2, f3, fun s hs => ?_⟩ ((hms2 f).resolve_right c2)
            by_cases e1 : s = t
            · subst e1
              rcases c3 with c3 | c3
              · rw [c3]; exact f2
              · rw [c3]; exact f3
            · exact f4 s (by omega)
          · have k1 := hk.1 d (by omega) t (by omega)
            have k2 := tw_c (n := n) (d := d) (t := t) (by omega) (fun h => c3 (Or.inl h)) (fun h => c3 (Or.inr h))
            rw [← k2, x3pair_at (T := n) (N := n - 1) (by omega) (by omega) f (by omega) (by omega) k1.1 (fun h => k1.2.1 h.symm), Option.bind_some, bd_eq, nI_1]
            refine hself2 _ ⟨t + 1, _, by omega, rfl, fun e s he hs => ?_, gdA.up rfl k1.2.2 (Or.inl f2), gdA.up rfl k1.2.2 (Or.inl f3), fun s hs => ?_⟩ ((hms2 _).resolve_right c2)
            · unfold gdA
              rw [upd_ne _ _ (by omega), upd_ne _ _ (by omega)]
              exact f1 e s he hs
            · by_cases e1 : s = t
              · subst e1; exact gdA.up rfl k1.2.2 (Or.inr (Or.inl rfl))
              · exact gdA.up rfl k1.2.2 (Or.inl (f4 s (by omega)))
      · unfold gdA
        rw [upd_ne _ _ (by omega), upd_ne _ _ (by omega)]
        exact hf e t he ht
  obtain ⟨r, e, ro', rfl, hX⟩ := key
  exact ⟨ro', e, hX⟩
