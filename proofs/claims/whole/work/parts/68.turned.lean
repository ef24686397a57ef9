/-! OURS: turned -/
theorem md {x c m : Nat} (hx : x < m) (hc : c < m) : (x + c) % m = if x + c < m then x + c else x + c - m := by
  split
  · rename_i h; exact Nat.mod_eq_of_lt h
  · rename_i h; rw [Nat.mod_eq_sub_mod (by omega), Nat.mod_eq_of_lt (by omega)]
def tu (T c t : Nat) : Nat := if t + 1 < T then (t + c) % (T - 1) else t
theorem tu_lt {T c t : Nat} (hT : 2 ≤ T) (ht : t < T) : tu T c t < T := by
  unfold tu
  split
  · have := Nat.mod_lt (t + c) (show 0 < T - 1 by omega); omega
  · exact ht
theorem tu_inj {T c a b : Nat} (hT : 2 ≤ T) (hc : c < T - 1) (ha : a < T) (hb : b < T) (h : tu T c a = tu T c b) : a = b := by
  unfold tu at h
  by_cases c1 : a + 1 < T
  · rw [if_pos c1, md (by omega) hc] at h
    by_cases c2 : b + 1 < T
    · rw [if_pos c2, md (by omega) hc] at h
      split at h <;> split at h <;> omega
    · rw [if_neg c2] at h
      split at h <;> omega
  · rw [if_neg c1] at h
    by_cases c2 : b + 1 < T
    · rw [if_pos c2, md (by omega) hc] at h
      split at h <;> omega
    · rw [if_neg c2] at h; exact h
/-- a day turned is one of the days -/
def TD (T N : Nat) (g : Nat → Nat → Nat) (c d : Nat) : Prop := ∃ e, e < N ∧ ∀ t, t < T → g e (tu T c t) = tu T c (g d t)
section
variable {T N : Nat} {g : Nat → Nat → Nat} {te da : Int32} {ro no : Nat → Int32} {o : Nat} {u v : Nat → Nat}
theorem x3turn (hT : T ≤ 14) (hT4 : 4 ≤ T) {t c : Nat} (ht : t < T) (hc : c < T - 1) : f_X3_turn (nI T) (nI t) (nI c) = some (nI (tu T c t)) := by
  unfold f_X3_turn tu
  rw [bd_eq, show nI T - 1 = nI (T - 1) by rw [show (1 : Int32) = nI 1 from rfl, pk_sub (by omega)], if_neg (show ¬ nI (T - 1) ≤ 0 from fun h => by rw [show (0 : Int32) = nI 0 from rfl, nI_leI (by omega) (by omega)] at h; omega)]
  by_cases c1 : t + 1 < T
  · rw [if_pos c1, if_pos (nI_lt (by omega) (by omega)), if_pos (nI_ne0 (by omega) (by omega)), nI_add, pk_rem (by omega) (by omega) (by omega)]
  · rw [if_neg c1, if_neg (nI_nlt (by omega) (by omega))]
theorem x3isT (hs : Sok T N g) (hT4 : 4 ≤ T) (hX : PX te da ro T N g) {d c : Nat} (hd : d < N) (hc : c < T - 1) : ∃ r, f_X3_isTurnedToDay te da ro (nI d) (nI c) = some r ∧ ((r = 1 ∧ TD T N g c d) ∨ (r = 0 ∧ ¬ TD T N g c d)) := by
  have hT := hs.T14
  have hN := hs.N13
  have hX2 := hX
  obtain ⟨rfl, -, -⟩ := hX2
  have h0 := hs.2.1 d 0 hd (by omega)
  have k1 := tu_lt (T := T) (c := c) (t := 0) (by omega) (by omega)
  have k2 := tu_lt (T := T) (c := c) (t := g d 0) (by omega) h0.1
  have k3 : tu T c 0 ≠ tu T c (g d 0) := fun h => h0.2.1 (tu_inj (by omega) hc (by omega) h0.1 h).symm
  unfold f_X3_isTurnedToDay
  rw [show f_X3_turn (nI T) (0 : Int32) (nI c) = _ from x3turn hT hT4 (t := 0) (by omega) hc, Option.bind_some, show f_X3_partner (nI T) da ro (nI d) (0 : Int32) = _ from partner_in hs hX hd (t := 0) (by omega), Option.bind_some, x3turn hT hT4 h0.1 hc, Option.bind_some, x3dayOf hs hX k1 k2 k3, Option.bind_some]
  rcases mo_cases hs (tu T c 0) (tu T c (g d 0)) k1 with ⟨e, he, e1, e2⟩ | ⟨h1, e2⟩
  · rw [e2, if_neg (fun h => by have h9 := nI_nm1 (a := e) (by omega); rw [h] at h9; exact h9.mp rfl)]
    refine lp_ex (I := fun x => ∃ t, 1 ≤ t ∧ t ≤ T ∧ x = nI t ∧ ∀ s, s < t → g e (tu T c s) = tu T c (g d s)) (ms := fun x => T - x.toNatClampNeg) (Post := fun r => (r = 1 ∧ TD T N g c d) ∨ (r = 0 ∧ ¬ TD T N g c d)) ?_ 20000 _ ⟨1, by omega, by omega, rfl, fun s hs => by rw [show s = 0 by omega]; exact e1⟩ (by show T - _ < _; omega)
    rintro x ⟨t, ht1, ht, rfl, hb⟩ self hself
    unfold f_X3_isTurnedToDay_L32
    by_cases c1 : T ≤ t
    · rw [if_pos ((nI_leI (by omega) (by omega)).mpr c1)]
      exact ⟨_, rfl, Or.inl ⟨rfl, e, he, fun s hs => hb s (by omega)⟩⟩
    · have ht2 := hs.2.1 d t hd (by omega)
      have k4 := tu_lt (T := T) (c := c) (t := t) (by omega) (by omega)
      have k5 := tu_lt (T := T) (c := c) (t := g d t) (by omega) ht2.1
      have k6 := hs.2.1 e (tu T c t) he k4
      rw [if_neg (nI_ge (by omega) (by omega)), x3turn hT hT4 (by omega) hc, Option.bind_some, partner_in hs hX he k4, Option.bind_some, partner_in hs hX hd (by omega), Option.bind_some, x3turn hT hT4 ht2.1 hc, Option.bind_some]
      by_cases c2 : g e (tu T c t) = tu T c (g d t)
      · rw [if_pos (congrArg nI c2), bd_eq, nI_1]
        refine hself _ ⟨t + 1, by omega, by omega, rfl, fun s hs => ?_⟩ (by show T - (nI (t + 1)).toNatClampNeg < T - (nI t).toNatClampNeg; rw [nI_clamp (by omega), nI_clamp (by omega)]; omega)
        by_cases e3 : s = t
        · subst e3; exact c2
        · exact hb s (by omega)
      · rw [if_neg (fun h => c2 ((nI_eq (by omega) (by omega)).mp h))]
        refine ⟨_, rfl, Or.inr ⟨rfl, fun ⟨e', he', h'⟩ => c2 ?_⟩⟩
        have h5 := hs.2.2 e' e (tu T c 0) he' he k1 ((h' 0 (by omega)).trans e1.symm)
        rw [← h5]
        exact h' t (by omega)
  · rw [e2, if_pos rfl]
    exact ⟨_, rfl, Or.inr ⟨rfl, fun ⟨e', he', h'⟩ => h1 e' he' (h' 0 (by omega))⟩⟩
theorem tu_last (hT4 : 4 ≤ T) {c : Nat} : tu T c (T - 1) = T - 1 := by
  unfold tu
  rw [if_neg (by omega)]
theorem tu_low {c t : Nat} (h : t < T - 1) : tu T c t = (t + c) % (T - 1) := by
  unfold tu
  rw [if_pos (by omega)]
theorem x9isD (hs : Sok T N g) (hT4 : 4 ≤ T) (hM : PM no 0 T N g) {d c : Nat} (hd : d < N) (hc : c < T - 1) : ∃ r, f_X9_isDayBy no (nI d) (nI c) = some r ∧ ((r = 1 ∧ TD T N g c d) ∨ (r = 0 ∧ ¬ TD T N g c d)) := by
  have hT := hs.T14
  have hN := hs.N13
  have h0 := hs.2.1 d (T - 1) hd (by omega)
  have k1 := tu_low (T := T) (c := c) (t := g d (T - 1)) (by omega)
  have k2 := tu_lt (T := T) (c := c) (t := g d (T - 1)) (by omega) h0.1
  unfold f_X9_isDayBy
  rw [x9teams hM, Option.bind_some, bd_eq, show nI T - 1 = nI (T - 1) by rw [show (1 : Int32) = nI 1 from rfl, pk_sub (by omega)], x9meets hs 184 (by omega) (by omega) hM hd (by omega), Option.bind_some, if_pos (nI_ne0 (by omega) (by omega)), nI_add, pk_rem (by omega) (by omega) (by omega), ← k1, x9metOn hs 184 (by omega) (by omega) hM (by omega) k2, Option.bind_some]
  rcases mo_cases hs (T - 1) (tu T c (g d (T - 1))) (by omega) with ⟨e, he, e1, e2⟩ | ⟨h1, e2⟩
  · rw [e2, if_neg (fun h => by have h9 := nI_nm1 (a := e) (by omega); rw [h] at h9; exact h9.mp rfl)]
    refine lp_ex (I := fun x => ∃ t, t ≤ T - 1 ∧ x = nI t ∧ ∀ s, s < t → g e (tu T c s) = tu T c (g d s)) (ms := fun x => T - x.toNatClampNeg) (Post := fun r => (r = 1 ∧ TD T N g c d) ∨ (r = 0 ∧ ¬ TD T N g c d)) ?_ 20000 _ ⟨0, by omega, rfl, fun s hs => by omega⟩ (by show T - _ < _; omega)
    rintro x ⟨t, ht, rfl, hb⟩ self hself
    unfold f_X9_isDayBy_L41
    by_cases c1 : T - 1 ≤ t
    · rw [if_pos ((nI_leI (by omega) (by omega)).mpr c1)]
      refine ⟨_, rfl, Or.inl ⟨rfl, e, he, fun s hs => ?_⟩⟩
      by_cases e3 : s = T - 1
      · subst e3; rw [tu_last hT4]; exact e1
      · exact hb s (by omega)
    · have ht2 := hs.2.1 d t hd (by omega)
      have k4 := tu_lt (T := T) (c := c) (t := t) (by omega) (by omega)
      have k5 := tu_lt (T := T) (c := c) (t := g d t) (by omega) ht2.1
      have k6 := hs.2.1 e (tu T c t) he k4
      rw [if_neg (nI_ge (by omega) (by omega)), x9meets hs 184 (by omega) (by omega) hM hd (by omega), Option.bind_some, if_pos (nI_ne0 (by omega) (by omega)), nI_add, pk_rem (by omega) (by omega) (by omega), ← tu_low (show t < T - 1 by omega), x9meets hs 184 (by omega) (by omega) hM he k4, Option.bind_some]
      have hJ : ∃ r, f_X9_isDayBy_J90 self no (nI d) (nI c) (nI (T - 1)) (nI e) (nI t, nI (g e (tu T c t)), nI (tu T c (g d t))) = some r ∧ ((r = 1 ∧ TD T N g c d) ∨ (r = 0 ∧ ¬ TD T N g c d)) := by
        unfold f_X9_isDayBy_J90
        dsimp only
        by_cases c2 : g e (tu T c t) = tu T c (g d t)
        · rw [if_pos (congrArg nI c2), bd_eq, nI_1]
          refine hself _ ⟨t + 1, by omega, rfl, fun s hs => ?_⟩ (by show T - (nI (t + 1)).toNatClampNeg < T - (nI t).toNatClampNeg; rw [nI_clamp (by omega), nI_clamp (by omega)]; omega)
          by_cases e3 : s = t
          · subst e3; exact c2
          · exact hb s (by omega)
        · rw [if_neg (fun h => c2 ((nI_eq (by omega) (by omega)).mp h))]
          refine ⟨_, rfl, Or.inr ⟨rfl, fun ⟨e', he', h'⟩ => c2 ?_⟩⟩
          have h6 := h' (T - 1) (by omega)
          rw [tu_last hT4] at h6
          have h5 := hs.2.2 e' e (T - 1) he' he (by omega) (h6.trans e1.symm)
          rw [← h5]
          exact h' t (by omega)
      by_cases c3 : g d t = T - 1
      · rw [if_pos (congrArg nI c3)]
        rw [c3, tu_last hT4] at hJ
        exact hJ
      · rw [if_neg (fun h => c3 ((nI_eq (by omega) (by omega)).mp h)), if_pos (nI_ne0 (by omega) (by omega)), nI_add, pk_rem (by omega) (by omega) (by omega), ← tu_low (show g d t < T - 1 by omega)]
        exact hJ
  · rw [e2, if_pos rfl]
    refine ⟨_, rfl, Or.inr ⟨rfl, fun ⟨e', he', h'⟩ => h1 e' he' ?_⟩⟩
    have := h' (T - 1) (by omega)
    rw [tu_last hT4] at this
    exact this
def TSet (T N : Nat) (g : Nat → Nat → Nat) (s : Int32) (x : Nat) : Prop := ∀ i, i < 32 → (bt s i = true ↔ i < x ∧ ∀ d, d < N → TD T N g i d)
theorem TSet.nay {s : Int32} {x : Nat} (h : TSet T N g s x) (hn : ¬ ∀ d, d < N → TD T N g x d) : TSet T N g s (x + 1) := by
  intro i hi
  rw [h i hi]
  constructor
  · intro h2; exact ⟨by omega, h2.2⟩
  · intro h2
    refine ⟨?_, h2.2⟩
    by_cases e : i = x
    · subst e; exact absurd h2.2 hn
    · omega
theorem TSet.yes {s : Int32} {x : Nat} (hx : x < 32) (h : TSet T N g s x) (hn : ∀ d, d < N → TD T N g x d) : TSet T N g (s ||| ((1 : Int32) <<< (nI x &&& 31))) (x + 1) := by
  intro i hi
  rw [b_or, b_sh1 x hx hi, Bool.or_eq_true, h i hi, decide_eq_true_iff]
  constructor
  · rintro (h2 | h2)
    · exact ⟨by omega, h2.2⟩
    · subst h2; exact ⟨by omega, hn⟩
  · intro h2
    by_cases e : i = x
    · exact Or.inr e
    · exact Or.inl ⟨by omega, h2.2⟩
theorem TSet.eq {s s' : Int32} {x : Nat} (h : TSet T N g s x) (h' : TSet T N g s' x) : s = s' := b_ext (fun i hi => by rw [Bool.eq_iff_iff, h i hi, h' i hi])
theorem TSet.zero : TSet T N g 0 0 := fun i hi => by
  rw [b_0]
  constructor
  · intro h; cases h
  · intro h; omega
theorem x3turns (hs : Sok T N g) (hT4 : 4 ≤ T) (hX : PX te da ro T N g) : ∃ r, f_X3_turns te da ro = some r ∧ TSet T N g r (T - 1) := by
  have hT := hs.T14
  have hN := hs.N13
  have hX2 := hX
  obtain ⟨rfl, rfl, -⟩ := hX2
  unfold f_X3_turns
  refine lp_ex (I := fun x => ∃ (s : Int32) (c : Nat), c ≤ T - 1 ∧ x = (s, nI c) ∧ TSet T N g s c) (ms := fun x => T - x.2.toNatClampNeg) (Post := fun r => TSet T N g r (T - 1)) ?_ 20000 _ ⟨0, 0, by omega, rfl, TSet.zero⟩ (by show T - _ < _; omega)
  rintro x ⟨s, c, hc, rfl, hS⟩ self hself
  unfold f_X3_turns_L4
  dsimp only
  rw [show nI T - 1 = nI (T - 1) by rw [show (1 : Int32) = nI 1 from rfl, pk_sub (by omega)]]
  by_cases c1 : T - 1 ≤ c
  · rw [if_pos ((nI_leI (by omega) (by omega)).mpr c1)]
    rw [show c = T - 1 by omega] at hS
    exact ⟨_, rfl, hS⟩
  · have hms : T - (nI (c + 1)).toNatClampNeg < T - (nI c).toNatClampNeg := by rw [nI_clamp (by omega), nI_clamp (by omega)]; omega
    rw [if_neg (nI_ge (by omega) (by omega))]
    refine lp_ex (I := fun x => ∃ (st : Int32) (d : Nat), d ≤ N ∧ x = (st, nI d) ∧ ((st = 1 ∧ ∀ e, e < d → TD T N g c e) ∨ (st = 0 ∧ ¬ ∀ e, e < N → TD T N g c e))) (ms := fun x => N - x.2.toNatClampNeg) (Post := fun r => TSet T N g r (T - 1)) ?_ 20000 _ ⟨1, 0, by omega, rfl, Or.inl ⟨rfl, fun e h => by omega⟩⟩ (by show N - _ < _; omega)
    rintro y ⟨st, d, hd, rfl, hst⟩ self2 hself2
    unfold f_X3_turns_L19
    dsimp only
    have hno : (¬ ∀ e, e < N → TD T N g c e) → ∃ r, f_X3_turns_J46 self (nI T) (nI N) ro (s, nI c, 0) = some r ∧ TSet T N g r (T - 1) := by
      intro hn
      unfold f_X3_turns_J46
      dsimp only
      rw [if_pos zer0, bd_eq, nI_1]
      exact hself _ ⟨s, c + 1, by omega, rfl, hS.nay hn⟩ hms
    by_cases c2 : N ≤ d
    · rw [if_pos ((nI_leI (by omega) (by omega)).mpr c2)]
      rcases hst with ⟨rfl, h⟩ | ⟨rfl, h⟩
      · unfold f_X3_turns_J46
        dsimp only
        rw [if_neg one0, bd_eq, bd_eq, nI_1]
        exact hself _ ⟨_, c + 1, by omega, rfl, hS.yes (by omega) (fun d hd => h d (by omega))⟩ hms
      · exact hno h
    · rw [if_neg (nI_ge (by omega) (by omega))]
      rcases hst with ⟨rfl, h⟩ | ⟨rfl, h⟩
      · obtain ⟨r, e1, h1⟩ := x3isT hs hT4 hX (show d < N by omega) (show c < T - 1 by omega)
        rw [if_neg one0, e1, Option.bind_some, bd_eq, nI_1]
        refine hself2 _ ⟨r, d + 1, by omega, rfl, ?_⟩ (by show N - (nI (d + 1)).toNatClampNeg < N - (nI d).toNatClampNeg; rw [nI_clamp (by omega), nI_clamp (by omega)]; omega)
        rcases h1 with ⟨rfl, h1⟩ | ⟨rfl, h1⟩
        · refine Or.inl ⟨rfl, fun e he => ?_⟩
          by_cases e3 : e = d
          · subst e3; exact h1
          · exact h e (by omega)
        · exact Or.inr ⟨rfl, fun h2 => h1 (h2 d (by omega))⟩
      · rw [if_pos zer0]
        exact hno h
theorem x9turned (hs : Sok T N g) (hT4 : 4 ≤ T) (hM : PM no 0 T N g) (th : Int32) : ∃ r, f_X9_turned th no = some (r, 0) ∧ TSet T N g r (T - 1) := by
  have hT := hs.T14
  have hN := hs.N13
  have key : ∃ r, f_X9_turned th no = some r ∧ (r.2 = 0 ∧ TSet T N g r.1 (T - 1)) := by
    unfold f_X9_turned
    rw [x9teams hM, Option.bind_some, if_neg (nI_ne0 (by omega) (by omega))]
    refine lp_ex (I := fun x => ∃ (s : Int32) (c : Nat), c ≤ T - 1 ∧ x = (s, nI c) ∧ TSet T N g s c) (ms := fun x => T - x.2.toNatClampNeg) (Post := fun r : Int32 × Int32 => (r.2 = 0 ∧ TSet T N g r.1 (T - 1))) ?_ 20000 _ ⟨0, 0, by omega, rfl, TSet.zero⟩ (by show T - _ < _; omega)
    rintro x ⟨s, c, hc, rfl, hS⟩ self hself
    unfold f_X9_turned_L18
    dsimp only
    rw [x9teams hM, Option.bind_some, show nI T - 1 = nI (T - 1) by rw [show (1 : Int32) = nI 1 from rfl, pk_sub (by omega)]]
    by_cases c1 : T - 1 ≤ c
    · rw [if_pos ((nI_leI (by omega) (by omega)).mpr c1)]
      rw [show c = T - 1 by omega] at hS
      exact ⟨_, rfl, rfl, hS⟩
    · have hms : T - (nI (c + 1)).toNatClampNeg < T - (nI c).toNatClampNeg := by rw [nI_clamp (by omega), nI_clamp (by omega)]; omega
      rw [if_neg (nI_ge (by omega) (by omega))]
      refine lp_ex (I := fun x => ∃ (st : Int32) (d : Nat), d ≤ N ∧ x = (st, nI d) ∧ ((st = 1 ∧ ∀ e, e < d → TD T N g c e) ∨ (st = 0 ∧ ¬ ∀ e, e < N → TD T N g c e))) (ms := fun x => N - x.2.toNatClampNeg) (Post := fun r : Int32 × Int32 => (r.2 = 0 ∧ TSet T N g r.1 (T - 1))) ?_ 20000 _ ⟨1, 0, by omega, rfl, Or.inl ⟨rfl, fun e h => by omega⟩⟩ (by show N - _ < _; omega)
      rintro y ⟨st, d, hd, rfl, hst⟩ self2 hself2
      unfold f_X9_turned_L33
      dsimp only
      rw [x9days hM, Option.bind_some]
      have hms2 : ¬ N ≤ d → N - (nI (d + 1)).toNatClampNeg < N - (nI d).toNatClampNeg := by intro h; rw [nI_clamp (by omega), nI_clamp (by omega)]; omega
      by_cases c2 : N ≤ d
      · rw [if_pos ((nI_leI (by omega) (by omega)).mpr c2)]
        rcases hst with ⟨rfl, h⟩ | ⟨rfl, h⟩
        · rw [if_neg one0, bd_eq, bd_eq, nI_1]
          exact hself _ ⟨_, c + 1, by omega, rfl, hS.yes (by omega) (fun d hd => h d (by omega))⟩ hms
        · rw [if_pos zer0, bd_eq, nI_1]
          exact hself _ ⟨s, c + 1, by omega, rfl, hS.nay h⟩ hms
      · rw [if_neg (nI_ge (by omega) (by omega))]
        rcases hst with ⟨rfl, h⟩ | ⟨rfl, h⟩
        · obtain ⟨r, e1, h1⟩ := x9isD hs hT4 hM (show d < N by omega) (show c < T - 1 by omega)
          rw [if_neg one0, e1, Option.bind_some]
          rcases h1 with ⟨rfl, h1⟩ | ⟨rfl, h1⟩
          · rw [if_neg one0, bd_eq, nI_1]
            refine hself2 _ ⟨1, d + 1, by omega, rfl, Or.inl ⟨rfl, fun e he => ?_⟩⟩ (hms2 c2)
            by_cases e3 : e = d
            · subst e3; exact h1
            · exact h e (by omega)
          · rw [if_pos zer0, bd_eq, nI_1]
            exact hself2 _ ⟨0, d + 1, by omega, rfl, Or.inr ⟨rfl, fun h2 => h1 (h2 d (by omega))⟩⟩ (hms2 c2)
        · rw [if_pos zer0, bd_eq, nI_1]
          exact hself2 _ ⟨0, d + 1, by omega, rfl, Or.inr ⟨rfl, h⟩⟩ (hms2 c2)
  obtain ⟨⟨r, r2⟩, e1, h1, h2⟩ := key
  dsimp only at h1 h2
  subst h1
  exact ⟨r, e1, h2⟩
end
theorem st_18 : St_18 rd_Inv := by
  intro k
  intros
  rename_i hk hI
  have hI' := st_m k _ _ _ _ _ _ _ _ _ _ _ _ _ _ _ _ _ _ _ _ _ _ _ _ _ hI
  obtain ⟨⟨T, N, g, hs, hX, hM⟩, -⟩ := hI
  have hT := hs.T14
  have eT := hX.1
  unfold f_X8_turned
  by_cases c0 : T = 0
  · have e9 : ∀ th, f_X9_turned th _ = some (-1, 0) := fun th => by
      unfold f_X9_turned
      rw [x9teams hM, Option.bind_some, if_pos (by rw [c0]; rfl)]
    rw [eT, if_pos (by rw [c0]; rfl)]
    rw [eT] at hI'
    exact ⟨_, _, _, rfl, e9 _, rfl, hI'⟩
  · have hT4 : 4 ≤ T := by have := hs.1; omega
    obtain ⟨r, e1, h1⟩ := x3turns hs hT4 hX
    obtain ⟨r9, e9, h9⟩ := x9turned hs hT4 hM _
    have ne : ¬ nI T = 0 := nI_ne0 (by omega) (by omega)
    rw [eT] at e1 hI' ⊢
    rw [if_neg ne, e1, Option.bind_some]
    exact ⟨_, _, _, rfl, e9, h1.eq h9, hI'⟩
