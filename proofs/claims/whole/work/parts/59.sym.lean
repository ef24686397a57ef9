/-! OURS: sets that a fixed-point-free involution keeps are even; rings don't depend on the order of the days -/
theorem pct_congr : ∀ (n : Nat) (p q : Nat → Bool), (∀ i, i < n → p i = q i) → pct n p = pct n q
  | 0, _, _, _ => rfl
  | n + 1, p, q, h => by
    show pct n p + _ = pct n q + _
    rw [pct_congr n p q (fun i hi => h i (by omega)), h n (by omega)]
/-- one less -/
theorem pct_del : ∀ (n : Nat) (p : Nat → Bool) (a : Nat), a < n → p a = true → pct n p = pct n (fun i => p i && !decide (i = a)) + 1
  | 0, _, _, h, _ => by omega
  | n + 1, p, a, h, hp => by
    show pct n p + _ = pct n (fun i => p i && !decide (i = a)) + _ + 1
    by_cases e : a = n
    · subst e
      rw [hp, pct_congr a (fun i => p i && !decide (i = a)) p (fun i hi => by rw [decide_eq_false (by omega : ¬ i = a)]; simp)]
      simp
    · rw [pct_del n p a (by omega) hp]
      have e9 : decide (n = a) = false := decide_eq_false (fun h => e h.symm)
      simp only [e9, Bool.not_false, Bool.and_true]
      omega
theorem pct_pos : ∀ (n : Nat) (p : Nat → Bool), 0 < pct n p → ∃ i, i < n ∧ p i = true
  | 0, _, h => by cases h
  | n + 1, p, h => by
    cases hp : p n with
    | true => exact ⟨n, by omega, hp⟩
    | false =>
      have h' : 0 < pct n p + (if p n then 1 else 0) := h
      rw [hp] at h'
      obtain ⟨i, hi, hpi⟩ := pct_pos n p (by simpa using h')
      exact ⟨i, by omega, hpi⟩
theorem even_inv (n : Nat) (u : Nat → Nat) (hu : ∀ i, i < n → u i < n ∧ u i ≠ i ∧ u (u i) = i) : ∀ (m : Nat) (p : Nat → Bool), pct n p ≤ m → (∀ i, i < n → p i = true → p (u i) = true) → pct n p % 2 = 0 := by
  intro m
  induction m using Nat.strongRecOn with
  | ind m ih =>
    intro p hm hc
    by_cases h0 : pct n p = 0
    · rw [h0]
    · obtain ⟨a, ha, hpa⟩ := pct_pos n p (by omega)
      obtain ⟨h1, h2, h3⟩ := hu a ha
      have hpu := hc a ha hpa
      have e1 := pct_del n p a ha hpa
      have e2 := pct_del n (fun i => p i && !decide (i = a)) (u a) h1 (by simp [hpu, h2])
      have h4 := ih (m - 2) (by omega) (fun i => (p i && !decide (i = a)) && !decide (i = u a)) (by omega) (fun i hi h => by
        simp only [Bool.and_eq_true, Bool.not_eq_true', decide_eq_false_iff_not] at h ⊢
        obtain ⟨⟨hp, hna⟩, hnu⟩ := h
        refine ⟨⟨hc i hi hp, fun e => hnu ?_⟩, fun e => hna ?_⟩
        · rw [← e, (hu i hi).2.2]
        · rw [← (hu i hi).2.2, e, h3])
      omega
section
variable {T N : Nat} {g : Nat → Nat → Nat}
/-- a set that two days keep, with a team in it, has its ring in it -/
theorem rgF_least (hs : Sok T N g) {d e : Nat} (hd : d < N) (he : e < N) (C : Nat → Prop) (hu : ∀ i, i < T → C i → C (g d i)) (hv : ∀ i, i < T → C i → C (g e i)) : ∀ (n : Nat) (s : Int32) (t : Nat), t < T → C t → (∀ i, i < 32 → bt s i = true → C i) → ∀ i, i < 32 → bt (rgF (g d) (g e) n s t) i = true → C i := by
  have hT := hs.T14
  intro n
  induction n with
  | zero => intro s t _ _ h; exact h
  | succ n ih =>
    intro s t ht hC h
    show ∀ i, i < 32 → bt (if bt s t then s else _) i = true → C i
    split
    · exact h
    · have h1 := hs.2.1 d t hd ht
      have h2 := hs.2.1 e (g d t) he h1.1
      refine ih _ _ h2.1 (hv _ h1.1 (hu _ ht hC)) (fun i hi hb => ?_)
      rw [bt_add s t (g d t) (by omega) (by omega) hi] at hb
      cases hbs : bt s i with
      | true => exact h i hi hbs
      | false =>
        rw [hbs] at hb
        simp at hb
        rcases hb with rfl | rfl
        · exact hC
        · exact hu _ ht hC
/-- the ring is kept by both days -/
theorem rgF_closed (hs : Sok T N g) {d e : Nat} (hd : d < N) (he : e < N) (t0 : Nat) (ht0 : t0 < T) : ∀ (n : Nat) (s : Int32) (t : Nat), t < T → cnt T s ≤ n → (∀ i, i < 32 → bt s i = true → i < T) → (∀ i, i < T → bt s i = true → bt s (g d i) = true) → ((s = 0 ∧ t = t0) ∨ (bt s t0 = true ∧ bt s (g e t) = true ∧ ∀ i, i < T → bt s i = true → i ≠ t0 → i ≠ g e t → bt s (g e i) = true)) →
    ∀ i, i < T → bt (rgF (g d) (g e) n s t) i = true → bt (rgF (g d) (g e) n s t) (g d i) = true ∧ bt (rgF (g d) (g e) n s t) (g e i) = true := by
  have hT := hs.T14
  -- the end: the next team is in the set
  have fin : ∀ (s : Int32) (t : Nat), t < T → bt s t = true → (∀ i, i < 32 → bt s i = true → i < T) → (∀ i, i < T → bt s i = true → bt s (g d i) = true) → ((s = 0 ∧ t = t0) ∨ (bt s t0 = true ∧ bt s (g e t) = true ∧ ∀ i, i < T → bt s i = true → i ≠ t0 → i ≠ g e t → bt s (g e i) = true)) → ∀ i, i < T → bt s i = true → bt s (g d i) = true ∧ bt s (g e i) = true := by
    intro s t ht hb hsub hu hor i hi hbi
    refine ⟨hu i hi hbi, ?_⟩
    rcases hor with ⟨rfl, _⟩ | ⟨h0, h1, h2⟩
    · rw [b_0] at hb; cases hb
    have hge := hs.2.1 e t he ht
    have hall : ∀ j, j < T → bt s j = true → j ≠ t0 → bt s (g e j) = true := by
      intro j hj hbj hjt
      by_cases e1 : j = g e t
      · rw [e1, hge.2.2]; exact hb
      · exact h2 j hj hbj hjt e1
    by_cases e0 : i = t0
    · subst e0
      cases hq : bt s (g e i) with
      | true => rfl
      | false =>
        exfalso
        have k1 := even_inv T (g d) (fun j hj => hs.2.1 d j hd hj) T (bt s) (pct_max _ _) hu
        have k2 := even_inv T (g e) (fun j hj => hs.2.1 e j he hj) T (fun j => bt s j && !decide (j = i)) (pct_max _ _) (fun j hj h => by
          simp only [Bool.and_eq_true, Bool.not_eq_true', decide_eq_false_iff_not] at h ⊢
          refine ⟨hall j hj h.1 h.2, fun e1 => ?_⟩
          have : g e i = j := by rw [← e1, (hs.2.1 e j he hj).2.2]
          rw [this, h.1] at hq
          cases hq)
        have k3 := pct_del T (bt s) i hi hbi
        omega
    · exact hall i hi hbi e0
  intro n
  induction n with
  | zero =>
    intro s t ht hc hsub hu hor
    have hb : bt s t = true := by
      have := pct_0 T _ (Nat.le_zero.mp hc) t ht
      simpa using this
    exact fin s t ht hb hsub hu hor
  | succ n ih =>
    intro s t ht hc hsub hu hor
    show ∀ i, i < T → bt (if bt s t then s else _) i = true → bt (if bt s t then s else _) (g d i) = true ∧ bt (if bt s t then s else _) (g e i) = true
    cases hb : bt s t with
    | true => exact fin s t ht hb hsub hu hor
    | false =>
      have h1 := hs.2.1 d t hd ht
      have h2 := hs.2.1 e (g d t) he h1.1
      have hge := hs.2.1 e t he ht
      have ba : ∀ i, i < 32 → bt (s ||| (((1 : Int32) <<< (nI t &&& 31)) ||| ((1 : Int32) <<< (nI (g d t) &&& 31)))) i = (bt s i || (decide (i = t) || decide (i = g d t))) := fun i hi => bt_add s t (g d t) (by omega) (by omega) hi
      refine ih _ _ h2.1 (by have := cnt_add hT s ht h1.1 hb; omega) (fun i hi h => ?_) (fun i hi h => ?_) (Or.inr ⟨?_, ?_, fun i hi h hi0 hie => ?_⟩)
      · rw [ba i hi] at h
        simp at h
        rcases h with h | rfl | rfl
        · exact hsub i hi h
        · exact ht
        · exact h1.1
      · have hgi := hs.2.1 d i hd hi
        rw [ba _ (by omega)] at h ⊢
        simp at h ⊢
        rcases h with h | rfl | rfl
        · exact Or.inl (hu i hi h)
        · exact Or.inr (Or.inr rfl)
        · exact Or.inr (Or.inl h1.2.2)
      · rw [ba _ (by omega)]
        simp
        rcases hor with ⟨_, rfl⟩ | ⟨h0, _⟩
        · exact Or.inr (Or.inl rfl)
        · exact Or.inl h0
      · rw [ba _ (by rw [h2.2.2]; omega), h2.2.2]
        simp
      · have hgi := hs.2.1 e i he hi
        rw [ba _ (by omega)] at h ⊢
        rw [h2.2.2] at hie
        simp at h ⊢
        rcases h with h | rfl | rfl
        · rcases hor with ⟨h0, _⟩ | ⟨_, _, h3⟩
          · rw [h0, b_0] at h; cases h
          · by_cases e1 : i = g e t
            · exact Or.inr (Or.inl (by rw [e1, hge.2.2]))
            · exact Or.inl (h3 i hi h hi0 e1)
        · rcases hor with ⟨_, h0⟩ | ⟨_, h3, _⟩
          · exact absurd h0 hi0
          · exact Or.inl h3
        · exact absurd rfl hie
theorem rs_closed (hs : Sok T N g) {d e t i : Nat} (hd : d < N) (he : e < N) (ht : t < T) (hi : i < T) (h : bt (rs g d e t) i = true) : bt (rs g d e t) (g d i) = true ∧ bt (rs g d e t) (g e i) = true :=
  rgF_closed hs hd he t ht 14 0 t ht (cnt_max T hs.T14 _) (fun i _ h => by rw [b_0] at h; cases h) (fun i _ h => by rw [b_0] at h; cases h) (Or.inl ⟨rfl, rfl⟩) i hi h
theorem rs_sub (hs : Sok T N g) {d e t : Nat} (hd : d < N) (he : e < N) (ht : t < T) {i : Nat} (hi : i < 32) (h : bt (rs g d e t) i = true) : bt (rs g e d t) i = true := by
  have hT := hs.T14
  exact rgF_least hs hd he (fun i => bt (rs g e d t) i = true) (fun i hi h => (rs_closed hs he hd ht hi h).2) (fun i hi h => (rs_closed hs he hd ht hi h).1) 14 0 t ht (rs_self hs he hd ht) (fun i _ h => by rw [b_0] at h; cases h) i hi h
theorem rs_comm (hs : Sok T N g) {d e t : Nat} (hd : d < N) (he : e < N) (ht : t < T) : rs g d e t = rs g e d t := by
  refine b_ext (fun i hi => ?_)
  cases h : bt (rs g e d t) i with
  | true => exact rs_sub hs he hd ht hi h
  | false =>
    cases h2 : bt (rs g d e t) i with
    | false => rfl
    | true => rw [rs_sub hs hd he ht hi h2] at h; cases h
theorem cmF_congr (R S : Nat → Int32) : ∀ m t s, (∀ j, t ≤ j → j < t + m → R j = S j) → cmF R m t s = cmF S m t s
  | 0, _, _, _ => rfl
  | m + 1, t, s, h => by
    show (if bt s t then cmF R m (t + 1) s else cmF R m (t + 1) (s ||| R t) + 1) = (if bt s t then cmF S m (t + 1) s else cmF S m (t + 1) (s ||| S t) + 1)
    rw [h t (by omega) (by omega), cmF_congr R S m (t + 1) s (fun j h1 h2 => h j (by omega) (by omega)), cmF_congr R S m (t + 1) (s ||| S t) (fun j h1 h2 => h j (by omega) (by omega))]
theorem rc_comm (hs : Sok T N g) {d e : Nat} (hd : d < N) (he : e < N) : rc T g d e = rc T g e d := cmF_congr _ _ T 0 0 (fun j _ h => rs_comm hs hd he (by omega))
theorem cmF_0 (R : Nat → Int32) : ∀ m t s, cmF R m t s = 0 ↔ ∀ j, t ≤ j → j < t + m → bt s j = true
  | 0, _, _ => ⟨fun _ j h1 h2 => by omega, fun _ => rfl⟩
  | m + 1, t, s => by
    have e : cmF R (m + 1) t s = if bt s t then cmF R m (t + 1) s else cmF R m (t + 1) (s ||| R t) + 1 := rfl
    rw [e]
    cases hb : bt s t with
    | true =>
      show cmF R m (t + 1) s = 0 ↔ _
      rw [cmF_0 R m (t + 1) s]
      constructor
      · intro h j h1 h2
        by_cases e1 : j = t
        · rw [e1]; exact hb
        · exact h j (by omega) (by omega)
      · intro h j h1 h2
        exact h j (by omega) (by omega)
    | false =>
      constructor
      · intro h
        have h' : cmF R m (t + 1) (s ||| R t) + 1 = 0 := h
        omega
      · intro h
        rw [h t (by omega) (by omega)] at hb
        cases hb
/-- two days make one ring just if the ring of the first team is all -/
theorem rc_one (hs : Sok T N g) {d e : Nat} (hd : d < N) (he : e < N) : (rs g d e 0 = ((1 : Int32) <<< (nI T &&& 31)) - 1) ↔ rc T g d e = 1 := by
  have hT := hs.T14
  have hT0 : 0 < T := by rcases hs.1 with h | h <;> omega
  have e1 : rc T g d e = cmF (rs g d e) (T - 1) 1 (0 ||| rs g d e 0) + 1 := by
    unfold rc
    rw [show T = (T - 1) + 1 by omega]
    show (if bt 0 0 then _ else _) = _
    rw [b_0]
    simp
  have e2 : (0 : Int32) ||| rs g d e 0 = rs g d e 0 := by
    refine b_ext (fun i hi => ?_)
    rw [b_or, b_0]; rfl
  rw [e1, e2]
  constructor
  · intro h
    have : cmF (rs g d e) (T - 1) 1 (rs g d e 0) = 0 := (cmF_0 _ _ _ _).mpr (fun j h1 h2 => by rw [h, b_all T (by omega) j (by omega)]; exact decide_eq_true (by omega))
    omega
  · intro h
    have h0 := (cmF_0 _ _ _ _).mp (show cmF (rs g d e) (T - 1) 1 (rs g d e 0) = 0 by omega)
    refine b_ext (fun i hi => ?_)
    rw [b_all T (by omega) i hi]
    by_cases hiT : i < T
    · rw [decide_eq_true hiT]
      by_cases e3 : i = 0
      · rw [e3]; exact rs_self hs hd he hT0
      · exact h0 i (by omega) (by omega)
    · rw [decide_eq_false hiT]
      cases hb : bt (rs g d e 0) i with
      | false => rfl
      | true => exact absurd (rs_in hs hd he hT0 hi hb) hiT
end
