/-! OURS: days in order; sort -/
theorem pct_inj_le : ∀ (n m : Nat) (f : Nat → Nat) (p : Nat → Bool), (∀ i, i < n → f i < m) → (∀ i j, i < n → j < n → f i = f j → i = j) → pct n (fun i => p (f i)) ≤ pct m p
  | 0, _, _, _, _, _ => Nat.zero_le _
  | n + 1, m, f, p, h, hi => by
    show pct n (fun i => p (f i)) + (if p (f n) then 1 else 0) ≤ pct m p
    cases hp : p (f n) with
    | false =>
      have := pct_inj_le n m f p (fun i hi => h i (by omega)) (fun i j h1 h2 => hi i j (by omega) (by omega))
      simpa using this
    | true =>
      have h1 := pct_inj_le n m f (fun i => p i && !decide (i = f n)) (fun i hi => h i (by omega)) (fun i j h1 h2 => hi i j (by omega) (by omega))
      rw [pct_del m p (f n) (h n (by omega)) hp]
      have h2 : pct n (fun i => p (f i)) = pct n (fun i => p (f i) && !decide (f i = f n)) := pct_congr n _ _ (fun i hi2 => by
        rw [decide_eq_false (fun e => by have := hi i n (by omega) (by omega) e; omega)]
        simp)
      rw [h2]
      show _ + 1 ≤ _
      exact Nat.succ_le_succ h1
theorem pct_not : ∀ (n : Nat) (p : Nat → Bool), pct n p + pct n (fun i => !p i) = n
  | 0, _ => rfl
  | n + 1, p => by
    have := pct_not n p
    show pct n p + (if p n then 1 else 0) + (pct n (fun i => !p i) + (if !p n then 1 else 0)) = n + 1
    cases p n <;> simp <;> omega
theorem pct_perm (n : Nat) (f : Nat → Nat) (p : Nat → Bool) (h : ∀ i, i < n → f i < n) (hi : ∀ i j, i < n → j < n → f i = f j → i = j) : pct n (fun i => p (f i)) = pct n p := by
  have h1 := pct_inj_le n n f p h hi
  have h2 := pct_inj_le n n f (fun i => !p i) h hi
  have h3 := pct_not n p
  have h4 := pct_not n (fun i => p (f i))
  have h2' : pct n (fun i => !p (f i)) ≤ pct n (fun i => !p i) := h2
  omega
theorem pct_lt_i : ∀ (n i : Nat), i ≤ n → pct n (fun j => decide (j < i)) = i
  | 0, i, h => by show 0 = i; omega
  | n + 1, i, h => by
    by_cases e : i = n + 1
    · subst e
      rw [← pct_t (decide_eq_true (by omega)), pct_congr n _ (fun j => decide (j < n)) (fun j hj => by rw [decide_eq_true (show j < n + 1 by omega), decide_eq_true hj]), pct_lt_i n n (Nat.le_refl _)]
    · rw [← pct_f (decide_eq_false (by omega)), pct_lt_i n i (by omega)]
/-- sorted by its keys -/
def PS (key : Nat → Nat) (n : Nat) (π : Nat → Nat) : Prop := (∀ i, i < n → π i < n) ∧ ∀ i j, i < j → j < n → key (π i) < key (π j)
def rk (key : Nat → Nat) (N d : Nat) : Nat := pct N (fun o => decide (key o < key d))
theorem PS.inj {key : Nat → Nat} {n : Nat} {π : Nat → Nat} (h : PS key n π) (i j : Nat) (hi : i < n) (hj : j < n) (e : π i = π j) : i = j := by
  rcases Nat.lt_trichotomy i j with c | c | c
  · have := h.2 i j c hj; rw [e] at this; omega
  · exact c
  · have := h.2 j i c hi; rw [e] at this; omega
theorem PS.rk_eq {key : Nat → Nat} {n : Nat} {π : Nat → Nat} (h : PS key n π) {i : Nat} (hi : i < n) : rk key n (π i) = i := by
  unfold rk
  rw [← pct_perm n π _ h.1 h.inj]
  refine (pct_congr n _ (fun j => decide (j < i)) (fun j hj => ?_)).trans (pct_lt_i n i (by omega))
  show decide (key (π j) < key (π i)) = decide (j < i)
  rw [Bool.eq_iff_iff, decide_eq_true_iff, decide_eq_true_iff]
  constructor
  · intro h2
    rcases Nat.lt_trichotomy i j with c | c | c
    · have := h.2 i j c hj; omega
    · subst c; omega
    · exact c
  · intro h2; exact h.2 j i h2 hi
theorem rk_inj {key : Nat → Nat} {n : Nat} {a b : Nat} (ha : a < n) (hb : b < n) (h : rk key n a = rk key n b) (hk : ∀ a b, a < n → b < n → key a = key b → a = b) : a = b := by
  rcases Nat.lt_trichotomy (key a) (key b) with c | c | c
  · have := pct_lt n (fun o => decide (key o < key a)) (fun o => decide (key o < key b)) a (fun i _ h2 => by
      have := of_decide_eq_true h2
      exact decide_eq_true (by omega)) ha (decide_eq_false (by omega)) (decide_eq_true c)
    unfold rk at h
    omega
  · exact hk a b ha hb c
  · have := pct_lt n (fun o => decide (key o < key b)) (fun o => decide (key o < key a)) b (fun i _ h2 => by
      have := of_decide_eq_true h2
      exact decide_eq_true (by omega)) hb (decide_eq_false (by omega)) (decide_eq_true c)
    unfold rk at h
    omega
theorem PS.uniq {key : Nat → Nat} {n : Nat} {π σ : Nat → Nat} (h : PS key n π) (h' : PS key n σ) (hk : ∀ a b, a < n → b < n → key a = key b → a = b) {i : Nat} (hi : i < n) : π i = σ i :=
  rk_inj (h.1 i hi) (h'.1 i hi) ((h.rk_eq hi).trans (h'.rk_eq hi).symm) hk
def ins (π : Nat → Nat) (d k j : Nat) : Nat := if j < k then π j else if j = k then d else if j ≤ d then π (j - 1) else π j
theorem ins_lt {π : Nat → Nat} {d k j : Nat} (h : j < k) : ins π d k j = π j := if_pos h
theorem ins_at {π : Nat → Nat} {d k : Nat} : ins π d k k = d := by
  unfold ins
  rw [if_neg (by omega), if_pos rfl]
theorem ins_gt {π : Nat → Nat} {d k j : Nat} (h : k < j) (h2 : j ≤ d) : ins π d k j = π (j - 1) := by
  unfold ins
  rw [if_neg (by omega), if_neg (by omega), if_pos h2]
theorem ins_out {π : Nat → Nat} {d k j : Nat} (h : k ≤ d) (h2 : d < j) : ins π d k j = π j := by
  unfold ins
  rw [if_neg (by omega), if_neg (by omega), if_neg (by omega)]
theorem ins_PS {key : Nat → Nat} {d k : Nat} {π : Nat → Nat} (h : PS key d π) (hk : k ≤ d) (h1 : ∀ i, i < k → key (π i) < key d) (h2 : ∀ i, k ≤ i → i < d → key d < key (π i)) : PS key (d + 1) (ins π d k) := by
  constructor
  · intro i hi
    rcases Nat.lt_trichotomy i k with c | c | c
    · rw [ins_lt c]; have := h.1 i (by omega); omega
    · subst c; rw [ins_at]; omega
    · rw [ins_gt c (by omega)]; have := h.1 (i - 1) (by omega); omega
  · intro i j hij hj
    rcases Nat.lt_trichotomy i k with c | c | c
    · rw [ins_lt c]
      rcases Nat.lt_trichotomy j k with c2 | c2 | c2
      · rw [ins_lt c2]; exact h.2 i j hij (by omega)
      · subst c2; rw [ins_at]; exact h1 i c
      · rw [ins_gt c2 (by omega)]
        exact Nat.lt_trans (h1 i c) (h2 (j - 1) (by omega) (by omega))
    · subst c
      rw [ins_at, ins_gt hij (by omega)]
      exact h2 (j - 1) (by omega) (by omega)
    · rw [ins_gt c (by omega), ins_gt (by omega) (by omega)]
      exact h.2 (i - 1) (j - 1) (by omega) (by omega)
theorem ins_self {π : Nat → Nat} {d : Nat} (h : ∀ j, d ≤ j → π j = j) (j : Nat) : ins π d d j = π j := by
  rcases Nat.lt_trichotomy j d with c | c | c
  · exact ins_lt c
  · subst c; rw [ins_at, h _ (Nat.le_refl _)]
  · exact ins_out (Nat.le_refl _) c
section
variable {T N : Nat} {g : Nat → Nat → Nat} {te da : Int32} {ro no : Nat → Int32} {o : Nat} {u v : Nat → Nat}
theorem sub_ge {x y : Nat} (hx : x < 2 ^ 30) (hy : y < 2 ^ 30) : (0 ≤ nI x - nI y) ↔ y ≤ x := by
  rw [Int32.le_iff_toInt_le, pk_sub_toInt hx hy]
  have : (0 : Int32).toInt = 0 := rfl
  omega
theorem sub_eq0 {x y : Nat} (hx : x < 2 ^ 30) (hy : y < 2 ^ 30) : (nI x - nI y = 0) ↔ x = y := by
  constructor
  · intro h
    have := congrArg Int32.toInt h
    rw [pk_sub_toInt hx hy] at this
    have h0 : (0 : Int32).toInt = 0 := rfl
    omega
  · intro h; rw [h, Int32.sub_self]
theorem x3order (hs : Sok T N g) (hX : PX te da ro T N g) {d e : Nat} (hd : d < N) (he : e < N) : ∃ r, f_X3_order te da ro (nI d) (nI e) = some r ∧ (0 ≤ r ↔ g e 0 ≤ g d 0) := by
  have hT := hs.T14
  have hT0 : 0 < T := by have := hs.1; omega
  have hX2 := hX
  obtain ⟨rfl, -, -⟩ := hX2
  unfold f_X3_order
  refine lp_ex (I := fun x => ∃ t, t ≤ T ∧ x = nI t ∧ (t = 0 ∨ d = e)) (ms := fun x => T - x.toNatClampNeg) (Post := fun r => (0 ≤ r ↔ g e 0 ≤ g d 0)) ?_ 20000 _ ⟨0, by omega, rfl, Or.inl rfl⟩ (by show T - _ < _; omega)
  rintro x ⟨t, ht, rfl, hor⟩ self hself
  unfold f_X3_order_L2
  by_cases c : T ≤ t
  · rw [if_pos ((nI_leI (by omega) (by omega)).mpr c)]
    refine ⟨_, rfl, ?_⟩
    have : d = e := by omega
    subst this
    exact ⟨fun _ => Nat.le_refl _, fun _ => Int32.le_refl _⟩
  · have h1 := hs.2.1 d t hd (by omega)
    have h2 := hs.2.1 e t he (by omega)
    rw [if_neg (nI_ge (by omega) (by omega)), partner_in hs hX hd (by omega), Option.bind_some, partner_in hs hX he (by omega), Option.bind_some, bd_eq]
    by_cases c2 : g d t = g e t
    · rw [if_pos ((sub_eq0 (by omega) (by omega)).mpr c2), bd_eq, nI_1]
      exact hself _ ⟨t + 1, by omega, rfl, Or.inr (hs.2.2 d e t hd he (by omega) c2)⟩ (by show T - (nI (t + 1)).toNatClampNeg < T - (nI t).toNatClampNeg; rw [nI_clamp (by omega), nI_clamp (by omega)]; omega)
    · rw [if_neg (fun h => c2 ((sub_eq0 (by omega) (by omega)).mp h))]
      refine ⟨_, rfl, ?_⟩
      rcases hor with rfl | rfl
      · exact sub_ge (by omega) (by omega)
      · exact absurd rfl c2
theorem x9isLess (hs : Sok T N g) (hM : PM no 0 T N g) {d e : Nat} (hd : d < N) (he : e < N) (hde : d ≠ e) : f_X9_isLess no (nI d) (nI e) = some (if g e 0 ≤ g d 0 then 0 else 1) := by
  have hT := hs.T14
  have hT0 : 0 < T := by have := hs.1; omega
  have h1 := hs.2.1 d 0 hd hT0
  have h2 := hs.2.1 e 0 he hT0
  unfold f_X9_isLess
  rw [lp_s]
  unfold f_X9_isLess_L2
  rw [show f_X9_meets 184 no (nI d) (0 : Int32) = _ from x9meets hs 184 (by omega) (by omega) hM hd hT0, Option.bind_some, show f_X9_meets 184 no (nI e) (0 : Int32) = _ from x9meets hs 184 (by omega) (by omega) hM he hT0, Option.bind_some, if_neg (fun h => hde (hs.2.2 d e 0 hd he hT0 ((nI_eq (by omega) (by omega)).mp h)))]
  by_cases c : g e 0 ≤ g d 0
  · rw [if_pos c]
    show (if nI (g e 0) ≤ nI (g d 0) then _ else _) = _
    rw [if_pos ((nI_leI (by omega) (by omega)).mpr c)]
  · rw [if_neg c]
    show (if nI (g e 0) ≤ nI (g d 0) then _ else _) = _
    rw [if_neg (fun h => c ((nI_leI (by omega) (by omega)).mp h))]
theorem x3out (hs : Sok T N g) (hX : PX te da ro T N g) : f_X3_outOfOrder te da ro = some (nI (pct N (fun d => decide (rk (fun o => g o 0) N d ≠ d)))) := by
  have hN := hs.N13
  have hX2 := hX
  obtain ⟨rfl, rfl, -⟩ := hX2
  unfold f_X3_outOfOrder
  refine lp_spec (I := fun x => ∃ d, d ≤ N ∧ x = (nI (pct d (fun d => decide (rk (fun o => g o 0) N d ≠ d))), nI d)) (ms := fun x => N - x.2.toNatClampNeg) (res := fun _ => some (nI (pct N (fun d => decide (rk (fun o => g o 0) N d ≠ d))))) ?_ 20000 _ ⟨0, by omega, rfl⟩ (by show N - _ < _; omega)
  rintro x ⟨d, hd, rfl⟩ self hself
  unfold f_X3_outOfOrder_L4
  dsimp only
  by_cases c : N ≤ d
  · rw [if_pos ((nI_leI (by omega) (by omega)).mpr c), show d = N by omega]
  · have hms : N - (nI (d + 1)).toNatClampNeg < N - (nI d).toNatClampNeg := by rw [nI_clamp (by omega), nI_clamp (by omega)]; omega
    rw [if_neg (nI_ge (by omega) (by omega))]
    refine lp_spec (I := fun x => ∃ e, e ≤ N ∧ x = (nI (pct e (fun o => decide (g o 0 < g d 0))), nI e)) (ms := fun x => N - x.2.toNatClampNeg) (res := fun _ => some (nI (pct N (fun d => decide (rk (fun o => g o 0) N d ≠ d))))) ?_ 20000 _ ⟨0, by omega, rfl⟩ (by show N - _ < _; omega)
    rintro y ⟨e, he, rfl⟩ self2 hself2
    unfold f_X3_outOfOrder_L17
    dsimp only
    by_cases c2 : N ≤ e
    · have hr : rk (fun o => g o 0) N d ≤ N := pct_max _ _
      rw [if_pos ((nI_leI (by omega) (by omega)).mpr c2), show e = N by omega]
      by_cases c3 : rk (fun o => g o 0) N d = d
      · rw [if_pos (show nI (pct N (fun o => decide (g o 0 < g d 0))) = nI d from congrArg nI c3), bd_eq, nI_1]
        exact hself _ ⟨d + 1, by omega, by rw [← pct_f (decide_eq_false (fun h => h c3))]⟩ hms
      · rw [if_neg (show ¬ nI (pct N (fun o => decide (g o 0 < g d 0))) = nI d from fun h => c3 ((nI_eq (by omega) (by omega)).mp h)), bd_eq, bd_eq, nI_1, nI_1]
        exact hself _ ⟨d + 1, by omega, by rw [← pct_t (decide_eq_true c3)]⟩ hms
    · have hms2 : N - (nI (e + 1)).toNatClampNeg < N - (nI e).toNatClampNeg := by rw [nI_clamp (by omega), nI_clamp (by omega)]; omega
      obtain ⟨r, e1, h1⟩ := x3order hs hX (show e < N by omega) (show d < N by omega)
      rw [if_neg (nI_ge (by omega) (by omega)), e1, Option.bind_some]
      by_cases c3 : 0 ≤ r
      · rw [if_pos c3, bd_eq, nI_1]
        have := h1.mp c3
        exact hself2 _ ⟨e + 1, by omega, by rw [← pct_f (decide_eq_false (by omega))]⟩ hms2
      · rw [if_neg c3, bd_eq, bd_eq, nI_1, nI_1]
        have : ¬ g d 0 ≤ g e 0 := fun h => c3 (h1.mpr h)
        exact hself2 _ ⟨e + 1, by omega, by rw [← pct_t (decide_eq_true (by omega))]⟩ hms2
/-- days put elsewhere -/
def pmg (g : Nat → Nat → Nat) (π : Nat → Nat) (d t : Nat) : Nat := g (π d) t
theorem Sok.pm (hs : Sok T N g) {π : Nat → Nat} (h1 : ∀ i, i < N → π i < N) (h2 : ∀ i j, i < N → j < N → π i = π j → i = j) : Sok T N (pmg g π) :=
  ⟨hs.1, fun d t hd ht => hs.2.1 _ t (h1 d hd) ht, fun d e t hd he ht h => h2 d e hd he (hs.2.2 _ _ t (h1 d hd) (h1 e he) ht h)⟩
theorem x3swapDays (hN : N ≤ 13) (ro : Nat → Int32) {d e : Nat} (hd : d < N) (he : e < N) (hde : d ≠ e) : ∃ ro', f_X3_swapDays (nI N) ro (nI d) (nI e) = some ro' ∧ ∀ c t, t < 14 → ro' (14 * c + t) = if c = d then ro (14 * e + t) else if c = e then ro (14 * d + t) else ro (14 * c + t) := by
  unfold f_X3_swapDays
  rw [x3hasDays_in (by omega) hd he hde, Option.bind_some, if_neg one0]
  refine lp_ex (I := fun x => ∃ (s : Nat) (f : Nat → Int32), s ≤ 14 ∧ x = (nI s, f) ∧ (∀ c t, t < s → f (14 * c + t) = if c = d then ro (14 * e + t) else if c = e then ro (14 * d + t) else ro (14 * c + t)) ∧ ∀ c t, s ≤ t → t < 14 → f (14 * c + t) = ro (14 * c + t)) (ms := fun x => 14 - x.1.toNatClampNeg) (Post := fun ro' : Nat → Int32 => ∀ c t, t < 14 → ro' (14 * c + t) = if c = d then ro (14 * e + t) else if c = e then ro (14 * d + t) else ro (14 * c + t)) ?_ 20000 _ ⟨0, ro, by omega, rfl, fun c t h => by omega, fun c t _ _ => rfl⟩ (by show 14 - _ < _; omega)
  rintro x ⟨s, f, hs, rfl, f1, f2⟩ self hself
  unfold f_X3_swapDays_L12
  dsimp only
  by_cases cs : s = 14
  · subst cs
    rw [if_pos (by decide)]
    exact ⟨_, rfl, f1⟩
  · rw [if_neg (show ¬ (14 : Int32) ≤ nI s from nI_ge (b := 14) (by omega) (by omega)), x3ixe, x3ixe, if_pos (inb_ok (by omega) (by omega)), bd_eq, if_pos (inb_ok (by omega) (by omega)), if_pos (inb_ok (by omega) (by omega)), bd_eq, if_pos (inb_ok (by omega) (by omega)), bd_eq, bd_eq, nI_1, nI_clamp (by omega), nI_clamp (by omega), f2 d s (by omega) (by omega), f2 e s (by omega) (by omega)]
    refine hself _ ⟨s + 1, _, by omega, rfl, fun c t ht => ?_, fun c t h1 h2 => ?_⟩ (by show 14 - (nI (s + 1)).toNatClampNeg < 14 - (nI s).toNatClampNeg; rw [nI_clamp (by omega), nI_clamp (by omega)]; omega)
    · by_cases e1 : t = s
      · subst e1
        by_cases c1 : c = e
        · subst c1
          rw [upd_at, if_neg (fun h => hde h.symm), if_pos rfl]
        · rw [upd_ne _ _ (by omega)]
          by_cases c2 : c = d
          · subst c2
            rw [upd_at, if_pos rfl]
          · rw [upd_ne _ _ (by omega), if_neg c2, if_neg c1]
            exact f2 c t (by omega) (by omega)
      · rw [upd_ne _ _ (by omega), upd_ne _ _ (by omega)]
        exact f1 c t (by omega)
    · rw [upd_ne _ _ (by omega), upd_ne _ _ (by omega)]
      exact f2 c t (by omega) h2
theorem x3put (hs : Sok T N g) (hX : PX te da ro T N g) : ∃ ro' π, f_X3_putInOrder te da ro = some ro' ∧ PS (fun o => g o 0) N π ∧ PX te da ro' T N (pmg g π) := by
  have hN := hs.N13
  have hT := hs.T14
  obtain ⟨rfl, rfl, hr⟩ := hX
  have hk : ∀ a b, a < N → b < N → g a 0 = g b 0 → a = b := fun a b ha hb h => hs.2.2 a b 0 ha hb (by have := hs.1; omega) h
  have key : ∃ r, f_X3_putInOrder (nI T) (nI N) ro = some r ∧ ∃ π, PS (fun o => g o 0) N π ∧ PX (nI T) (nI N) r T N (pmg g π) := by
    unfold f_X3_putInOrder
    refine lp_ex (I := fun x => ∃ (d : Nat) (π : Nat → Nat) (f : Nat → Int32), 1 ≤ d ∧ (d ≤ N ∨ d = 1) ∧ x = (nI d, f) ∧ PS (fun o => g o 0) d π ∧ (∀ j, d ≤ j → π j = j) ∧ ∀ e t, e < N → t < T → f (14 * e + t) = nI (g (π e) t)) (ms := fun x => N + 1 - x.1.toNatClampNeg) (Post := fun r => ∃ π, PS (fun o => g o 0) N π ∧ PX (nI T) (nI N) r T N (pmg g π)) ?_ 20000 _ ⟨1, fun j => j, ro, by omega, Or.inr rfl, rfl, ⟨fun i h => h, fun i j h1 h2 => by omega⟩, fun j _ => rfl, fun e t he ht => hr e t he ht⟩ (by show N + 1 - _ < _; omega)
    rintro x ⟨d, π, f, hd1, hd, rfl, hp, hpi, hf⟩ self hself
    unfold f_X3_putInOrder_L2
    dsimp only
    by_cases c : N ≤ d
    · rw [if_pos ((nI_leI (by omega) (by omega)).mpr c)]
      refine ⟨_, rfl, π, ⟨fun i hi => ?_, fun i j h1 h2 => hp.2 i j h1 (by omega)⟩, rfl, rfl, hf⟩
      by_cases e : d = N
      · subst e; exact hp.1 i hi
      · have := hp.1 i (by omega); omega
    · have hms : N + 1 - (nI (d + 1)).toNatClampNeg < N + 1 - (nI d).toNatClampNeg := by rw [nI_clamp (by omega), nI_clamp (by omega)]; omega
      rw [if_neg (nI_ge (by omega) (by omega))]
      have hπN : ∀ i, i < N → π i < N := fun i hi => by
        rcases Nat.lt_or_ge i d with h | h
        · have := hp.1 i h; omega
        · rw [hpi i h]; exact hi
      have hπi : ∀ i j, i < N → j < N → π i = π j → i = j := fun i j hi hj h => by
        rcases Nat.lt_or_ge i d with h1 | h1
        · rcases Nat.lt_or_ge j d with h2 | h2
          · exact hp.inj i j h1 h2 h
          · have := hp.1 i h1; rw [hpi j h2] at h; omega
        · rcases Nat.lt_or_ge j d with h2 | h2
          · have := hp.1 j h2; rw [hpi i h1] at h; omega
          · rw [hpi i h1, hpi j h2] at h; exact h
      refine lp_ex (I := fun x => ∃ (a : Nat) (f : Nat → Int32), a ≤ d ∧ x = (nI a, f) ∧ (∀ i, a ≤ i → i < d → g d 0 < g (π i) 0) ∧ ∀ e t, e < N → t < T → f (14 * e + t) = nI (g (ins π d a e) t)) (ms := fun x => x.1.toNatClampNeg) (Post := fun r => ∃ π, PS (fun o => g o 0) N π ∧ PX (nI T) (nI N) r T N (pmg g π)) ?_ 20000 _ ⟨d, f, by omega, rfl, fun i h1 h2 => by omega, fun e t he ht => by rw [ins_self hpi]; exact hf e t he ht⟩ (by show (nI d).toNatClampNeg < _; rw [nI_clamp (by omega)]; omega)
      rintro y ⟨a, f, ha, rfl, hgt, hf⟩ self2 hself2
      unfold f_X3_putInOrder_L12
      dsimp only
      have hdone : (∀ i, i < a → g (π i) 0 < g d 0) → ∃ r, self (nI (d + 1), f) = some r ∧ ∃ π, PS (fun o => g o 0) N π ∧ PX (nI T) (nI N) r T N (pmg g π) := by
        intro h1
        refine hself _ ⟨d + 1, ins π d a, f, by omega, Or.inl (by omega), rfl, ins_PS hp ha h1 hgt, fun j hj => ?_, hf⟩ hms
        rw [ins_out ha (by omega), hpi j (by omega)]
      by_cases c2 : a = 0
      · subst c2
        rw [if_pos (show nI 0 ≤ 0 from Int32.le_refl _), bd_eq, nI_1]
        exact hdone (fun i h => by omega)
      · rw [if_neg (show ¬ nI a ≤ 0 from fun h => by rw [show (0 : Int32) = nI 0 from rfl, nI_leI (by omega) (by omega)] at h; omega), show nI a - 1 = nI (a - 1) from pk_sub (b := 1) (by omega)]
        have hinsN : ∀ i, i < N → ins π d a i < N := fun i hi => by
          unfold ins
          split
          · exact hπN i hi
          · split
            · omega
            · split
              · exact hπN _ (by omega)
              · exact hπN i hi
        have hS : Sok T N (pmg g (ins π d a)) := by
          refine hs.pm hinsN (fun i j hi hj h => ?_)
          have hdπ : ∀ i, i < d → π i ≠ d := fun i hi h => by have := hp.1 i hi; omega
          unfold ins at h
          by_cases i1 : i < a
          · rw [if_pos i1] at h
            by_cases j1 : j < a
            · rw [if_pos j1] at h; exact hπi i j hi hj h
            · rw [if_neg j1] at h
              by_cases j2 : j = a
              · rw [if_pos j2] at h; exact absurd h (hdπ i (by omega))
              · rw [if_neg j2] at h
                by_cases j3 : j ≤ d
                · rw [if_pos j3] at h; have := hπi i (j - 1) hi (by omega) h; omega
                · rw [if_neg j3] at h; exact hπi i j hi hj h
          · rw [if_neg i1] at h
            by_cases i2 : i = a
            · rw [if_pos i2] at h
              by_cases j1 : j < a
              · rw [if_pos j1] at h; exact absurd h.symm (hdπ j (by omega))
              · rw [if_neg j1] at h
                by_cases j2 : j = a
                · omega
                · rw [if_neg j2] at h
                  by_cases j3 : j ≤ d
                  · rw [if_pos j3] at h; exact absurd h.symm (hdπ (j - 1) (by omega))
                  · rw [if_neg j3, hpi j (by omega)] at h; omega
            · rw [if_neg i2] at h
              by_cases i3 : i ≤ d
              · rw [if_pos i3] at h
                by_cases j1 : j < a
                · rw [if_pos j1] at h; have := hπi (i - 1) j (by omega) hj h; omega
                · rw [if_neg j1] at h
                  by_cases j2 : j = a
                  · rw [if_pos j2] at h; exact absurd h (hdπ (i - 1) (by omega))
                  · rw [if_neg j2] at h
                    by_cases j3 : j ≤ d
                    · rw [if_pos j3] at h; have := hπi (i - 1) (j - 1) (by omega) (by omega) h; omega
                    · rw [if_neg j3] at h; have := hπi (i - 1) j (by omega) hj h; omega
              · rw [if_neg i3] at h
                by_cases j1 : j < a
                · rw [if_pos j1] at h; exact hπi i j hi hj h
                · rw [if_neg j1] at h
                  by_cases j2 : j = a
                  · rw [if_pos j2, hpi i (by omega)] at h; omega
                  · rw [if_neg j2] at h
                    by_cases j3 : j ≤ d
                    · rw [if_pos j3] at h; have := hπi i (j - 1) hi (by omega) h; omega
                    · rw [if_neg j3] at h; exact hπi i j hi hj h
        obtain ⟨r, e1, h1⟩ := x3order hS ⟨rfl, rfl, hf⟩ (show a < N by omega) (show a - 1 < N by omega)
        have hA : pmg g (ins π d a) a 0 = g d 0 := by show g (ins π d a a) 0 = _; rw [ins_at]
        have hB : pmg g (ins π d a) (a - 1) 0 = g (π (a - 1)) 0 := by show g (ins π d a (a - 1)) 0 = _; rw [ins_lt (by omega)]
        rw [hA, hB] at h1
        rw [e1, Option.bind_some]
        by_cases c3 : 0 ≤ r
        · rw [if_pos c3, bd_eq, nI_1]
          refine hdone (fun i hi => ?_)
          have h2 := h1.mp c3
          have h3 : g (π (a - 1)) 0 ≠ g d 0 := fun h => by
            have h4 := hp.1 (a - 1) (by omega)
            have := hk _ _ (by omega) (by omega) h
            omega
          by_cases e : i = a - 1
          · subst e; omega
          · have h5 : g (π i) 0 < g (π (a - 1)) 0 := hp.2 i (a - 1) (by omega) (by omega)
            omega
        · obtain ⟨ro', e2, h2⟩ := x3swapDays hN f (show a < N by omega) (show a - 1 < N by omega) (by omega)
          rw [if_neg c3, e2, Option.bind_some, bd_eq, nI_dn, show (1 : Int32) = nI 1 from rfl, pk_sub (by omega)]
          refine hself2 _ ⟨a - 1, ro', by omega, rfl, fun i hi1 hi2 => ?_, fun e t he ht => ?_⟩ (by show (nI (a - 1)).toNatClampNeg < (nI a).toNatClampNeg; rw [nI_clamp (by omega), nI_clamp (by omega)]; omega)
          · by_cases e : i = a - 1
            · subst e
              have : ¬ g (π (a - 1)) 0 ≤ g d 0 := fun h => c3 (h1.mpr h)
              omega
            · exact hgt i (by omega) hi2
          · rw [h2 e t (by omega)]
            by_cases e3 : e = a
            · subst e3
              rw [if_pos rfl, hf (e - 1) t (by omega) ht, ins_lt (by omega), ins_gt (by omega) (by omega)]
            · rw [if_neg e3]
              by_cases e4 : e = a - 1
              · subst e4
                rw [if_pos rfl, hf a t (by omega) ht, ins_at, ins_at]
              · rw [if_neg e4, hf e t he ht]
                rcases Nat.lt_or_ge e a with h5 | h5
                · rw [ins_lt h5, ins_lt (by omega)]
                · rcases Nat.lt_or_ge d e with h6 | h6
                  · rw [ins_out ha h6, ins_out (by omega) h6]
                  · rw [ins_gt (by omega) h6, ins_gt (by omega) h6]
  obtain ⟨r, e1, π, h1, h2⟩ := key
  exact ⟨r, π, e1, h1, h2⟩
end
