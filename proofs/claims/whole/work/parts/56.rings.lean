/-! OURS: rings of two days -/
theorem b_1 : ∀ i, i < 32 → bt 1 i = decide (i = 0) := by decide +kernel
theorem b_sh1 (t : Nat) (ht : t < 32) {i : Nat} (hi : i < 32) : bt ((1 : Int32) <<< (nI t &&& 31)) i = decide (i = t) := by
  rw [b_shl t ht 1 hi, b_1 (i - t) (by omega)]
  by_cases h : i = t
  · subst h; simp
  · by_cases h2 : t ≤ i
    · simp [h, h2]; omega
    · simp [h, h2]
theorem b_all : ∀ T, T < 15 → ∀ i, i < 32 → bt (((1 : Int32) <<< (nI T &&& 31)) - 1) i = decide (i < T) := by decide +kernel
theorem bitI (x : Int32) (t : Nat) (ht : t < 32) : (x >>> (nI t &&& 31)) &&& 1 = if bt x t then 1 else 0 := by
  refine b_ext (fun i hi => ?_)
  rw [b_and, b_sshr t ht x hi, b_1 i hi]
  by_cases h : i = 0
  · subst h
    rw [if_pos (by omega), decide_eq_true rfl, Bool.and_true, Nat.add_zero]
    cases bt x t with
    | true => exact (b_1 0 (by omega)).symm
    | false => exact (b_0 0).symm
  · rw [decide_eq_false h, Bool.and_false]
    cases bt x t with
    | true => exact ((b_1 i hi).trans (decide_eq_false h)).symm
    | false => exact (b_0 i).symm
theorem bit0 (x : Int32) (t : Nat) (ht : t < 32) : ((x >>> (nI t &&& 31)) &&& 1 = 0) = (bt x t = false) := by
  rw [bitI x t ht]
  cases bt x t <;> simp <;> decide
theorem b_not (x : Int32) {i : Nat} (hi : i < 32) : bt (x ^^^ (-1)) i = !bt x i := by
  rw [b_xor, b_m1 i hi]
  cases bt x i <;> rfl
theorem b_eq0 (x : Int32) : x = 0 ↔ ∀ i, i < 32 → bt x i = false := ⟨fun h i _ => by rw [h]; exact b_0 i, fun h => b_ext (fun i hi => by rw [h i hi, b_0])⟩
theorem x9has (s : Int32) (t : Nat) (ht : t < 32) : f_X9_has s (nI t) = some (if bt s t then 1 else 0) := by
  unfold f_X9_has
  rw [bitI s t ht]
  cases bt s t with
  | true => rfl
  | false => rfl
theorem x9has_f {s : Int32} {t : Nat} (ht : t < 32) (h : bt s t = false) : f_X9_has s (nI t) = some 0 := by rw [x9has s t ht, h]; rfl
theorem x9has_t {s : Int32} {t : Nat} (ht : t < 32) (h : bt s t = true) : f_X9_has s (nI t) = some 1 := by rw [x9has s t ht, h]; rfl
def pct : Nat → (Nat → Bool) → Nat
  | 0, _ => 0
  | n + 1, p => pct n p + (if p n then 1 else 0)
theorem pct_le : ∀ (n : Nat) (p q : Nat → Bool), (∀ i, i < n → p i = true → q i = true) → pct n p ≤ pct n q
  | 0, _, _, _ => Nat.le_refl _
  | n + 1, p, q, h => by
    have h1 := pct_le n p q (fun i hi => h i (by omega))
    have h2 := h n (by omega)
    show pct n p + _ ≤ pct n q + _
    cases hp : p n with
    | true => rw [h2 hp]; simp; exact h1
    | false => simp; omega
theorem pct_lt : ∀ (n : Nat) (p q : Nat → Bool) (l : Nat), (∀ i, i < n → p i = true → q i = true) → l < n → p l = false → q l = true → pct n p < pct n q
  | 0, _, _, _, _, hl, _, _ => by omega
  | n + 1, p, q, l, h, hl, hp, hq => by
    show pct n p + _ < pct n q + _
    by_cases e : l = n
    · subst e
      have h1 := pct_le l p q (fun i hi => h i (by omega))
      rw [hp, hq]; simp; omega
    · have h1 := pct_lt n p q l (fun i hi => h i (by omega)) (by omega) hp hq
      have h2 := h n (by omega)
      cases hp2 : p n with
      | true => rw [h2 hp2]; simp; exact h1
      | false => simp; omega
theorem pct_max : ∀ (n : Nat) (p : Nat → Bool), pct n p ≤ n
  | 0, _ => Nat.le_refl _
  | n + 1, p => by
    have := pct_max n p
    show pct n p + _ ≤ _
    cases p n <;> simp <;> omega
theorem pct_0 : ∀ (n : Nat) (p : Nat → Bool), pct n p = 0 → ∀ i, i < n → p i = false
  | 0, _, _, i, hi => by omega
  | n + 1, p, h, i, hi => by
    have h0 : pct n p + (if p n then 1 else 0) = 0 := h
    by_cases e : i = n
    · subst e
      cases hp : p i with
      | true => rw [hp] at h0; simp at h0
      | false => rfl
    · exact pct_0 n p (by omega) i (by omega)
/-- the ring that is gone along from a team -/
def rgF (u v : Nat → Nat) : Nat → Int32 → Nat → Int32
  | 0, s, _ => s
  | n + 1, s, t => if bt s t then s else rgF u v n (s ||| (((1 : Int32) <<< (nI t &&& 31)) ||| ((1 : Int32) <<< (nI (u t) &&& 31)))) (v (u t))
theorem bt_add (s : Int32) (a b : Nat) (ha : a < 32) (hb : b < 32) {i : Nat} (hi : i < 32) : bt (s ||| (((1 : Int32) <<< (nI a &&& 31)) ||| ((1 : Int32) <<< (nI b &&& 31)))) i = (bt s i || (decide (i = a) || decide (i = b))) := by
  rw [b_or, b_or, b_sh1 a ha hi, b_sh1 b hb hi]
def cnt (T : Nat) (s : Int32) : Nat := pct T (fun t => !bt s t)
theorem cnt_add {T : Nat} (hT : T ≤ 14) (s : Int32) {a b : Nat} (ha : a < T) (hb : b < T) (h : bt s a = false) : cnt T (s ||| (((1 : Int32) <<< (nI a &&& 31)) ||| ((1 : Int32) <<< (nI b &&& 31)))) < cnt T s := by
  refine pct_lt T _ _ a (fun i hi => ?_) ha ?_ ?_
  · rw [bt_add s a b (by omega) (by omega) (by omega)]
    cases bt s i <;> simp
  · rw [bt_add s a b (by omega) (by omega) (by omega)]; simp
  · rw [h]; rfl
section
variable {T N : Nat} {g : Nat → Nat → Nat} {te da : Int32} {ro no : Nat → Int32} {o : Nat}
theorem ring_lps (hs : Sok T N g) (hX : PX te da ro T N g) (n0 : Nat) (hn0 : n0 < 2 ^ 31) (h184 : 184 ≤ n0) (hM : PM no 0 T N g) {d e : Nat} (hd : d < N) (he : e < N) (p3 p3' : Int32) : ∀ (n : Nat) (s : Int32) (t : Nat), cnt T s ≤ n → t < T →
    (∀ fu, n < fu → lp (f_X9_ringOf_L6 n0 no (nI d) (nI e) p3) fu (s, nI t) = some (rgF (g d) (g e) n s t)) ∧ (∀ fu st, n < fu → st + n ≤ 14 → lp (f_X3_circleOf_L9 te da ro (nI d) (nI e) p3') fu (s, nI t, nI st) = some (rgF (g d) (g e) n s t)) := by
  have hT := hs.T14
  intro n
  induction n with
  | zero =>
    intro s t hc ht
    have hb : bt s t = true := by
      have := pct_0 T _ (Nat.le_zero.mp hc) t ht
      simpa using this
    constructor
    · intro fu hfu
      obtain ⟨fu, rfl⟩ : ∃ f, fu = f + 1 := ⟨fu - 1, by omega⟩
      rw [lp_s]
      show (f_X9_has s (nI t)).bind _ = _
      rw [x9has s t (by omega), hb]
      rfl
    · intro fu st hfu hst
      obtain ⟨fu, rfl⟩ : ∃ f, fu = f + 1 := ⟨fu - 1, by omega⟩
      rw [lp_s]
      show (if (14 : Int32) ≤ nI st then _ else _) = _
      split
      · rfl
      · rw [if_neg]
        · rfl
        · rw [bit0 s t (by omega), hb]; simp
  | succ n ih =>
    intro s t hc ht
    cases hb : bt s t with
    | true =>
      have er : rgF (g d) (g e) (n + 1) s t = s := by show (if bt s t then s else _) = s; rw [hb]; rfl
      rw [er]
      constructor
      · intro fu hfu
        obtain ⟨fu, rfl⟩ : ∃ f, fu = f + 1 := ⟨fu - 1, by omega⟩
        rw [lp_s]
        show (f_X9_has s (nI t)).bind _ = _
        rw [x9has s t (by omega), hb]
        rfl
      · intro fu st hfu hst
        obtain ⟨fu, rfl⟩ : ∃ f, fu = f + 1 := ⟨fu - 1, by omega⟩
        rw [lp_s]
        show (if (14 : Int32) ≤ nI st then _ else _) = _
        split
        · rfl
        · rw [if_neg]
          rw [bit0 s t (by omega), hb]; simp
    | false =>
      have h1 := hs.2.1 d t hd ht
      have h2 := hs.2.1 e (g d t) he h1.1
      have hc2 := cnt_add hT s ht h1.1 hb
      obtain ⟨i1, i2⟩ := ih (s ||| (((1 : Int32) <<< (nI t &&& 31)) ||| ((1 : Int32) <<< (nI (g d t) &&& 31)))) (g e (g d t)) (by omega) h2.1
      have er : rgF (g d) (g e) (n + 1) s t = rgF (g d) (g e) n (s ||| (((1 : Int32) <<< (nI t &&& 31)) ||| ((1 : Int32) <<< (nI (g d t) &&& 31)))) (g e (g d t)) := by
        show (if bt s t then s else _) = _; rw [hb]; rfl
      rw [er]
      constructor
      · intro fu hfu
        obtain ⟨fu, rfl⟩ : ∃ f, fu = f + 1 := ⟨fu - 1, by omega⟩
        rw [lp_s]
        show (f_X9_has s (nI t)).bind _ = _
        rw [x9has_f (by omega) hb, Option.bind_some, if_pos zer0, x9meets hs n0 hn0 h184 hM hd ht, Option.bind_some, bd_eq, x9meets hs n0 hn0 h184 hM he h1.1, Option.bind_some]
        exact i1 fu (by omega)
      · intro fu st hfu hst
        obtain ⟨fu, rfl⟩ : ∃ f, fu = f + 1 := ⟨fu - 1, by omega⟩
        rw [lp_s]
        show (if (14 : Int32) ≤ nI st then _ else _) = _
        rw [if_neg (show ¬ (14 : Int32) ≤ nI st from nI_ge (b := 14) (by omega) (by omega)), if_pos (by rw [bit0 s t (by omega)]; exact hb), partner_in hs hX hd ht, Option.bind_some, bd_eq, partner_in hs hX he h1.1, Option.bind_some, bd_eq, nI_1]
        exact i2 fu (st + 1) (by omega) (by omega)
def rs (g : Nat → Nat → Nat) (d e t : Nat) : Int32 := rgF (g d) (g e) 14 0 t
theorem cnt_max (T : Nat) (hT : T ≤ 14) (s : Int32) : cnt T s ≤ 14 := Nat.le_trans (pct_max _ _) hT
theorem x9ringOf (hs : Sok T N g) (hX : PX te da ro T N g) (n0 : Nat) (hn0 : n0 < 2 ^ 31) (h184 : 184 ≤ n0) (hM : PM no 0 T N g) {d e t : Nat} (hd : d < N) (he : e < N) (ht : t < T) : f_X9_ringOf n0 no (nI d) (nI e) (nI t) = some (rs g d e t) := (ring_lps hs hX n0 hn0 h184 hM hd he (nI t) (nI t) 14 0 t (cnt_max T hs.T14 _) ht).1 20000 (by omega)
theorem x3circleOf (hs : Sok T N g) (hX : PX te da ro T N g) (n0 : Nat) (hn0 : n0 < 2 ^ 31) (h184 : 184 ≤ n0) (hM : PM no 0 T N g) {d e t : Nat} (hd : d < N) (he : e < N) (ht : t < T) : f_X3_circleOf te da ro (nI d) (nI e) (nI t) = some (rs g d e t) := (ring_lps hs hX n0 hn0 h184 hM hd he (nI t) (nI t) 14 0 t (cnt_max T hs.T14 _) ht).2 20000 0 (by omega) (by omega)
theorem rgF_sub (hs : Sok T N g) {d e : Nat} (hd : d < N) (he : e < N) : ∀ (n : Nat) (s : Int32) (t : Nat), t < T → (∀ i, i < 32 → bt s i = true → i < T) → ∀ i, i < 32 → bt (rgF (g d) (g e) n s t) i = true → i < T := by
  have hT := hs.T14
  intro n
  induction n with
  | zero => intro s t _ h; exact h
  | succ n ih =>
    intro s t ht h
    show ∀ i, i < 32 → bt (if bt s t then s else _) i = true → i < T
    split
    · exact h
    · have h1 := hs.2.1 d t hd ht
      have h2 := hs.2.1 e (g d t) he h1.1
      refine ih _ _ h2.1 (fun i hi hb => ?_)
      rw [bt_add s t (g d t) (by omega) (by omega) hi] at hb
      cases hbs : bt s i with
      | true => exact h i hi hbs
      | false =>
        rw [hbs] at hb
        simp at hb
        omega
theorem rgF_mono (hs : Sok T N g) {d e : Nat} (hd : d < N) (he : e < N) : ∀ (n : Nat) (s : Int32) (t : Nat), t < T → ∀ i, i < 32 → bt s i = true → bt (rgF (g d) (g e) n s t) i = true := by
  have hT := hs.T14
  intro n
  induction n with
  | zero => intro s t _ i _ h; exact h
  | succ n ih =>
    intro s t ht i hi h
    show bt (if bt s t then s else _) i = true
    split
    · exact h
    · have h1 := hs.2.1 d t hd ht
      have h2 := hs.2.1 e (g d t) he h1.1
      refine ih _ _ h2.1 i hi ?_
      rw [bt_add s t (g d t) (by omega) (by omega) hi, h]; rfl
theorem rs_in (hs : Sok T N g) {d e t i : Nat} (hd : d < N) (he : e < N) (ht : t < T) (hi : i < 32) (h : bt (rs g d e t) i = true) : i < T := rgF_sub hs hd he 14 0 t ht (fun i _ h => by rw [b_0] at h; cases h) i hi h
theorem rs_self (hs : Sok T N g) {d e t : Nat} (hd : d < N) (he : e < N) (ht : t < T) : bt (rs g d e t) t = true := by
  have hT := hs.T14
  have h1 := hs.2.1 d t hd ht
  have h2 := hs.2.1 e (g d t) he h1.1
  show bt (if bt 0 t then 0 else _) t = true
  rw [b_0]
  refine rgF_mono hs hd he 13 _ _ h2.1 t (by omega) ?_
  rw [bt_add 0 t (g d t) (by omega) (by omega) (by omega)]; simp
end
/-- how many rings, gone through from team t on -/
def cmF (R : Nat → Int32) : Nat → Nat → Int32 → Nat
  | 0, _, _ => 0
  | m + 1, t, s => if bt s t then cmF R m (t + 1) s else cmF R m (t + 1) (s ||| R t) + 1
def atF (R : Nat → Int32) : Nat → Nat → Int32 → Nat → Int32
  | 0, _, _, _ => 0
  | m + 1, t, s, i => if bt s t then atF R m (t + 1) s i else if i = 0 then R t else atF R m (t + 1) (s ||| R t) (i - 1)
theorem cmF_le (R : Nat → Int32) : ∀ m t s, cmF R m t s ≤ m
  | 0, _, _ => Nat.le_refl _
  | m + 1, t, s => by
    show (if bt s t then cmF R m (t + 1) s else cmF R m (t + 1) (s ||| R t) + 1) ≤ m + 1
    split
    · exact Nat.le_succ_of_le (cmF_le R m _ _)
    · exact Nat.succ_le_succ (cmF_le R m _ _)
theorem cmF_skip (R : Nat → Int32) (T : Nat) (s : Int32) : ∀ (k t : Nat), t + k ≤ T → (∀ j, t ≤ j → j < t + k → bt s j = true) → cmF R (T - t) t s = cmF R (T - (t + k)) (t + k) s
  | 0, t, _, _ => rfl
  | k + 1, t, hk, h => by
    have e : T - t = (T - (t + 1)) + 1 := by omega
    rw [e]
    show (if bt s t then cmF R (T - (t + 1)) (t + 1) s else _) = _
    rw [h t (by omega) (by omega), if_pos rfl, cmF_skip R T s k (t + 1) (by omega) (fun j h1 h2 => h j (by omega) (by omega)), show t + 1 + k = t + (k + 1) by omega]
theorem atF_skip (R : Nat → Int32) (T : Nat) (s : Int32) (i : Nat) : ∀ (k t : Nat), t + k ≤ T → (∀ j, t ≤ j → j < t + k → bt s j = true) → atF R (T - t) t s i = atF R (T - (t + k)) (t + k) s i
  | 0, t, _, _ => rfl
  | k + 1, t, hk, h => by
    have e : T - t = (T - (t + 1)) + 1 := by omega
    rw [e]
    show (if bt s t then atF R (T - (t + 1)) (t + 1) s i else _) = _
    rw [h t (by omega) (by omega), if_pos rfl, atF_skip R T s i k (t + 1) (by omega) (fun j h1 h2 => h j (by omega) (by omega)), show t + 1 + k = t + (k + 1) by omega]
theorem x9least (s : Int32) {l : Nat} (hl : l < 32) (h1 : bt s l = true) (h2 : ∀ j, j < l → bt s j = false) : f_X9_least s = some (nI l) := by
  unfold f_X9_least
  refine lp_spec (I := fun x => ∃ q, q ≤ l ∧ x = nI q) (ms := fun x => l - x.toNatClampNeg) (res := fun _ => some (nI l)) ?_ 20000 0 ⟨0, by omega, rfl⟩ (by show l - _ < _; omega)
  rintro x ⟨q, hq, rfl⟩ self hself
  show (f_X9_has s (nI q)).bind _ = _
  rw [x9has s q (by omega), Option.bind_some]
  by_cases e : q = l
  · subst e
    rw [h1]; rfl
  · rw [h2 q (by omega)]
    show bd (nI q + 1) _ = _
    rw [bd_eq, nI_1]
    refine hself _ ⟨q + 1, by omega, rfl⟩ ?_
    show l - (nI (q + 1)).toNatClampNeg < l - (nI q).toNatClampNeg
    rw [nI_clamp (by omega), nI_clamp (by omega)]
    omega
/-- the least of what is left -/
theorem least_ex (s : Int32) (h : ¬ s = 0) : ∃ l, l < 32 ∧ bt s l = true ∧ ∀ j, j < l → bt s j = false := by
  have h1 : ∃ l, l < 32 ∧ bt s l = true := by
    refine Classical.byContradiction (fun hn => h ((b_eq0 s).mpr (fun i hi => ?_)))
    cases hb : bt s i with
    | false => rfl
    | true => exact absurd ⟨i, hi, hb⟩ hn
  obtain ⟨l0, hl0, hb0⟩ := h1
  have key : ∀ n, ∀ l, l ≤ n → l < 32 → bt s l = true → ∃ l, l < 32 ∧ bt s l = true ∧ ∀ j, j < l → bt s j = false := by
    intro n
    induction n with
    | zero => intro l hl h32 hb; exact ⟨l, h32, hb, fun j hj => by omega⟩
    | succ n ih =>
      intro l hl h32 hb
      by_cases hx : ∃ j, j < l ∧ bt s j = true
      · obtain ⟨j, hj, hbj⟩ := hx
        exact ih j (by omega) (by omega) hbj
      · refine ⟨l, h32, hb, fun j hj => ?_⟩
        cases hb2 : bt s j with
        | false => rfl
        | true => exact absurd ⟨j, hj, hb2⟩ hx
  exact key l0 l0 (Nat.le_refl _) hl0 hb0
