/-! OURS: one ring with all: of a schedule by a starter the first day stands for all -/
def Cl (T : Nat) (u v : Nat → Nat) (C : Nat → Prop) : Prop := ∀ i, i < T → C i → C (u i) ∧ C (v i)
def OneR (T : Nat) (u v : Nat → Nat) : Prop := ∀ C : Nat → Prop, Cl T u v C → ∀ j, j < T → C j → ∀ i, i < T → C i
section
variable {T N : Nat} {g : Nat → Nat → Nat} {te da : Int32} {ro no : Nat → Int32}
theorem rc_OneR (hs : Sok T N g) {d e : Nat} (hd : d < N) (he : e < N) : rc T g d e = 1 ↔ OneR T (g d) (g e) := by
  have hT := hs.T14
  have hT0 : 0 < T := by rcases hs.1 with h | h <;> omega
  rw [← rc_one hs hd he]
  constructor
  · intro h
    have h0 : ∀ C : Nat → Prop, Cl T (g d) (g e) C → C 0 → ∀ i, i < T → C i := by
      intro C hC c0 i hi
      refine rgF_least hs hd he C (fun i hi h => (hC i hi h).1) (fun i hi h => (hC i hi h).2) 14 0 0 hT0 c0 (fun i _ h => by rw [b_0] at h; cases h) i (by omega) ?_
      show bt (rs g d e 0) i = true
      rw [h, b_all T (by omega) i (by omega)]
      exact decide_eq_true hi
    intro C hC j hj cj i hi
    by_cases c0 : C 0
    · exact h0 C hC c0 i hi
    · exfalso
      refine h0 (fun i => ¬ C i) (fun i hi hn => ⟨fun h2 => hn ?_, fun h2 => hn ?_⟩) c0 j hj cj
      · have k := hs.2.1 d i hd hi
        have := (hC _ k.1 h2).1
        rw [k.2.2] at this; exact this
      · have k := hs.2.1 e i he hi
        have := (hC _ k.1 h2).2
        rw [k.2.2] at this; exact this
  · intro h
    refine b_ext (fun i hi => ?_)
    rw [b_all T (by omega) i hi]
    by_cases c : i < T
    · rw [decide_eq_true c]
      exact h (fun i => bt (rs g d e 0) i = true) (fun i hi h2 => rs_closed hs hd he hT0 hi h2) 0 hT0 (rs_self hs hd he hT0) i c
    · rw [decide_eq_false c]
      cases hb : bt (rs g d e 0) i with
      | false => rfl
      | true => exact absurd (rs_in hs hd he hT0 hi hb) c
theorem OneR_rot {u v u' v' ρ : Nat → Nat} (h1 : ∀ i, i < T → ρ i < T) (h2 : ∀ i j, i < T → j < T → ρ i = ρ j → i = j) (h3 : ∀ i, i < T → ∃ j, j < T ∧ ρ j = i) (hu : ∀ i, i < T → u' (ρ i) = ρ (u i)) (hv : ∀ i, i < T → v' (ρ i) = ρ (v i)) (hub : ∀ i, i < T → u i < T) (hvb : ∀ i, i < T → v i < T) : OneR T u v ↔ OneR T u' v' := by
  constructor
  · intro h C hC j hj cj i hi
    obtain ⟨j', hj', rfl⟩ := h3 j hj
    obtain ⟨i', hi', rfl⟩ := h3 i hi
    refine h (fun k => C (ρ k)) (fun k hk ck => ?_) j' hj' cj i' hi'
    have := hC (ρ k) (h1 k hk) ck
    rw [hu k hk, hv k hk] at this
    exact this
  · intro h C hC j hj cj i hi
    obtain ⟨k, hk, ek, ck⟩ := h (fun x => ∃ k, k < T ∧ ρ k = x ∧ C k) (fun x hx ⟨k, hk, ek, ck⟩ => by
      have := hC k hk ck
      exact ⟨⟨u k, hub k hk, by rw [← ek, hu k hk], this.1⟩, ⟨v k, hvb k hk, by rw [← ek, hv k hk], this.2⟩⟩) (ρ j) (h1 j hj) ⟨j, hj, rfl, cj⟩ (ρ i) (h1 i hi)
    rw [h2 k i hk hi ek] at ck
    exact ck
theorem dummyM (hs : Sok T N g) : ∃ no, PM no 0 T N g := by
  have hT := hs.T14
  refine ⟨fun i => if i = 0 then nI T else if i = 1 then nI N else nI (g ((i - 2) / 14) ((i - 2) % 14)), if_pos rfl, rfl, fun d t hd ht => ?_⟩
  dsimp only
  rw [if_neg (by omega), if_neg (by omega), show (0 + 2 + 14 * d + t - 2) / 14 = d by omega, show (0 + 2 + 14 * d + t - 2) % 14 = t by omega]
theorem dummyX (hs : Sok T N g) : ∃ ro, PX (nI T) (nI N) ro T N g := by
  have hT := hs.T14
  refine ⟨fun i => nI (g (i / 14) (i % 14)), rfl, rfl, fun d t hd ht => ?_⟩
  dsimp only
  rw [show (14 * d + t) / 14 = d by omega, show (14 * d + t) % 14 = t by omega]
end
/-- the first day makes one ring with each -/
abbrev PF (m : Nat) (s : Nat → Nat) : Prop := ∀ d, d < m → 1 ≤ d → rc (m + 1) (byG m s) 0 d = 1
section
variable {m : Nat} {s : Nat → Nat} {te da : Int32} {ro no : Nat → Int32}
theorem by_rot (h : StOk m s) {d c t : Nat} (hd : d < m) (hc : c < m) (ht : t < m + 1) : byG m s ((d + c) % m) (tu (m + 1) c t) = tu (m + 1) c (byG m s d t) := by
  have hlt : (d + c) % m < m := Nat.mod_lt _ (by omega)
  have k1 := mdA hd hc
  by_cases c1 : t = m
  · subst c1
    rw [byG_m, show tu (t + 1) c t = t from tu_last (T := t + 1) (by have := h.1; omega), byG_m, tu_low (by omega)]
    rfl
  · by_cases c2 : t = d
    · subst c2
      rw [byG_d s hd, tu_low (T := m + 1) (by omega)]
      show byG m s _ ((t + c) % m) = _
      rw [byG_d s hlt]
      exact (tu_last (T := m + 1) (c := c) (by have := h.1; omega)).symm
    · have htm : t < m := by omega
      have k2 := mdA htm hc
      obtain ⟨x1, x2, x3⟩ := byG_x hd htm c2
      obtain ⟨y1, y2, y3, y4⟩ := h.2.1 _ x1 x2
      have hlt2 : (t + c) % m < m := Nat.mod_lt _ (by omega)
      have hlt3 : (s ((t + m - d) % m) + d) % m < m := Nat.mod_lt _ (by omega)
      rw [byG_t s htm c2, tu_low (T := m + 1) (show t < m + 1 - 1 by omega), tu_low (T := m + 1) (show (s ((t + m - d) % m) + d) % m < m + 1 - 1 by omega)]
      show byG m s _ ((t + c) % m) = ((s ((t + m - d) % m) + d) % m + c) % m
      rw [byG_t s hlt2 (by omega)]
      have k3 := mdS htm hd
      have k4 := mdS hlt2 hlt
      rw [show ((t + c) % m + m - (d + c) % m) % m = (t + m - d) % m by omega]
      have k5 := mdA y2 hd
      have k6 := mdA hlt3 hc
      have k7 := mdA y2 hlt
      omega
theorem by_one (h : StOk m s) {a b : Nat} (hab : a < b) (hb : b < m) : rc (m + 1) (byG m s) a b = 1 ↔ rc (m + 1) (byG m s) 0 (b - a) = 1 := by
  have hs := by_Sok h
  rw [rc_OneR hs (by omega) hb, rc_OneR hs (by omega) (by omega)]
  have hm := h.1
  symm
  have e0 : (0 + a) % m = a := by rw [Nat.zero_add]; exact Nat.mod_eq_of_lt (by omega)
  have e1 : (b - a + a) % m = b := by rw [show b - a + a = b by omega]; exact Nat.mod_eq_of_lt hb
  refine OneR_rot (ρ := tu (m + 1) a) (fun i hi => tu_lt (by omega) hi) (fun i j hi hj e => ?_) (fun i hi => ?_) (fun i hi => ?_) (fun i hi => ?_) (fun i hi => (hs.2.1 0 i (by omega) hi).1) (fun i hi => (hs.2.1 _ i (by omega) hi).1)
  · unfold tu at e
    by_cases c1 : i + 1 < m + 1
    · rw [if_pos c1] at e
      have k1 := mdA (x := i) (c := a) (m := m) (by omega) (by omega)
      have k3 : m + 1 - 1 = m := by omega
      rw [k3] at e
      by_cases c2 : j + 1 < m + 1
      · rw [if_pos c2] at e
        have k2 := mdA (x := j) (c := a) (m := m) (by omega) (by omega)
        omega
      · rw [if_neg c2] at e
        omega
    · rw [if_neg c1] at e
      by_cases c2 : j + 1 < m + 1
      · rw [if_pos c2] at e
        have k3 : m + 1 - 1 = m := by omega
        rw [k3] at e
        have k2 := mdA (x := j) (c := a) (m := m) (by omega) (by omega)
        omega
      · omega
  · by_cases c1 : i = m
    · exact ⟨m, by omega, by rw [c1]; exact tu_last (T := m + 1) (by omega)⟩
    · have k1 := mdS (t := i) (d := a) (m := m) (by omega) (by omega)
      have k2 : (i + m - a) % m < m := Nat.mod_lt _ (by omega)
      have k3 := mdA k2 (c := a) (by omega)
      refine ⟨(i + m - a) % m, by omega, ?_⟩
      rw [tu_low (T := m + 1) (by omega)]
      show ((i + m - a) % m + a) % m = i
      omega
  · have := by_rot h (d := 0) (c := a) (by omega) (by omega) hi
    rw [e0] at this
    exact this
  · have := by_rot h (d := b - a) (c := a) (by omega) (by omega) hi
    rw [e1] at this
    exact this
theorem x3first (h : StOk m s) (hX : PX te da ro (m + 1) m (byG m s)) : ∃ r, f_X3_isFirstOneWithAll te da ro = some r ∧ ((r = 1 ∧ PF m s) ∨ (r = 0 ∧ ¬ PF m s)) := by
  have hs := by_Sok h
  have hm := h.1
  obtain ⟨no, hM⟩ := dummyM hs
  have hX2 := hX
  obtain ⟨rfl, rfl, -⟩ := hX2
  unfold f_X3_isFirstOneWithAll
  rw [bd_eq]
  refine lp_ex (I := fun x => ∃ d : Nat, 1 ≤ d ∧ d ≤ m ∧ x = nI d ∧ ∀ e, e < d → 1 ≤ e → rc (m + 1) (byG m s) 0 e = 1) (ms := fun x => m - x.toNatClampNeg) (Post := fun r => (r = 1 ∧ PF m s) ∨ (r = 0 ∧ ¬ PF m s)) ?_ 20000 _ ⟨1, by omega, by omega, rfl, fun e h1 h2 => by omega⟩ (by show m - _ < _; omega)
  rintro x ⟨d, hd1, hd, rfl, hf⟩ self hself
  unfold f_X3_isFirstOneWithAll_L11
  by_cases c : m ≤ d
  · rw [if_pos ((nI_leI (by omega) (by omega)).mpr c)]
    exact ⟨_, rfl, Or.inl ⟨rfl, fun e he => hf e (by omega)⟩⟩
  · have e1 := x3circleOf hs hX 184 (by omega) (by omega) hM (d := 0) (e := d) (t := 0) (by omega) (by omega) (by omega)
    rw [if_neg (nI_ge (by omega) (by omega)), show (0 : Int32) = nI 0 from rfl, e1, Option.bind_some]
    by_cases c2 : rc (m + 1) (byG m s) 0 d = 1
    · rw [if_pos ((rc_one hs (by omega) (by omega)).mpr c2), bd_eq, nI_1]
      refine hself _ ⟨d + 1, by omega, by omega, rfl, fun e h1 h2 => ?_⟩ (by show m - (nI (d + 1)).toNatClampNeg < m - (nI d).toNatClampNeg; rw [nI_clamp (by omega), nI_clamp (by omega)]; omega)
      by_cases e2 : e = d
      · subst e2; exact c2
      · exact hf e (by omega) h2
    · rw [if_neg (fun h2 => c2 ((rc_one hs (by omega) (by omega)).mp h2))]
      exact ⟨_, rfl, Or.inr ⟨rfl, fun h2 => c2 (h2 d (by omega) hd1)⟩⟩
theorem pct_full (n : Nat) (p : Nat → Bool) (h : pct n p = n) : ∀ i, i < n → p i = true := by
  intro i hi
  have h1 := pct_not n p
  have h2 := pct_0 n (fun i => !p i) (by omega) i hi
  have h3 : (!p i) = false := h2
  cases hp : p i with
  | true => rfl
  | false => rw [hp] at h3; cases h3
theorem pct_tt (n : Nat) : pct n (fun _ => true) = n := by
  induction n with
  | zero => rfl
  | succ n ih => show pct n (fun _ => true) + 1 = n + 1; rw [ih]
theorem tri_mx : ∀ (n : Nat) (p : Nat → Nat → Bool), tri n p ≤ tri n (fun _ _ => true)
  | 0, _ => Nat.le_refl _
  | n + 1, p => by
    have := tri_mx n p
    have h2 := pct_max n (p n)
    have h3 := pct_tt n
    show tri n p + pct n (p n) ≤ tri n (fun _ _ => true) + pct n (fun _ => true)
    omega
theorem tri_full : ∀ (n : Nat) (p : Nat → Nat → Bool), tri n p = tri n (fun _ _ => true) → ∀ b a, a < b → b < n → p b a = true
  | 0, _, _, b, a, _, h => by omega
  | n + 1, p, h, b, a, hab, hb => by
    have h1 := tri_mx n p
    have h2 := pct_max n (p n)
    have h3 := pct_tt n
    have h4 : tri n p + pct n (p n) = tri n (fun _ _ => true) + pct n (fun _ => true) := h
    by_cases c : b = n
    · subst c; exact pct_full b (p b) (by omega) a hab
    · exact tri_full n p (by omega) b a hab (by omega)
theorem tri_n : ∀ n, n < 14 → tri n (fun _ _ => true) = n * (n - 1) / 2 := by decide +kernel
theorem x9perf (h : StOk m s) (hM : PM no 0 (m + 1) m (byG m s)) : ∃ r, f_X9_isPerfect 184 no = some r ∧ ((r = 1 ∧ PF m s) ∨ (r = 0 ∧ ¬ PF m s)) := by
  have hs := by_Sok h
  have hm := h.1
  obtain ⟨ro, hX⟩ := dummyX hs
  unfold f_X9_isPerfect
  have h1 : no 1 = nI m := hM.2.1
  have e1 : no (1 : Int32).toNatClampNeg = nI m := h1
  have e2 : nI m * (nI m - 1) / (2 : Int32) = nI (m * (m - 1) / 2) := by
    have hmm : m * (m - 1) ≤ 13 * 13 := Nat.mul_le_mul (by omega) (by omega)
    rw [show nI m - 1 = nI (m - 1) from pk_sub (b := 1) (by omega), pk_mul]
    exact pk_div (d := 2) (by omega) (by omega) (by omega)
  have hmk : mkN (m + 1) m (byG m s) 1 ≤ m * m := tri_le _ _
  have hmm : m * m ≤ 13 * 13 := Nat.mul_le_mul (by omega) (by omega)
  rw [x9makes hs hX 184 (by omega) (by omega) hM 1, Option.bind_some, if_pos inb1, if_pos inb1, e1, e2]
  have hq : m * (m - 1) / 2 < 2 ^ 31 := by
    have : m * (m - 1) ≤ 13 * 13 := Nat.mul_le_mul (by omega) (by omega)
    omega
  have key : mkN (m + 1) m (byG m s) 1 = m * (m - 1) / 2 ↔ PF m s := by
    rw [← tri_n m (by omega)]
    constructor
    · intro h2 d hd h1
      have h3 := tri_full m _ h2 d 0 h1 hd
      have h4 := of_decide_eq_true h3
      have h5 := rc_le (m + 1) (byG m s) d 0
      have h6 : rc (m + 1) (byG m s) d 0 = 1 := (nI_eq (b := 1) (by omega) (by omega)).mp h4
      rw [rc_comm hs (by omega) hd]
      exact h6
    · intro h2
      refine tri_congr m _ _ (fun b a hab hb => ?_)
      show decide (nI (rc (m + 1) (byG m s) b a) = 1) = true
      rw [rc_comm hs hb (by omega), (by_one h hab hb).mpr (h2 (b - a) (by omega) (by omega))]
      rfl
  by_cases c : mkN (m + 1) m (byG m s) 1 = m * (m - 1) / 2
  · rw [if_pos (congrArg nI c)]
    exact ⟨_, rfl, Or.inl ⟨rfl, key.mp c⟩⟩
  · rw [if_neg (fun h2 => c ((nI_eq (by omega) hq).mp h2))]
    exact ⟨_, rfl, Or.inr ⟨rfl, fun h2 => c (key.mpr h2)⟩⟩
end
