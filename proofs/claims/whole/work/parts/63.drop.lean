/-! OURS: days that go; names; drop, name -/
theorem pct_t {n : Nat} {p : Nat → Bool} (h : p n = true) : pct n p + 1 = pct (n + 1) p := by
  show _ = pct n p + (if p n then 1 else 0)
  rw [h]; rfl
theorem pct_f {n : Nat} {p : Nat → Bool} (h : p n = false) : pct n p = pct (n + 1) p := by
  show _ = pct n p + (if p n then 1 else 0)
  rw [h]; rfl
theorem tup3 {α β : Type} {n n' : Nat} (h : n = n') (x : α) (f : β) : (nI n, x, f) = (nI n', x, f) := by rw [h]
theorem inj_le : ∀ (m n : Nat) (f : Nat → Nat), (∀ i, i < n → f i < m) → (∀ i j, i < n → j < n → f i = f j → i = j) → n ≤ m
  | 0, n, f, h, _ => by
    rcases Nat.eq_zero_or_pos n with e | e
    · omega
    · have := h 0 e; omega
  | m + 1, n, f, h, hi => by
    rcases Nat.eq_zero_or_pos n with e | e
    · omega
    · by_cases hx : ∃ i, i < n ∧ f i = m
      · obtain ⟨i, hin, him⟩ := hx
        have := inj_le m (n - 1) (fun j => if j = i then f (n - 1) else f j) (fun j hj => ?_) (fun a b ha hb hab => ?_)
        · omega
        · show (if j = i then f (n - 1) else f j) < m
          split
          · rename_i e1
            have h1 := h (n - 1) (by omega)
            have h2 : f (n - 1) ≠ m := fun e2 => by have := hi (n - 1) i (by omega) hin (e2.trans him.symm); omega
            omega
          · rename_i e1
            have h1 := h j (by omega)
            have h2 : f j ≠ m := fun e2 => e1 (hi j i (by omega) hin (e2.trans him.symm))
            omega
        · have hab' : (if a = i then f (n - 1) else f a) = (if b = i then f (n - 1) else f b) := hab
          split at hab'
          · split at hab'
            · omega
            · have := hi (n - 1) b (by omega) (by omega) hab'; omega
          · split at hab'
            · have := hi a (n - 1) (by omega) (by omega) hab'; omega
            · exact hi a b (by omega) (by omega) hab'
      · have := inj_le m n f (fun i hi2 => ?_) hi
        · omega
        · have h1 := h i hi2
          have h2 : f i ≠ m := fun e2 => hx ⟨i, hi2, e2⟩
          omega
theorem partner_at {T N : Nat} (hT : T ≤ 14) (hN : N ≤ 13) (ro : Nat → Int32) {d t : Nat} (hd : d < N) (ht : t < T) : f_X3_partner (nI T) (nI N) ro (nI d) (nI t) = some (ro (14 * d + t)) := by
  unfold f_X3_partner inb
  simp (disch := omega) only [if_pos, if_neg, bd_eq, Option.bind_some, gd_or01, nI_ltI, nI_leI, nI_eq, nI_add, pk_mul, pk_sub, nI_clamp, nI_nm1, nI_nm1', li0, li1, li2, li3, li4, li5, li6, li7, li8, li10, li12, li13, li14, li20, li24, li31, li48, li60, li184, li182, li255, li700, li740]
  rw [show d * 14 + t = 14 * d + t by omega]
theorem x9ixe (d t : Nat) : ((2 : Int32) + (14 : Int32) * nI d) + nI t = nI (2 + 14 * d + t) := by rw [show (2 : Int32) = nI 2 from rfl, show (14 : Int32) = nI 14 from rfl, pk_mul, nI_add, nI_add]
theorem x3ixe (d t : Nat) : nI d * (14 : Int32) + nI t = nI (14 * d + t) := by rw [show (14 : Int32) = nI 14 from rfl, pk_mul, nI_add, Nat.mul_comm]
theorem x9meets_at (n : Nat) (hn : n < 2 ^ 31) (h184 : 184 ≤ n) (no : Nat → Int32) {d t : Nat} (hd : d < 13) (ht : t < 14) : f_X9_meets n no (nI d) (nI t) = some (no (2 + 14 * d + t)) := by
  unfold f_X9_meets
  rw [x9ixe, if_pos (inb_ok (by omega) hn), nI_clamp (by omega)]
theorem x3pair_at {T N : Nat} (hT : T ≤ 14) (hN : N ≤ 13) (ro : Nat → Int32) {d a b : Nat} (hd : d < N) (ha : a < T) (hb : b < T) (hab : a ≠ b) : f_X3_pair (nI T) (nI N) ro (nI d) (nI a) (nI b) = some (upd (upd ro (14 * d + a) (nI b)) (14 * d + b) (nI a)) := by
  unfold f_X3_pair
  rw [if_neg (nI_pos (by omega)), if_neg (nI_ge hd (by omega)), x3has2_in T (by omega) ha hb hab, Option.bind_some, if_neg one0, x3ixe, if_pos (inb_ok (by omega) (by omega)), bd_eq, x3ixe, if_pos (inb_ok (by omega) (by omega)), bd_eq, nI_clamp (by omega), nI_clamp (by omega)]
theorem x3pair_eq {T N : Nat} (hT : T ≤ 14) (hN : N ≤ 13) (ro : Nat → Int32) {d a : Nat} (hd : d < N) : f_X3_pair (nI T) (nI N) ro (nI d) (nI a) (nI a) = some ro := by
  unfold f_X3_pair
  rw [if_neg (nI_pos (by omega)), if_neg (nI_ge hd (by omega))]
  unfold f_X3_hasTwoTeams
  rw [if_pos rfl, Option.bind_some, if_pos zer0]
theorem x9pairs_at (n : Nat) (hn : n < 2 ^ 31) (h184 : 184 ≤ n) (no : Nat → Int32) {d a b : Nat} (hd : d < 13) (ha : a < 14) (hb : b < 14) : f_X9_pairs n no (nI d) (nI a) (nI b) = some (upd (upd no (2 + 14 * d + a) (nI b)) (2 + 14 * d + b) (nI a)) := by
  unfold f_X9_pairs
  rw [x9ixe, if_pos (inb_ok (by omega) hn), bd_eq, x9ixe, if_pos (inb_ok (by omega) hn), bd_eq, nI_clamp (by omega), nI_clamp (by omega)]
/-- the days without day p -/
def rmg (g : Nat → Nat → Nat) (p d t : Nat) : Nat := g (if d < p then d else d + 1) t
section
variable {T N : Nat} {g : Nat → Nat → Nat} {te da : Int32} {ro no : Nat → Int32} {o : Nat}
theorem Sok.rm (hs : Sok T N g) {p : Nat} (hp : p < N) : Sok T (N - 1) (rmg g p) := by
  refine ⟨?_, fun d t hd ht => ?_, fun d e t hd he ht h => ?_⟩
  · have := hs.1; omega
  · exact hs.2.1 _ t (by split <;> omega) ht
  · have := hs.2.2 _ _ t (by split <;> omega) (by split <;> omega) ht h
    split at this <;> split at this <;> omega
theorem x3remove (hs : Sok T N g) (hX : PX te da ro T N g) {p : Nat} (hp : p < N) : ∃ ro', f_X3_remove da ro (nI p) = some (nI (N - 1), ro') ∧ PX te (nI (N - 1)) ro' T (N - 1) (rmg g p) := by
  have hN := hs.N13
  have hT := hs.T14
  obtain ⟨rfl, rfl, hr⟩ := hX
  refine ⟨va_cpy ro ro (14 * (p + 1)) (14 * p) (14 * (N - 1 - p)), ?_, rfl, rfl, fun d t hd ht => ?_⟩
  · unfold f_X3_remove
    have e1 : (nI N - 1 - nI p) * 14 = nI (14 * (N - 1 - p)) := by
      rw [show (1 : Int32) = nI 1 from rfl, pk_sub (by omega), pk_sub (by omega), show (14 : Int32) = nI 14 from rfl, pk_mul, Nat.mul_comm]
    have e2 : (nI p + 1) * 14 = nI (14 * (p + 1)) := by rw [nI_1, show (14 : Int32) = nI 14 from rfl, pk_mul, Nat.mul_comm]
    have e3 : nI p * 14 = nI (14 * p) := by rw [show (14 : Int32) = nI 14 from rfl, pk_mul, Nat.mul_comm]
    rw [x3hasDay_in (by omega) hp, Option.bind_some, if_neg one0, bd_eq, e1, e2, e3, if_pos ⟨nI_pos (by omega), nI_pos (by omega), nI_pos (by omega), by rw [nI_clamp (by omega), nI_clamp (by omega)]; omega, by rw [nI_clamp (by omega), nI_clamp (by omega)]; omega⟩, bd_eq, bd_eq, nI_clamp (by omega), nI_clamp (by omega), nI_clamp (by omega), show (1 : Int32) = nI 1 from rfl, pk_sub (by omega)]
  · unfold rmg
    by_cases c : d < p
    · rw [if_pos c, cpy_out _ _ _ _ _ (by omega)]
      exact hr d t (by omega) ht
    · rw [if_neg c]
      have := cpy_in ro ro (14 * (p + 1)) (14 * p) (14 * (N - 1 - p)) (i := 14 * (d - p) + t) (by omega)
      rw [show 14 * p + (14 * (d - p) + t) = 14 * d + t by omega, show 14 * (p + 1) + (14 * (d - p) + t) = 14 * (d + 1) + t by omega] at this
      rw [this]
      exact hr (d + 1) t (by omega) ht
theorem x9goes (hs : Sok T N g) (hM : PM no 0 T N g) {p : Nat} (hp : p < N) : ∃ no', f_X9_goes no (nI p) = some no' ∧ PM no' 0 T (N - 1) (rmg g p) := by
  have hN := hs.N13
  have hT := hs.T14
  unfold f_X9_goes
  rw [bd_eq, show (2 : Int32) + 14 * nI p = nI (2 + 14 * p) by rw [show (2 : Int32) = nI 2 from rfl, show (14 : Int32) = nI 14 from rfl, pk_mul, nI_add]]
  refine lp_ex (I := fun x => ∃ (k : Nat) (f : Nat → Int32), 2 + 14 * p ≤ k ∧ k ≤ 184 ∧ x = (nI k, f) ∧ (∀ j, j < 2 + 14 * p → f j = no j) ∧ (∀ j, k ≤ j → f j = no j) ∧ ∀ j, 2 + 14 * p ≤ j → j < k → j + 14 < 184 → f j = no (j + 14)) (ms := fun x => 184 - x.1.toNatClampNeg) (Post := fun no' => PM no' 0 T (N - 1) (rmg g p)) ?_ 20000 _ ⟨2 + 14 * p, no, by omega, by omega, rfl, fun j _ => rfl, fun j _ => rfl, fun j h1 h2 => by omega⟩ (by show 184 - _ < _; omega)
  rintro x ⟨k, f, h1, h2, rfl, f1, f2, f3⟩ self hself
  unfold f_X9_goes_L7
  dsimp only
  by_cases c : k = 184
  · subst c
    rw [if_pos (by decide), if_pos inb1, if_pos inb1, bd_eq]
    refine ⟨_, rfl, ?_, ?_, fun d t hd ht => ?_⟩
    · show upd f 1 _ 0 = nI T
      rw [upd_ne _ _ (by omega), f1 0 (by omega)]
      exact hM.1
    · show upd f 1 (f 1 - 1) 1 = nI (N - 1)
      rw [upd_at, f1 1 (by omega), show no 1 = nI N from hM.2.1, show (1 : Int32) = nI 1 from rfl, pk_sub (by omega)]
    · show upd f 1 _ _ = _
      rw [upd_ne _ _ (by omega)]
      unfold rmg
      by_cases c : d < p
      · rw [if_pos c, f1 _ (by omega)]
        exact hM.2.2 d t (by omega) ht
      · rw [if_neg c, f3 _ (by omega) (by omega) (by omega), show 0 + 2 + 14 * d + t + 14 = 0 + 2 + 14 * (d + 1) + t by omega]
        exact hM.2.2 (d + 1) t (by omega) ht
  · have hms : 184 - (nI (k + 1)).toNatClampNeg < 184 - (nI k).toNatClampNeg := by rw [nI_clamp (by omega), nI_clamp (by omega)]; omega
    rw [if_neg (show ¬ (184 : Int32) ≤ nI k from nI_ge (b := 184) (by omega) (by omega)), show (14 : Int32) = nI 14 from rfl, nI_add]
    by_cases c2 : 184 ≤ k + 14
    · rw [if_pos (show (184 : Int32) ≤ nI (k + 14) from (nI_leI (a := 184) (by omega) (by omega)).mpr c2), if_pos (inb_ok (by omega) (by omega)), bd_eq, bd_eq, nI_1, nI_clamp (by omega)]
      refine hself _ ⟨k + 1, _, by omega, by omega, rfl, fun j hj => ?_, fun j hj => ?_, fun j hj1 hj2 hj3 => ?_⟩ hms
      · rw [upd_ne _ _ (by omega)]; exact f1 j hj
      · rw [upd_ne _ _ (by omega)]; exact f2 j (by omega)
      · rw [upd_ne _ _ (by omega)]; exact f3 j hj1 (by omega) hj3
    · rw [if_neg (show ¬ (184 : Int32) ≤ nI (k + 14) from nI_ge (b := 184) (by omega) (by omega)), if_pos (inb_ok (by omega) (by omega)), if_pos (inb_ok (by omega) (by omega)), bd_eq, bd_eq, nI_1, nI_clamp (by omega), nI_clamp (by omega)]
      refine hself _ ⟨k + 1, _, by omega, by omega, rfl, fun j hj => ?_, fun j hj => ?_, fun j hj1 hj2 hj3 => ?_⟩ hms
      · rw [upd_ne _ _ (by omega)]; exact f1 j hj
      · rw [upd_ne _ _ (by omega)]; exact f2 j (by omega)
      · by_cases e : j = k
        · subst e
          rw [upd_at]; exact f2 _ (by omega)
        · rw [upd_ne _ _ e]; exact f3 j hj1 (by omega) hj3
end
theorem st_23 : St_23 rd_Inv := by
  intro k
  intros
  rename_i p1 hk hI
  have hI' := st_m k _ _ _ _ _ _ _ _ _ _ _ _ _ _ _ _ _ _ _ _ _ _ _ _ _ hI
  obtain ⟨hS, hA, h3, h4, h5, h7⟩ := hI
  obtain ⟨ah', an', abt', abd', abr', sm', snaps', ek, es, hA'⟩ := keep_snap hA hS
  obtain ⟨T, N, g, hs, hX, hM⟩ := hS
  have hN := hs.N13
  have eda := hX.2.1
  unfold f_X8_drop f_X9_drop
  by_cases c : ∃ d : Nat, d < N ∧ p1 = nI d
  · obtain ⟨d, hd, rfl⟩ := c
    obtain ⟨ro', e1, hX'⟩ := x3remove hs hX hd
    obtain ⟨no', e2, hM'⟩ := x9goes hs hM hd
    subst eda
    simp only [ek, es, e1, e2, x9isDay_in hs hM hd, x3hasDay_in (show N < 2 ^ 31 by omega) hd, x9days hM', Option.bind_some, if_neg one0]
    exact ⟨_, _, _, _, _, _, _, _, _, _, _, _, _, rfl, rfl, rfl, ⟨T, N - 1, rmg g d, hs.rm hd, hX', hM'⟩, hA', h3, h4, h5.s, h7⟩
  · rw [eda, x3hasDay_out (by omega) c, x9isDay_out hs hM c, Option.bind_some, Option.bind_some, if_pos zer0, if_pos zer0]
    rw [eda] at hI'
    exact ⟨_, _, _, _, _, _, _, _, _, _, _, _, _, rfl, rfl, rfl, hI'⟩
/-- two names changed -/
def sw (a b t : Nat) : Nat := if t = a then b else if t = b then a else t
theorem sw_sw (a b t : Nat) : sw a b (sw a b t) = t := by
  unfold sw
  by_cases h1 : t = a
  · subst h1
    rw [if_pos rfl]
    by_cases h2 : b = t
    · rw [if_pos h2]; exact h2
    · rw [if_neg h2, if_pos rfl]
  · rw [if_neg h1]
    by_cases h2 : t = b
    · rw [if_pos h2, if_pos rfl]; exact h2.symm
    · rw [if_neg h2, if_neg h1, if_neg h2]
def cj (a b : Nat) (g : Nat → Nat → Nat) (d t : Nat) : Nat := sw a b (g d (sw a b t))
theorem sw_lt {a b t T : Nat} (ha : a < T) (hb : b < T) (ht : t < T) : sw a b t < T := by
  unfold sw
  split
  · exact hb
  · split
    · exact ha
    · exact ht
theorem Sok.cj {T N : Nat} {g : Nat → Nat → Nat} (hs : Sok T N g) {a b : Nat} (ha : a < T) (hb : b < T) : Sok T N (cj a b g) := by
  refine ⟨hs.1, fun d t hd ht => ?_, fun d e t hd he ht h => ?_⟩
  · have h1 := hs.2.1 d (sw a b t) hd (sw_lt ha hb ht)
    refine ⟨sw_lt ha hb h1.1, fun h => h1.2.1 ?_, ?_⟩
    · have h' : sw a b (g d (sw a b t)) = t := h
      have := congrArg (sw a b) h'
      rw [sw_sw] at this
      exact this
    · show sw a b (g d (sw a b (sw a b (g d (sw a b t))))) = t
      rw [sw_sw, h1.2.2, sw_sw]
  · have h' : sw a b (g d (sw a b t)) = sw a b (g e (sw a b t)) := h
    have := congrArg (sw a b) h'
    rw [sw_sw, sw_sw] at this
    exact hs.2.2 d e _ hd he (sw_lt ha hb ht) this
/-- the row of a day, its names changed -/
theorem sw_row {T : Nat} (u : Nat → Nat) (hu : ∀ t, t < T → u t < T ∧ u t ≠ t ∧ u (u t) = t) {a b : Nat} (ha : a < T) (hb : b < T) (hab : a ≠ b) (f : Nat → Int32) (o : Nat) (hf : ∀ t, t < T → f (o + t) = nI (u t)) (hne : u a ≠ b) : ∀ t, t < T → upd (upd (upd (upd f (o + a) (nI (u b))) (o + u b) (nI a)) (o + b) (nI (u a))) (o + u a) (nI b) (o + t) = nI (sw a b (u (sw a b t))) := by
  intro t ht
  have hA := hu a ha
  have hB := hu b hb
  have hne2 : u b ≠ a := fun h => hne (by rw [← h, hB.2.2])
  by_cases c1 : t = u a
  · subst c1
    rw [upd_at]
    have : sw a b (u a) = u a := by unfold sw; rw [if_neg hA.2.1, if_neg hne]
    rw [this, hA.2.2]
    unfold sw
    rw [if_pos rfl]
  rw [upd_ne _ _ (by omega)]
  by_cases c2 : t = b
  · subst c2
    rw [upd_at]
    have : sw a t t = a := by unfold sw; rw [if_neg (fun h => hab h.symm), if_pos rfl]
    rw [this]
    unfold sw
    rw [if_neg hA.2.1, if_neg hne]
  rw [upd_ne _ _ (by omega)]
  by_cases c3 : t = u b
  · subst c3
    rw [upd_at]
    have : sw a b (u b) = u b := by unfold sw; rw [if_neg hne2, if_neg hB.2.1]
    rw [this, hB.2.2]
    unfold sw
    rw [if_neg (fun h => hab h.symm), if_pos rfl]
  rw [upd_ne _ _ (by omega)]
  by_cases c4 : t = a
  · subst c4
    rw [upd_at]
    have : sw t b t = b := by unfold sw; rw [if_pos rfl]
    rw [this]
    unfold sw
    rw [if_neg hne2, if_neg hB.2.1]
  rw [upd_ne _ _ (by omega), hf t ht]
  have : sw a b t = t := by unfold sw; rw [if_neg c4, if_neg c2]
  rw [this]
  have k1 : u t ≠ a := fun h => c1 (by rw [← h, (hu t ht).2.2])
  have k2 : u t ≠ b := fun h => c3 (by rw [← h, (hu t ht).2.2])
  unfold sw
  rw [if_neg k1, if_neg k2]
theorem sw_row0 {T : Nat} (u : Nat → Nat) (hu : ∀ t, t < T → u t < T ∧ u t ≠ t ∧ u (u t) = t) {a b : Nat} (ha : a < T) (hb : b < T) (hab : a ≠ b) (he : u a = b) : ∀ t, t < T → u t = sw a b (u (sw a b t)) := by
  intro t ht
  have hba : u b = a := by rw [← he, (hu a ha).2.2]
  by_cases c1 : t = a
  · subst c1
    rw [show sw t b t = b by unfold sw; rw [if_pos rfl], hba, he]
    unfold sw
    rw [if_pos rfl]
  · by_cases c2 : t = b
    · subst c2
      rw [show sw a t t = a by unfold sw; rw [if_neg c1, if_pos rfl], he, hba]
      unfold sw
      rw [if_neg c1, if_pos rfl]
    · rw [show sw a b t = t by unfold sw; rw [if_neg c1, if_neg c2]]
      have k1 : u t ≠ a := fun h => c2 (by rw [← (hu t ht).2.2, h, he])
      have k2 : u t ≠ b := fun h => c1 (by rw [← (hu t ht).2.2, h, hba])
      unfold sw
      rw [if_neg k1, if_neg k2]
theorem upd4 (f : Nat → Int32) {a b c d j : Nat} (x y z w : Int32) (h1 : j ≠ a) (h2 : j ≠ b) (h3 : j ≠ c) (h4 : j ≠ d) : upd (upd (upd (upd f a x) b y) c z) d w j = f j := by
  rw [upd_ne _ _ h4, upd_ne _ _ h3, upd_ne _ _ h2, upd_ne _ _ h1]
section
variable {T N : Nat} {g : Nat → Nat → Nat} {te da : Int32} {ro no : Nat → Int32} {o : Nat}
/-- on how many days two do not meet -/
def apt (N : Nat) (g : Nat → Nat → Nat) (a b : Nat) : Nat := pct N (fun d => decide (g d a ≠ b))
theorem x3swap (hs : Sok T N g) (hX : PX te da ro T N g) {a b : Nat} (ha : a < T) (hb : b < T) (hab : a ≠ b) : ∃ ro', f_X3_swapTeams te da ro (nI a) (nI b) = some (nI (apt N g a b), ro') ∧ PX te da ro' T N (cj a b g) := by
  have hN := hs.N13
  have hT := hs.T14
  obtain ⟨rfl, rfl, hr⟩ := hX
  have key : ∃ r, f_X3_swapTeams (nI T) (nI N) ro (nI a) (nI b) = some r ∧ (r.1 = nI (apt N g a b) ∧ PX (nI T) (nI N) r.2 T N (cj a b g)) := by
    unfold f_X3_swapTeams
    rw [x3has2_in T (by omega) ha hb hab, Option.bind_some, if_neg one0]
    refine lp_ex (I := fun x => ∃ (d : Nat) (f : Nat → Int32), d ≤ N ∧ x = (nI (pct d (fun d => decide (g d a ≠ b))), nI d, f) ∧ (∀ e t, e < d → t < T → f (14 * e + t) = nI (cj a b g e t)) ∧ ∀ e t, d ≤ e → e < N → t < T → f (14 * e + t) = nI (g e t)) (ms := fun x => N - x.2.1.toNatClampNeg) (Post := fun r : Int32 × (Nat → Int32) => r.1 = nI (apt N g a b) ∧ PX (nI T) (nI N) r.2 T N (cj a b g)) ?_ 20000 _ ⟨0, ro, by omega, rfl, fun e t h => by omega, fun e t _ he ht => hr e t he ht⟩ (by show N - _ < _; omega)
    rintro x ⟨d, f, hd, rfl, f1, f2⟩ self hself
    unfold f_X3_swapTeams_L16
    dsimp only
    by_cases c : N ≤ d
    · rw [if_pos ((nI_leI (by omega) (by omega)).mpr c), show d = N by omega]
      rw [show d = N by omega] at f1
      exact ⟨_, rfl, rfl, rfl, rfl, f1⟩
    · have hu := fun t ht => hs.2.1 d t (by omega) ht
      have hms : N - (nI (d + 1)).toNatClampNeg < N - (nI d).toNatClampNeg := by rw [nI_clamp (by omega), nI_clamp (by omega)]; omega
      rw [if_neg (nI_ge (by omega) (by omega)), partner_at hT hN f (by omega) ha, Option.bind_some, partner_at hT hN f (by omega) hb, Option.bind_some, f2 d a (by omega) (by omega) ha, f2 d b (by omega) (by omega) hb]
      have hga := hu a ha
      have hgb := hu b hb
      by_cases c2 : g d a = b
      · rw [if_pos (congrArg nI c2), bd_eq, nI_1]
        refine hself _ ⟨d + 1, f, by omega, ?_, fun e t he ht => ?_, fun e t he h2 ht => f2 e t (by omega) h2 ht⟩ hms
        · show _ = (nI (pct d _ + (if decide (g d a ≠ b) then 1 else 0)), _, _)
          rw [decide_eq_false (fun h => h c2 : ¬ g d a ≠ b)]
          rfl
        · by_cases e1 : e = d
          · subst e1
            rw [f2 e t (by omega) (by omega) ht]
            exact congrArg nI (sw_row0 (g e) hu ha hb hab c2 t ht)
          · exact f1 e t (by omega) ht
      · have hne2 : g d b ≠ a := fun h => c2 (by rw [← h, hgb.2.2])
        rw [if_neg (fun h => c2 ((nI_eq (by omega) (by omega)).mp h)), x3pair_at hT hN f (by omega) ha hgb.1 (fun h => hne2 h.symm), Option.bind_some, x3pair_at hT hN _ (by omega) hb hga.1 (fun h => c2 h.symm), Option.bind_some, bd_eq, bd_eq, nI_1, nI_1]
        refine hself _ ⟨d + 1, _, by omega, tup3 (pct_t (p := fun d => decide (g d a ≠ b)) (decide_eq_true c2)) _ _, fun e t he ht => ?_, fun e t he h2 ht => ?_⟩ hms
        · by_cases e1 : e = d
          · subst e1
            exact sw_row (g e) hu ha hb hab f (14 * e) (fun t ht => f2 e t (by omega) (by omega) ht) c2 t ht
          · rw [upd4 _ _ _ _ _ (by omega) (by omega) (by omega) (by omega)]
            exact f1 e t (by omega) ht
        · rw [upd4 _ _ _ _ _ (by omega) (by omega) (by omega) (by omega)]
          exact f2 e t (by omega) h2 ht
  obtain ⟨⟨r, ro'⟩, h1, h2, h3⟩ := key
  dsimp only at h2 h3
  subst h2
  exact ⟨ro', h1, h3⟩
theorem x9names (hs : Sok T N g) (hM : PM no 0 T N g) {a b : Nat} (ha : a < T) (hb : b < T) (hab : a ≠ b) : ∃ no', f_X9_names no (nI a) (nI b) = some (nI (apt N g a b), no') ∧ PM no' 0 T N (cj a b g) := by
  have hN := hs.N13
  have hT := hs.T14
  have key : ∃ r, f_X9_names no (nI a) (nI b) = some r ∧ (r.1 = nI (apt N g a b) ∧ PM r.2 0 T N (cj a b g)) := by
    unfold f_X9_names
    refine lp_ex (I := fun x => ∃ (d : Nat) (f : Nat → Int32), d ≤ N ∧ x = (nI (pct d (fun d => decide (g d a ≠ b))), nI d, f) ∧ f 0 = nI T ∧ f 1 = nI N ∧ (∀ e t, e < d → t < T → f (2 + 14 * e + t) = nI (cj a b g e t)) ∧ ∀ e t, d ≤ e → e < N → t < T → f (2 + 14 * e + t) = nI (g e t)) (ms := fun x => N - x.2.1.toNatClampNeg) (Post := fun r : Int32 × (Nat → Int32) => r.1 = nI (apt N g a b) ∧ PM r.2 0 T N (cj a b g)) ?_ 20000 _ ⟨0, no, by omega, rfl, hM.1, hM.2.1, fun e t h => by omega, fun e t _ he ht => by have := hM.2.2 e t he ht; rw [Nat.zero_add] at this; exact this⟩ (by show N - _ < _; omega)
    rintro x ⟨d, f, hd, rfl, fT, fN, f1, f2⟩ self hself
    unfold f_X9_names_L5
    dsimp only
    have ed : f_X9_days f = some (nI N) := by
      unfold f_X9_days
      rw [if_pos inb1]
      exact congrArg some fN
    rw [ed, Option.bind_some]
    by_cases c : N ≤ d
    · rw [if_pos ((nI_leI (by omega) (by omega)).mpr c), show d = N by omega]
      rw [show d = N by omega] at f1
      exact ⟨_, rfl, rfl, fT, fN, fun e t he ht => by rw [Nat.zero_add]; exact f1 e t he ht⟩
    · have hu := fun t ht => hs.2.1 d t (by omega) ht
      have hms : N - (nI (d + 1)).toNatClampNeg < N - (nI d).toNatClampNeg := by rw [nI_clamp (by omega), nI_clamp (by omega)]; omega
      rw [if_neg (nI_ge (by omega) (by omega)), x9meets_at 184 (by omega) (by omega) f (by omega) (by omega), Option.bind_some, x9meets_at 184 (by omega) (by omega) f (by omega) (by omega), Option.bind_some, f2 d a (by omega) (by omega) ha, f2 d b (by omega) (by omega) hb]
      have hga := hu a ha
      have hgb := hu b hb
      by_cases c2 : g d a = b
      · rw [if_pos (congrArg nI c2), bd_eq, nI_1]
        refine hself _ ⟨d + 1, f, by omega, ?_, fT, fN, fun e t he ht => ?_, fun e t he h2 ht => f2 e t (by omega) h2 ht⟩ hms
        · show _ = (nI (pct d _ + (if decide (g d a ≠ b) then 1 else 0)), _, _)
          rw [decide_eq_false (fun h => h c2 : ¬ g d a ≠ b)]
          rfl
        · by_cases e1 : e = d
          · subst e1
            rw [f2 e t (by omega) (by omega) ht]
            exact congrArg nI (sw_row0 (g e) hu ha hb hab c2 t ht)
          · exact f1 e t (by omega) ht
      · rw [if_neg (fun h => c2 ((nI_eq (by omega) (by omega)).mp h)), x9pairs_at 184 (by omega) (by omega) f (by omega) (by omega) (by omega), Option.bind_some, x9pairs_at 184 (by omega) (by omega) _ (by omega) (by omega) (by omega), Option.bind_some, bd_eq, bd_eq, nI_1, nI_1]
        refine hself _ ⟨d + 1, _, by omega, tup3 (pct_t (p := fun d => decide (g d a ≠ b)) (decide_eq_true c2)) _ _, ?_, ?_, fun e t he ht => ?_, fun e t he h2 ht => ?_⟩ hms
        · rw [upd4 _ _ _ _ _ (by omega) (by omega) (by omega) (by omega)]; exact fT
        · rw [upd4 _ _ _ _ _ (by omega) (by omega) (by omega) (by omega)]; exact fN
        · by_cases e1 : e = d
          · subst e1
            exact sw_row (g e) hu ha hb hab f (2 + 14 * e) (fun t ht => f2 e t (by omega) (by omega) ht) c2 t ht
          · rw [upd4 _ _ _ _ _ (by omega) (by omega) (by omega) (by omega)]
            exact f1 e t (by omega) ht
        · rw [upd4 _ _ _ _ _ (by omega) (by omega) (by omega) (by omega)]
          exact f2 e t (by omega) h2 ht
  obtain ⟨⟨r, no'⟩, h1, h2, h3⟩ := key
  dsimp only at h2 h3
  subst h2
  exact ⟨no', h1, h3⟩
end
theorem st_25 : St_25 rd_Inv := by
  intro k
  intros
  rename_i p1 p2 hk hI
  have hI' := st_m k _ _ _ _ _ _ _ _ _ _ _ _ _ _ _ _ _ _ _ _ _ _ _ _ _ hI
  obtain ⟨hS, hA, h3, h4, h5, h7⟩ := hI
  obtain ⟨ah', an', abt', abd', abr', sm', snaps', ek, es, hA'⟩ := keep_snap hA hS
  obtain ⟨T, N, g, hs, hX, hM⟩ := hS
  have hT := hs.T14
  have ete := hX.1
  unfold f_X8_name f_X9_name
  rcases twoDays (N := T) (by omega) p1 p2 with ⟨a, b, ha, hb, hab, rfl, rfl⟩ | ⟨hno, h | ⟨⟨a, ha, rfl⟩, h | ⟨⟨b, hb, rfl⟩, h⟩⟩⟩
  · obtain ⟨ro', e1, hX'⟩ := x3swap hs hX ha hb hab
    obtain ⟨no', e2, hM'⟩ := x9names hs hM ha hb hab
    subst ete
    simp only [ek, es, e1, e2, x9isTeam_in hs hM ha, x9isTeam_in hs hM hb, if_neg (show ¬ nI a = nI b from fun e => hab ((nI_eq (by omega) (by omega)).mp e)), x3has2_in T (show T < 2 ^ 31 by omega) ha hb hab, Option.bind_some, if_neg one0]
    exact ⟨_, _, _, _, _, _, _, _, _, _, _, _, rfl, rfl, rfl, ⟨T, N, cj a b g, hs.cj ha hb, hX', hM'⟩, hA', h3, h4, h5.s, h7⟩
  · rw [ete, x3has2_out T (by omega) _ _ hno, x9isTeam_out hs hM h, Option.bind_some, Option.bind_some, if_pos zer0, if_pos zer0]
    rw [ete] at hI'
    exact ⟨_, _, _, _, _, _, _, _, _, _, _, _, rfl, rfl, rfl, hI'⟩
  · rw [ete, x3has2_out T (by omega) _ _ hno, x9isTeam_in hs hM ha, x9isTeam_out hs hM h, Option.bind_some, Option.bind_some, Option.bind_some, if_pos zer0, if_neg one0, if_pos zer0]
    rw [ete] at hI'
    exact ⟨_, _, _, _, _, _, _, _, _, _, _, _, rfl, rfl, rfl, hI'⟩
  · rw [ete, x3has2_out T (by omega) _ _ hno, x9isTeam_in hs hM ha, x9isTeam_in hs hM hb, Option.bind_some, Option.bind_some, Option.bind_some, if_pos zer0, if_neg one0, if_neg one0, if_pos h]
    rw [ete] at hI'
    exact ⟨_, _, _, _, _, _, _, _, _, _, _, _, rfl, rfl, rfl, hI'⟩
