/-! OURS: weed -/
def wd (q : Nat → Bool) (N : Nat) (g : Nat → Nat → Nat) : Nat → Nat × (Nat → Nat → Nat)
  | 0 => (N, g)
  | k + 1 => if q (N - 1 - k) then ((wd q N g k).1 - 1, rmg (wd q N g k).2 (N - 1 - k)) else wd q N g k
theorem wd_t {q : Nat → Bool} {N : Nat} {g : Nat → Nat → Nat} {k : Nat} (h : q (N - 1 - k) = true) : wd q N g (k + 1) = ((wd q N g k).1 - 1, rmg (wd q N g k).2 (N - 1 - k)) := if_pos h
theorem wd_f {q : Nat → Bool} {N : Nat} {g : Nat → Nat → Nat} {k : Nat} (h : q (N - 1 - k) = false) : wd q N g (k + 1) = wd q N g k := if_neg (by rw [h]; decide)
theorem pct_split (n : Nat) (p q r : Nat → Bool) (h : ∀ i, i < n → r i = (p i || q i) ∧ (p i && q i) = false) : pct n r = pct n p + pct n q := by
  induction n with
  | zero => rfl
  | succ n ih =>
    show pct n r + _ = pct n p + _ + (pct n q + _)
    have h1 := h n (by omega)
    rw [ih (fun i hi => h i (by omega)), h1.1]
    have h2 := h1.2
    cases hp : p n <;> cases hq : q n
    · rfl
    · simp; omega
    · simp; omega
    · rw [hp, hq] at h2; cases h2
theorem nI_down (m : Nat) : nI (m + 1) - 1 = nI m := by
  rw [show (1 : Int32) = nI 1 from rfl, pk_sub (by omega)]; rfl
theorem nI_dn (m : Nat) : nI m + (-1) = nI m - 1 := (Int32.sub_eq_add_neg _ _).symm
theorem nI_neg0 : nI 0 - 1 < (0 : Int32) := by decide
section
variable {T N : Nat} {g : Nat → Nat → Nat} {te da : Int32} {ro no : Nat → Int32} {o : Nat}
theorem wd_ok (hs : Sok T N g) (q : Nat → Bool) : ∀ k, k ≤ N → Sok T (wd q N g k).1 (wd q N g k).2 ∧ N - k ≤ (wd q N g k).1
  | 0, _ => ⟨hs, Nat.le_refl _⟩
  | k + 1, h => by
    obtain ⟨h1, h2⟩ := wd_ok hs q k (by omega)
    cases hq : q (N - 1 - k) with
    | true =>
      rw [wd_t hq]
      exact ⟨h1.rm (by omega), by show _ ≤ _ - 1; omega⟩
    | false =>
      rw [wd_f hq]
      exact ⟨h1, by omega⟩
def lowq (T N : Nat) (g : Nat → Nat → Nat) (p : Int32) (d : Nat) : Bool := decide (nI (sg T N g d) < p)
theorem x4below (hs : Sok T N g) (ds : Nat → Int32) (h3 : ∀ s, s < 13 → ds s = nI (sgN T N g (nI s))) (p : Int32) : f_X4_daysBelow ds p = some (nI (pct N (lowq T N g p))) := by
  have hN := hs.N13
  unfold f_X4_daysBelow
  refine lp_spec (I := fun x => ∃ s, s ≤ 13 ∧ x = (nI (pct N (fun d => decide (sg T N g d < s))), nI s) ∧ ∀ j, j < s → nI j < p) (ms := fun x => 13 - x.2.toNatClampNeg) (res := fun _ => some (nI (pct N (lowq T N g p)))) ?_ 20000 _ ⟨0, by omega, ?_, fun j h => by omega⟩ (by show 13 - _ < _; omega)
  · rintro x ⟨s, hs13, rfl, hj⟩ self hself
    unfold f_X4_daysBelow_L4
    dsimp only
    by_cases c : s = 13
    · subst c
      rw [if_pos (by decide)]
      refine congrArg (fun z => some (nI z)) (pct_congr N _ _ (fun d hd => ?_))
      have h1 := sg_lt (T := T) (g := g) hd
      show decide (sg T N g d < 13) = decide (nI (sg T N g d) < p)
      rw [decide_eq_true (show sg T N g d < 13 by omega), decide_eq_true (hj _ (by omega))]
    · rw [if_neg (show ¬ (13 : Int32) ≤ nI s from nI_ge (b := 13) (by omega) (by omega))]
      by_cases c2 : p ≤ nI s
      · rw [if_pos c2]
        refine congrArg (fun z => some (nI z)) (pct_congr N _ _ (fun d hd => ?_))
        have h1 := sg_lt (T := T) (g := g) hd
        show decide (sg T N g d < s) = decide (nI (sg T N g d) < p)
        rw [Bool.eq_iff_iff, decide_eq_true_iff, decide_eq_true_iff]
        refine ⟨fun h => hj _ h, fun h => ?_⟩
        rcases Nat.lt_or_ge (sg T N g d) s with h2 | h2
        · exact h2
        · exact absurd h (Int32.not_lt.mpr (Int32.le_trans c2 ((nI_leI (by omega) (by omega)).mpr h2)))
      · rw [if_neg c2, if_pos (inb_ok (by omega) (by omega)), bd_eq, bd_eq, nI_clamp (by omega), nI_1, h3 s (by omega), nI_add]
        refine hself _ ⟨s + 1, by omega, ?_, fun j hj' => ?_⟩ (by show 13 - (nI (s + 1)).toNatClampNeg < 13 - (nI s).toNatClampNeg; rw [nI_clamp (by omega), nI_clamp (by omega)]; omega)
        · refine congrArg (fun z => (nI z, nI (s + 1))) (pct_split N _ _ _ (fun d hd => ?_)).symm
          have h1 := sg_lt (T := T) (g := g) hd
          constructor
          · rw [Bool.eq_iff_iff, Bool.or_eq_true, decide_eq_true_iff, decide_eq_true_iff, decide_eq_true_iff, nI_eq (by omega) (by omega)]
            omega
          · rw [Bool.eq_false_iff]
            intro h
            rw [Bool.and_eq_true, decide_eq_true_iff, decide_eq_true_iff, nI_eq (by omega) (by omega)] at h
            omega
        · by_cases e : j = s
          · subst e; exact Int32.not_le.mp c2
          · exact hj j (by omega)
  · have : pct N (fun d => decide (sg T N g d < 0)) = 0 := by
      have hp : ∀ n, pct n (fun d => decide (sg T N g d < 0)) = 0 := by
        intro n
        induction n with
        | zero => rfl
        | succ n ih => rw [← pct_f (decide_eq_false (by omega)), ih]
      exact hp N
    rw [this]
    rfl
theorem x8weed_go (hs : Sok T N g) (hX : PX te da ro T N g) (ss : Nat → Int32) (h1 : ∀ i, i < N → ss i = nI (sg T N g i)) (p x2 ah an : Int32) (bt9 bd9 : Nat → Int32) (br : Nat → Nat → Int32) (ds pp : Nat → Int32) : ∃ ro', lp (f_X8_weed_L47 te p x2 ah an bt9 bd9 br (nI N) ss ds pp) 20000 (nI N - 1, da, ro) = some (x2, nI (wd (lowq T N g p) N g N).1, ro', ah, an, bt9, bd9, br, nI N, ss, ds, pp) ∧ PX te (nI (wd (lowq T N g p) N g N).1) ro' T (wd (lowq T N g p) N g N).1 (wd (lowq T N g p) N g N).2 := by
  have hN := hs.N13
  have key : ∃ r, lp (f_X8_weed_L47 te p x2 ah an bt9 bd9 br (nI N) ss ds pp) 20000 (nI N - 1, da, ro) = some r ∧ ∃ ro', r = (x2, nI (wd (lowq T N g p) N g N).1, ro', ah, an, bt9, bd9, br, nI N, ss, ds, pp) ∧ PX te (nI (wd (lowq T N g p) N g N).1) ro' T (wd (lowq T N g p) N g N).1 (wd (lowq T N g p) N g N).2 := by
    refine lp_ex (I := fun x => ∃ (k : Nat) (f : Nat → Int32), k ≤ N ∧ x = (nI (N - k) - 1, nI (wd (lowq T N g p) N g k).1, f) ∧ PX te (nI (wd (lowq T N g p) N g k).1) f T (wd (lowq T N g p) N g k).1 (wd (lowq T N g p) N g k).2) (ms := fun x => (x.1 + 1).toNatClampNeg) (Post := fun r => ∃ ro', r = (x2, nI (wd (lowq T N g p) N g N).1, ro', ah, an, bt9, bd9, br, nI N, ss, ds, pp) ∧ PX te (nI (wd (lowq T N g p) N g N).1) ro' T (wd (lowq T N g p) N g N).1 (wd (lowq T N g p) N g N).2) ?_ 20000 _ ⟨0, ro, by omega, by rw [hX.2.1]; rfl, by have := hX; rw [hX.2.1] at this; exact this⟩ (by show (nI N - 1 + 1).toNatClampNeg < _; rw [Int32.sub_add_cancel, nI_clamp (by omega)]; omega)
    rintro x ⟨k, f, hk, rfl, hf⟩ self hself
    obtain ⟨w1, w2⟩ := wd_ok hs (lowq T N g p) k hk
    unfold f_X8_weed_L47
    dsimp only
    by_cases c : k = N
    · subst c
      rw [Nat.sub_self, if_pos nI_neg0]
      exact ⟨_, rfl, f, rfl, hf⟩
    · have e1 : nI (N - k) - 1 = nI (N - 1 - k) := by rw [show N - k = (N - 1 - k) + 1 by omega, nI_down]
      have hms : (nI (N - (k + 1)) - 1 + 1).toNatClampNeg < (nI (N - k) - 1 + 1).toNatClampNeg := by
        rw [Int32.sub_add_cancel, Int32.sub_add_cancel, nI_clamp (by omega), nI_clamp (by omega)]; omega
      have hsg := sg_lt (T := T) (g := g) (show N - 1 - k < N by omega)
      have e2 : nI (N - 1 - k) + (-1) = nI (N - (k + 1)) - 1 := by rw [nI_dn, show N - 1 - k = N - (k + 1) by omega]
      rw [e1, if_neg (nI_pos (by omega)), x4signOf hs ss (by omega), Option.bind_some, h1 _ (by omega)]
      by_cases c2 : p ≤ nI (sg T N g (N - 1 - k))
      · have hq : lowq T N g p (N - 1 - k) = false := decide_eq_false (Int32.not_lt.mpr c2)
        rw [if_pos c2, bd_eq, e2]
        refine hself _ ⟨k + 1, f, by omega, ?_, ?_⟩ hms
        · rw [wd_f hq]
        · rw [wd_f hq]; exact hf
      · have hq : lowq T N g p (N - 1 - k) = true := decide_eq_true (Int32.not_le.mp c2)
        obtain ⟨ro', e3, hX'⟩ := x3remove w1 hf (p := N - 1 - k) (by omega)
        rw [if_neg c2, e3, Option.bind_some]
        dsimp only
        rw [bd_eq, e2]
        refine hself _ ⟨k + 1, ro', by omega, ?_, ?_⟩ hms
        · rw [wd_t hq]
        · rw [wd_t hq]; exact hX'
  obtain ⟨r, e, ro', rfl, h⟩ := key
  exact ⟨ro', e, h⟩
theorem x9weed_go (hs : Sok T N g) (hM : PM no 0 T N g) (q : Nat → Bool) (st : Int32) (hst : ∀ i, i < N → bt st i = q i) (p sm : Int32) (sn : Nat → Int32) : ∃ no', lp (f_X9_weed_L61 p st 0 sm sn) 20000 (0, nI N - 1, no) = some (nI (pct N q), 0, sm, no', sn) ∧ PM no' 0 T (wd q N g N).1 (wd q N g N).2 := by
  have hN := hs.N13
  have key : ∃ r, lp (f_X9_weed_L61 p st 0 sm sn) 20000 (0, nI N - 1, no) = some r ∧ ∃ no', r = (nI (pct N q), 0, sm, no', sn) ∧ PM no' 0 T (wd q N g N).1 (wd q N g N).2 := by
    refine lp_ex (I := fun x => ∃ (k c : Nat) (f : Nat → Int32), k ≤ N ∧ x = (nI c, nI (N - k) - 1, f) ∧ c + pct (N - k) q = pct N q ∧ PM f 0 T (wd q N g k).1 (wd q N g k).2) (ms := fun x => (x.2.1 + 1).toNatClampNeg) (Post := fun r => ∃ no', r = (nI (pct N q), 0, sm, no', sn) ∧ PM no' 0 T (wd q N g N).1 (wd q N g N).2) ?_ 20000 _ ⟨0, 0, no, by omega, rfl, by rw [Nat.zero_add]; rfl, hM⟩ (by show (nI N - 1 + 1).toNatClampNeg < _; rw [Int32.sub_add_cancel, nI_clamp (by omega)]; omega)
    rintro x ⟨k, c, f, hk, rfl, hc, hf⟩ self hself
    obtain ⟨w1, w2⟩ := wd_ok hs q k hk
    unfold f_X9_weed_L61
    dsimp only
    by_cases c : k = N
    · subst c
      rw [Nat.sub_self, if_pos nI_neg0]
      rw [Nat.sub_self] at hc
      exact ⟨_, rfl, f, by rw [← hc]; rfl, hf⟩
    · have e1 : nI (N - k) - 1 = nI (N - 1 - k) := by rw [show N - k = (N - 1 - k) + 1 by omega, nI_down]
      have hms : (nI (N - (k + 1)) - 1 + 1).toNatClampNeg < (nI (N - k) - 1 + 1).toNatClampNeg := by
        rw [Int32.sub_add_cancel, Int32.sub_add_cancel, nI_clamp (by omega), nI_clamp (by omega)]; omega
      have e2 : nI (N - 1 - k) + (-1) = nI (N - (k + 1)) - 1 := by rw [nI_dn, show N - 1 - k = N - (k + 1) by omega]
      rw [show N - k = (N - 1 - k) + 1 by omega] at hc
      rw [e1, if_neg (nI_pos (by omega))]
      cases hq : q (N - 1 - k) with
      | false =>
        rw [x9has_f (by omega) ((hst _ (by omega)).trans hq), Option.bind_some, if_pos zer0, bd_eq, e2]
        refine hself _ ⟨k + 1, _, f, by omega, rfl, ?_, ?_⟩ hms
        · rw [← pct_f hq] at hc
          rw [show N - (k + 1) = N - 1 - k by omega]; exact hc
        · rw [wd_f hq]; exact hf
      | true =>
        obtain ⟨no', e3, hX'⟩ := x9goes w1 hf (p := N - 1 - k) (by omega)
        rw [x9has_t (by omega) ((hst _ (by omega)).trans hq), Option.bind_some, if_neg one0, e3, Option.bind_some, bd_eq, bd_eq, e2, nI_1]
        refine hself _ ⟨k + 1, _, no', by omega, rfl, ?_, ?_⟩ hms
        · rw [← pct_t hq] at hc
          rw [show N - (k + 1) = N - 1 - k by omega]; omega
        · rw [wd_t hq]; exact hX'
  obtain ⟨r, e, no', rfl, h⟩ := key
  exact ⟨no', e, h⟩
theorem x9weed (hs : Sok T N g) (hX : PX te da ro T N g) (hM : PM no 0 T N g) (p th sm : Int32) (sn : Nat → Int32) {sm' : Int32} {sn' : Nat → Int32} (es : f_X9_snap sm no sn = some (sm', sn')) : ∃ no', f_X9_weed th sm no sn p = (if pct N (lowq T N g p) = 0 then some (0, 0, sm, no, sn) else some (nI (pct N (lowq T N g p)), 0, sm', no', sn')) ∧ PM no' 0 T (wd (lowq T N g p) N g N).1 (wd (lowq T N g p) N g N).2 := by
  have hN := hs.N13
  have key : ∃ r, f_X9_weed th sm no sn p = some r ∧ ∃ no', r = (if pct N (lowq T N g p) = 0 then (0, 0, sm, no, sn) else (nI (pct N (lowq T N g p)), 0, sm', no', sn')) ∧ PM no' 0 T (wd (lowq T N g p) N g N).1 (wd (lowq T N g p) N g N).2 := by
    unfold f_X9_weed
    refine lp_ex (I := fun x => ∃ (st : Int32) (d : Nat), d ≤ N ∧ x = (st, nI d) ∧ ∀ i, i < 32 → bt st i = (decide (i < d) && lowq T N g p i)) (ms := fun x => N - x.2.toNatClampNeg) (Post := fun r => ∃ no', r = (if pct N (lowq T N g p) = 0 then (0, 0, sm, no, sn) else (nI (pct N (lowq T N g p)), 0, sm', no', sn')) ∧ PM no' 0 T (wd (lowq T N g p) N g N).1 (wd (lowq T N g p) N g N).2) ?_ 20000 _ ⟨0, 0, by omega, rfl, fun i hi => by rw [b_0, decide_eq_false (by omega)]; rfl⟩ (by show N - _ < _; omega)
    rintro x ⟨st, d, hd, rfl, hst⟩ self hself
    unfold f_X9_weed_L9
    dsimp only
    rw [x9days hM, Option.bind_some]
    by_cases c : N ≤ d
    · have hdN : d = N := by omega
      subst hdN
      rw [if_pos ((nI_leI (by omega) (by omega)).mpr c)]
      obtain ⟨no', e1, h1⟩ := x9weed_go hs hM (lowq T d g p) st (fun i hi => by rw [hst i (by omega), decide_eq_true hi]; rfl) p sm' sn'
      by_cases c2 : st = 0
      · rw [if_pos c2]
        have h0 : pct d (lowq T d g p) = 0 := by
          rcases Nat.eq_zero_or_pos (pct d (lowq T d g p)) with h | h
          · exact h
          · obtain ⟨i, hi, hq⟩ := pct_pos _ _ h
            have := hst i (by omega)
            rw [c2, b_0, decide_eq_true hi, hq] at this
            cases this
        exact ⟨_, rfl, no', by rw [if_pos h0], h1⟩
      · rw [if_neg c2, es, Option.bind_some]
        dsimp only
        rw [Option.bind_some, bd_eq, e1]
        have h0 : ¬ pct d (lowq T d g p) = 0 := by
          intro h
          refine c2 ((b_eq0 st).mpr (fun i hi => ?_))
          rw [hst i hi]
          by_cases c3 : i < d
          · rw [pct_0 _ _ h i c3, Bool.and_false]
          · rw [decide_eq_false c3]; rfl
        exact ⟨_, rfl, no', by rw [if_neg h0], h1⟩
    · have hms : N - (nI (d + 1)).toNatClampNeg < N - (nI d).toNatClampNeg := by rw [nI_clamp (by omega), nI_clamp (by omega)]; omega
      rw [if_neg (nI_ge (by omega) (by omega)), x9signOf hs hX 184 (by omega) (by omega) hM (by omega), Option.bind_some]
      by_cases c2 : p ≤ nI (sg T N g d)
      · have hq : lowq T N g p d = false := decide_eq_false (Int32.not_lt.mpr c2)
        rw [if_pos c2, bd_eq, nI_1]
        refine hself _ ⟨st, d + 1, by omega, rfl, fun i hi => ?_⟩ hms
        rw [hst i hi]
        by_cases e : i = d
        · subst e; rw [hq, Bool.and_false, Bool.and_false]
        · rw [show decide (i < d) = decide (i < d + 1) by rw [Bool.eq_iff_iff, decide_eq_true_iff, decide_eq_true_iff]; omega]
      · have hq : lowq T N g p d = true := decide_eq_true (Int32.not_le.mp c2)
        rw [if_neg c2, bd_eq, bd_eq, nI_1]
        refine hself _ ⟨_, d + 1, by omega, rfl, fun i hi => ?_⟩ hms
        rw [b_or, b_sh1 d (by omega) hi, hst i hi]
        by_cases e : i = d
        · subst e; rw [hq, decide_eq_true (rfl : i = i), decide_eq_true (show i < i + 1 by omega)]; simp
        · rw [decide_eq_false e, Bool.or_false, show decide (i < d) = decide (i < d + 1) by rw [Bool.eq_iff_iff, decide_eq_true_iff, decide_eq_true_iff]; omega]
  obtain ⟨r, e, no', rfl, h⟩ := key
  refine ⟨no', ?_, h⟩
  rw [e]
  split <;> rfl
end
theorem st_24 : St_24 rd_Inv := by
  intro k
  intros
  rename_i p1 hk hI
  have hI' := st_m k _ _ _ _ _ _ _ _ _ _ _ _ _ _ _ _ _ _ _ _ _ _ _ _ _ hI
  obtain ⟨hS, hA, h3, h4, h5, h7⟩ := hI
  obtain ⟨ah', an', abt', abd', abr', sm', snaps', ek, es, hA'⟩ := keep_snap hA hS
  obtain ⟨T, N, g, hs, hX, hM⟩ := hS
  have hN := hs.N13
  obtain ⟨nd, ns, nds, np, e, rfl, k2, k3, k4⟩ := x8makeM hs hX hM _ _ _ _
  obtain ⟨no', e9, hM'⟩ := x9weed hs hX hM p1 _ _ _ es
  have hmax := pct_max N (lowq T N g p1)
  unfold f_X8_weed
  rw [e, e9, Option.bind_some]
  dsimp only
  rw [x4below hs _ k3, Option.bind_some]
  by_cases c : pct N (lowq T N g p1) = 0
  · rw [if_pos c, if_pos (by rw [c]; rfl)]
    exact ⟨_, _, _, _, _, _, _, _, _, _, _, _, _, _, _, _, _, rfl, rfl, rfl, hI'⟩
  · rw [if_neg c, if_neg (nI_ne0 (by omega) (by omega)), ek, Option.bind_some]
    dsimp only
    obtain ⟨ro', e8, hX'⟩ := x8weed_go hs hX ns k2 p1 (nI (pct N (lowq T N g p1))) ah' an' abt' abd' abr' nds np
    obtain ⟨eT, eN, -⟩ := hX
    subst eN
    rw [bd_eq, e8]
    exact ⟨_, _, _, _, _, _, _, _, _, _, _, _, _, _, _, _, _, rfl, rfl, rfl, ⟨T, _, _, (wd_ok hs _ N (Nat.le_refl _)).1, hX', hM'⟩, hA', h3, h4, h5.s, h7⟩
