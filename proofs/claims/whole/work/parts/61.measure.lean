/-! OURS: the profile measured -/
theorem x4clear (s d p : Nat → Int32) : ∃ s' d' p', f_X4_clear s d p = some (s', d', p') ∧ (∀ i, i < 13 → s' i = 0 ∧ d' i = 0) ∧ ∀ i, i < 8 → p' i = 0 := by
  have key : ∃ r, f_X4_clear s d p = some r ∧ ((∀ i, i < 13 → r.1 i = 0 ∧ r.2.1 i = 0) ∧ ∀ i, i < 8 → r.2.2 i = 0) := by
    unfold f_X4_clear
    refine lp_ex (I := fun x => ∃ (k : Nat) (s1 d1 : Nat → Int32), k ≤ 13 ∧ x = (nI k, s1, d1) ∧ ∀ i, i < k → s1 i = 0 ∧ d1 i = 0) (ms := fun x => 13 - x.1.toNatClampNeg) (Post := fun r : (Nat → Int32) × (Nat → Int32) × (Nat → Int32) => (∀ i, i < 13 → r.1 i = 0 ∧ r.2.1 i = 0) ∧ ∀ i, i < 8 → r.2.2 i = 0) ?_ 20000 _ ⟨0, s, d, by omega, rfl, fun i h => by omega⟩ (by show 13 - _ < _; omega)
    rintro x ⟨k, s1, d1, hk, rfl, hz⟩ self hself
    show ∃ r, (if (13 : Int32) ≤ nI k then _ else _) = some r ∧ _
    by_cases c : k = 13
    · subst c
      rw [if_pos (by decide)]
      refine lp_ex (I := fun x => ∃ (k : Nat) (p1 : Nat → Int32), k ≤ 8 ∧ x = (nI k, p1) ∧ ∀ i, i < k → p1 i = 0) (ms := fun x => 8 - x.1.toNatClampNeg) (Post := fun r : (Nat → Int32) × (Nat → Int32) × (Nat → Int32) => (∀ i, i < 13 → r.1 i = 0 ∧ r.2.1 i = 0) ∧ ∀ i, i < 8 → r.2.2 i = 0) ?_ 20000 _ ⟨0, p, by omega, rfl, fun i h => by omega⟩ (by show 8 - _ < _; omega)
      rintro x ⟨k, p1, hk, rfl, hz1⟩ self hself
      show ∃ r, (if (7 : Int32) < nI k then _ else _) = some r ∧ _
      by_cases c : k = 8
      · subst c
        rw [if_pos (by decide)]
        exact ⟨_, rfl, hz, hz1⟩
      · rw [if_neg (show ¬ (7 : Int32) < nI k from nI_nlt (a := 7) (by omega) (by omega)), if_pos (inb_ok (by omega) (by omega)), bd_eq, bd_eq, nI_1, nI_clamp (by omega)]
        refine hself _ ⟨k + 1, _, by omega, rfl, fun i hi => ?_⟩ (by show 8 - (nI (k + 1)).toNatClampNeg < 8 - (nI k).toNatClampNeg; rw [nI_clamp (by omega), nI_clamp (by omega)]; omega)
        by_cases e : i = k
        · subst e; exact upd_at _ _ _
        · rw [upd_ne _ _ e]; exact hz1 i (by omega)
    · rw [if_neg (show ¬ (13 : Int32) ≤ nI k from nI_ge (b := 13) (by omega) (by omega)), if_pos (inb_ok (by omega) (by omega)), bd_eq, if_pos (inb_ok (by omega) (by omega)), bd_eq, bd_eq, nI_1, nI_clamp (by omega)]
      refine hself _ ⟨k + 1, _, _, by omega, rfl, fun i hi => ?_⟩ (by show 13 - (nI (k + 1)).toNatClampNeg < 13 - (nI k).toNatClampNeg; rw [nI_clamp (by omega), nI_clamp (by omega)]; omega)
      by_cases e : i = k
      · subst e; exact ⟨upd_at _ _ _, upd_at _ _ _⟩
      · rw [upd_ne _ _ e, upd_ne _ _ e]; exact hz i (by omega)
  obtain ⟨⟨a, b, c⟩, h1, h2⟩ := key
  exact ⟨a, b, c, h1, h2⟩
def prc (d e a b : Nat) : Bool := decide (a < b) && (decide (a < d) || (decide (a = d) && decide (b < e)))
theorem prc_step {d e : Nat} (h : d < e) (a b : Nat) : prc d (e + 1) a b = (prc d e a b || (decide (a = d) && decide (b = e))) := by
  unfold prc
  rw [Bool.eq_iff_iff]
  simp
  omega
theorem prc_next {N d a b : Nat} (hb : b < N) : prc d N a b = prc (d + 1) (d + 2) a b := by
  unfold prc
  rw [Bool.eq_iff_iff]
  simp
  omega
theorem prc_0 (a b : Nat) : prc 0 1 a b = false := by
  unfold prc
  rw [Bool.eq_false_iff]
  simp
  omega
theorem prc_no {d e : Nat} : prc d e d e = false := by
  unfold prc
  rw [Bool.eq_false_iff]
  simp
def sgP (T N : Nat) (g : Nat → Nat → Nat) (d e i : Nat) : Nat := pct N (fun j => (decide (j ≠ i) && decide (rc T g i j = 1)) && (prc d e i j || prc d e j i))
def mkP (T N : Nat) (g : Nat → Nat → Nat) (d e n : Nat) : Nat := tri N (fun b a => decide (rc T g b a = n) && prc d e a b)
def MS (T N : Nat) (g : Nat → Nat → Nat) (d e : Nat) (ss pp : Nat → Int32) : Prop := (∀ i, i < N → ss i = nI (sgP T N g d e i)) ∧ ∀ n, n < 8 → pp n = nI (mkP T N g d e n)
section
variable {T N : Nat} {g : Nat → Nat → Nat} {te da : Int32} {ro no : Nat → Int32} {o : Nat}
theorem mkP_hit {d e n : Nat} (hde : d < e) (he : e < N) (h : rc T g e d = n) : mkP T N g d (e + 1) n = mkP T N g d e n + 1 := by
  refine tri_add N _ _ e d hde he ?_ (fun b a _ _ => ?_)
  · show (_ && prc d e d e) = false
    rw [prc_no, Bool.and_false]
  · show (decide (rc T g b a = n) && prc d (e + 1) a b) = ((decide (rc T g b a = n) && prc d e a b) || (decide (b = e) && decide (a = d)))
    rw [prc_step hde]
    by_cases h1 : b = e ∧ a = d
    · obtain ⟨rfl, rfl⟩ := h1
      rw [decide_eq_true h]; simp
    · have : (decide (a = d) && decide (b = e)) = false := by rw [Bool.eq_false_iff]; simp; omega
      have h2 : (decide (b = e) && decide (a = d)) = false := by rw [Bool.eq_false_iff]; simp; omega
      rw [this, h2, Bool.or_false, Bool.or_false]
theorem mkP_miss {d e n : Nat} (hde : d < e) (h : ¬ rc T g e d = n) : mkP T N g d (e + 1) n = mkP T N g d e n := by
  refine tri_congr N _ _ (fun b a _ _ => ?_)
  show (decide (rc T g b a = n) && prc d (e + 1) a b) = (decide (rc T g b a = n) && prc d e a b)
  rw [prc_step hde]
  by_cases h1 : b = e ∧ a = d
  · obtain ⟨rfl, rfl⟩ := h1
    rw [decide_eq_false h]; rfl
  · have : (decide (a = d) && decide (b = e)) = false := by rw [Bool.eq_false_iff]; simp; omega
    rw [this, Bool.or_false]
theorem sgP_hit {d e : Nat} (hde : d < e) (he : e < N) (hc : rc T g e d = rc T g d e) (h : rc T g d e = 1) : sgP T N g d (e + 1) d = sgP T N g d e d + 1 ∧ sgP T N g d (e + 1) e = sgP T N g d e e + 1 := by
  constructor
  · refine pct_add N _ _ e he ?_ (fun j hj => ?_)
    · show ((decide (e ≠ d) && decide (rc T g d e = 1)) && (prc d e d e || prc d e e d)) = false
      rw [prc_no]
      have : prc d e e d = false := by unfold prc; rw [decide_eq_false (by omega)]; rfl
      rw [this]; simp
    · show ((decide (j ≠ d) && decide (rc T g d j = 1)) && (prc d (e + 1) d j || prc d (e + 1) j d)) = (((decide (j ≠ d) && decide (rc T g d j = 1)) && (prc d e d j || prc d e j d)) || decide (j = e))
      rw [prc_step hde, prc_step hde]
      have e1 : (decide (j = d) && decide (d = e)) = false := by rw [Bool.eq_false_iff]; simp; omega
      rw [e1, decide_eq_true (rfl : d = d), Bool.true_and, Bool.or_false]
      by_cases h1 : j = e
      · subst h1
        rw [decide_eq_true h, decide_eq_true (show j ≠ d by omega), decide_eq_true (rfl : j = j)]; simp
      · rw [decide_eq_false h1, Bool.or_false, Bool.or_false]
  · refine pct_add N _ _ d (by omega) ?_ (fun j hj => ?_)
    · show ((decide (d ≠ e) && decide (rc T g e d = 1)) && (prc d e e d || prc d e d e)) = false
      rw [prc_no]
      have : prc d e e d = false := by unfold prc; rw [decide_eq_false (by omega)]; rfl
      rw [this]; simp
    · show ((decide (j ≠ e) && decide (rc T g e j = 1)) && (prc d (e + 1) e j || prc d (e + 1) j e)) = (((decide (j ≠ e) && decide (rc T g e j = 1)) && (prc d e e j || prc d e j e)) || decide (j = d))
      rw [prc_step hde, prc_step hde]
      have e1 : (decide (e = d) && decide (j = e)) = false := by rw [Bool.eq_false_iff]; simp; omega
      rw [e1, decide_eq_true (rfl : e = e), Bool.and_true, Bool.or_false]
      by_cases h1 : j = d
      · subst h1
        rw [hc, decide_eq_true h, decide_eq_true (show j ≠ e by omega), decide_eq_true (rfl : j = j)]; simp
      · rw [decide_eq_false h1, Bool.or_false, Bool.or_false]
theorem sgP_miss {d e i : Nat} (hde : d < e) (hc : rc T g e d = rc T g d e) (h : rc T g d e = 1 → i ≠ d ∧ i ≠ e) : sgP T N g d (e + 1) i = sgP T N g d e i := by
  refine pct_congr N _ _ (fun j hj => ?_)
  show ((decide (j ≠ i) && decide (rc T g i j = 1)) && (prc d (e + 1) i j || prc d (e + 1) j i)) = ((decide (j ≠ i) && decide (rc T g i j = 1)) && (prc d e i j || prc d e j i))
  rw [prc_step hde, prc_step hde]
  by_cases h1 : (i = d ∧ j = e) ∨ (j = d ∧ i = e)
  · have h2 : ¬ rc T g i j = 1 := by
      intro h3
      rcases h1 with ⟨rfl, rfl⟩ | ⟨rfl, rfl⟩
      · exact (h h3).1 rfl
      · rw [hc] at h3
        exact (h h3).2 rfl
    rw [decide_eq_false h2, Bool.and_false, Bool.false_and, Bool.false_and]
  · have e1 : (decide (i = d) && decide (j = e)) = false := by rw [Bool.eq_false_iff]; simp; omega
    have e2 : (decide (j = d) && decide (i = e)) = false := by rw [Bool.eq_false_iff]; simp; omega
    rw [e1, e2, Bool.or_false, Bool.or_false]
theorem MS.next {d : Nat} {ss pp : Nat → Int32} (h : MS T N g d N ss pp) : MS T N g (d + 1) (d + 2) ss pp := by
  constructor
  · intro i hi
    rw [h.1 i hi]
    refine congrArg nI (pct_congr N _ _ (fun j hj => ?_))
    show (_ && (prc d N i j || prc d N j i)) = (_ && (prc (d + 1) (d + 2) i j || prc (d + 1) (d + 2) j i))
    rw [prc_next hj, prc_next hi]
  · intro n hn
    rw [h.2 n hn]
    refine congrArg nI (tri_congr N _ _ (fun b a _ hb => ?_))
    show (_ && prc d N a b) = (_ && prc (d + 1) (d + 2) a b)
    rw [prc_next hb]
theorem MS.zero {ss pp : Nat → Int32} (h1 : ∀ i, i < N → ss i = 0) (h2 : ∀ n, n < 8 → pp n = 0) : MS T N g 0 1 ss pp := by
  have hp : ∀ n (p : Nat → Bool), (∀ i, p i = false) → pct n p = 0 := by
    intro n p h
    induction n with
    | zero => rfl
    | succ n ih => show pct n p + _ = 0; rw [ih, h n]; rfl
  constructor
  · intro i hi
    rw [h1 i hi]
    show (0 : Int32) = nI (sgP T N g 0 1 i)
    rw [show sgP T N g 0 1 i = 0 from hp _ _ (fun j => by rw [prc_0, prc_0]; simp)]
    rfl
  · intro n hn
    rw [h2 n hn]
    have ht : ∀ m, tri m (fun b a => decide (rc T g b a = n) && prc 0 1 a b) = 0 := by
      intro m
      induction m with
      | zero => rfl
      | succ m ih => show tri m _ + pct m _ = 0; rw [ih, hp _ _ (fun j => by show (_ && prc 0 1 j m) = false; rw [prc_0, Bool.and_false])]
    rw [show mkP T N g 0 1 n = 0 from ht N]
    rfl
theorem MS.last {ss pp : Nat → Int32} {d e : Nat} (h : MS T N g d e ss pp) (hd : N ≤ d) (hs : Sok T N g) : (∀ i, i < N → ss i = nI (sg T N g i)) ∧ ∀ n, n < 8 → pp n = nI (mkN T N g (nI n)) := by
  have hT := hs.T14
  constructor
  · intro i hi
    rw [h.1 i hi]
    refine congrArg nI (pct_congr N _ _ (fun j hj => ?_))
    show ((decide (j ≠ i) && decide (rc T g i j = 1)) && (prc d e i j || prc d e j i)) = (decide (j ≠ i) && decide (rc T g i j = 1))
    by_cases c : j = i
    · rw [decide_eq_false (fun h => h c : ¬ j ≠ i)]; rfl
    · have : (prc d e i j || prc d e j i) = true := by unfold prc; simp; omega
      rw [this, Bool.and_true]
  · intro n hn
    rw [h.2 n hn]
    refine congrArg nI (tri_congr N _ _ (fun b a hab hb => ?_))
    show (decide (rc T g b a = n) && prc d e a b) = decide (nI (rc T g b a) = nI n)
    have : prc d e a b = true := by unfold prc; simp; omega
    have hr := rc_le T g b a
    rw [this, Bool.and_true, Bool.eq_iff_iff, decide_eq_true_iff, decide_eq_true_iff, nI_eq (by omega) (by omega)]
def MPost (T N : Nat) (g : Nat → Nat → Nat) (r : Int32 × (Nat → Int32) × (Nat → Int32) × (Nat → Int32)) : Prop := r.1 = nI N ∧ (∀ i, i < N → r.2.1 i = nI (sg T N g i)) ∧ (∀ s, s < 13 → r.2.2.1 s = nI (sgN T N g (nI s))) ∧ ∀ n, n < 8 → r.2.2.2 n = nI (mkN T N g (nI n))
theorem x4meas_110 (hs : Sok T N g) (te da : Int32) (ro ss pp ds : Nat → Int32) (h1 : ∀ i, i < N → ss i = nI (sg T N g i)) (h2 : ∀ n, n < 8 → pp n = nI (mkN T N g (nI n))) (h3 : ∀ s, s < 13 → ds s = 0) : ∃ r, lp (f_X4_measure_L110 te da ro (nI N) ss pp) 20000 (0, ds) = some r ∧ MPost T N g r := by
  have hN := hs.N13
  refine lp_ex (I := fun x => ∃ (d : Nat) (ds : Nat → Int32), d ≤ N ∧ x = (nI d, ds) ∧ ∀ s, s < 13 → ds s = nI (pct d (fun d => decide (nI (sg T N g d) = nI s)))) (ms := fun x => N - x.1.toNatClampNeg) (Post := MPost T N g) ?_ 20000 _ ⟨0, ds, by omega, rfl, fun s hs => (h3 s hs).trans rfl⟩ (by show N - _ < _; omega)
  rintro x ⟨d, ds, hd, rfl, hds⟩ self hself
  show ∃ r, (if nI N ≤ nI d then _ else _) = some r ∧ _
  by_cases c : N ≤ d
  · rw [if_pos ((nI_leI (by omega) (by omega)).mpr c)]
    exact ⟨_, rfl, rfl, h1, fun s hs => by rw [show d = N by omega] at hds; exact hds s hs, h2⟩
  · have hsg := sg_lt (T := T) (g := g) (show d < N by omega)
    rw [if_neg (nI_ge (by omega) (by omega)), if_pos (inb_ok (by omega) (by omega)), bd_eq, nI_clamp (by omega), h1 d (by omega), if_neg (nI_pos (by omega)), if_neg (show ¬ (13 : Int32) ≤ nI _ from nI_ge (b := 13) (by omega) (by omega)), if_pos (inb_ok (by omega) (by omega)), if_pos (inb_ok (by omega) (by omega)), bd_eq, bd_eq, nI_1, nI_clamp (by omega)]
    refine hself _ ⟨d + 1, _, by omega, rfl, fun s hs => ?_⟩ (by show N - (nI (d + 1)).toNatClampNeg < N - (nI d).toNatClampNeg; rw [nI_clamp (by omega), nI_clamp (by omega)]; omega)
    show _ = nI (pct d _ + (if decide (nI (sg T N g d) = nI s) then 1 else 0))
    by_cases e : s = sg T N g d
    · subst e
      rw [upd_at, hds _ hs, decide_eq_true rfl]
      exact nI_1 _
    · rw [upd_ne _ _ e, hds s hs, decide_eq_false (fun h => e ((nI_eq (by omega) (by omega)).mp h).symm)]
      rfl
theorem MS.hitS {d e : Nat} {ss pp : Nat → Int32} (hde : d < e) (he : e < N) (hc : rc T g e d = rc T g d e) (h : rc T g d e = 1) (h1 : ∀ i, i < N → ss i = nI (sgP T N g d e i)) (i : Nat) (hi : i < N) : upd (upd ss d (ss d + 1)) e (upd ss d (ss d + 1) e + 1) i = nI (sgP T N g d (e + 1) i) := by
  obtain ⟨k1, k2⟩ := sgP_hit hde he hc h
  by_cases c1 : i = e
  · subst c1
    rw [upd_at, upd_ne _ _ (show i ≠ d by omega), h1 i hi, nI_1, k2]
  · rw [upd_ne _ _ c1]
    by_cases c2 : i = d
    · subst c2
      rw [upd_at, h1 i hi, nI_1, k1]
    · rw [upd_ne _ _ c2, h1 i hi, sgP_miss hde hc (fun _ => ⟨c2, c1⟩)]
theorem x4measure (hs : Sok T N g) (hX : PX te da ro T N g) (hM : PM no 0 T N g) (pd : Int32) (ps pds pp : Nat → Int32) : ∃ r, f_X4_measure pd ps pds pp te da ro = some r ∧ MPost T N g r := by
  have hN := hs.N13
  have hT := hs.T14
  have hX2 := hX
  obtain ⟨rfl, rfl, -⟩ := hX2
  obtain ⟨s0, d0, p0, e0, hz, hz8⟩ := x4clear ps pds pp
  unfold f_X4_measure
  rw [bd_eq, if_neg (show ¬ (13 : Int32) < nI N from nI_nlt (a := 13) (by omega) (by omega)), e0, Option.bind_some]
  dsimp only
  refine lp_ex (I := fun x => ∃ (d : Nat) (ss pp : Nat → Int32), d ≤ N ∧ x = (nI d, ss, pp) ∧ MS T N g d (d + 1) ss pp) (ms := fun x => N - x.1.toNatClampNeg) (Post := MPost T N g) ?_ 20000 _ ⟨0, s0, p0, by omega, rfl, MS.zero (fun i hi => (hz i (by omega)).1) hz8⟩ (by show N - _ < _; omega)
  rintro x ⟨d, ss, pp, hd, rfl, hm⟩ self hself
  show ∃ r, (if nI N ≤ nI d then _ else _) = some r ∧ _
  by_cases c : N ≤ d
  · rw [if_pos ((nI_leI (by omega) (by omega)).mpr c)]
    obtain ⟨k1, k2⟩ := hm.last c hs
    exact x4meas_110 hs _ _ _ _ _ _ k1 k2 (fun s hs => (hz s hs).2)
  · rw [if_neg (nI_ge (by omega) (by omega)), bd_eq, nI_1]
    refine lp_ex (I := fun x => ∃ (e : Nat) (ss pp : Nat → Int32), d < e ∧ e ≤ N ∧ x = (nI e, ss, pp) ∧ MS T N g d e ss pp) (ms := fun x => N - x.1.toNatClampNeg) (Post := MPost T N g) ?_ 20000 _ ⟨d + 1, ss, pp, by omega, by omega, rfl, hm⟩ (by show N - _ < _; omega)
    rintro y ⟨e, ss, pp, hde, he, rfl, hm⟩ self2 hself2
    show ∃ r, (if nI N ≤ nI e then _ else _) = some r ∧ _
    by_cases c2 : N ≤ e
    · rw [if_pos ((nI_leI (by omega) (by omega)).mpr c2), bd_eq, nI_1]
      rw [show e = N by omega] at hm
      exact hself _ ⟨d + 1, _, _, by omega, rfl, hm.next⟩ (by show N - (nI (d + 1)).toNatClampNeg < N - (nI d).toNatClampNeg; rw [nI_clamp (by omega), nI_clamp (by omega)]; omega)
    · have hms : N - (nI (e + 1)).toNatClampNeg < N - (nI e).toNatClampNeg := by rw [nI_clamp (by omega), nI_clamp (by omega)]; omega
      have hr := rc_le T g d e
      have hc := rc_comm hs (show e < N by omega) (show d < N by omega)
      rw [if_neg (nI_ge (by omega) (by omega)), x3circles hs hX hM (by omega) (by omega), Option.bind_some, if_neg (nI_pos (by omega))]
      have kJ : ∀ pp' : Nat → Int32, (∀ n, n < 8 → pp' n = nI (mkP T N g d (e + 1) n)) → ∃ r, f_X4_measure_J70 self2 (nI T) (nI N) ro (nI d) (nI N) d0 (nI e, nI (rc T g d e), ss, pp') = some r ∧ MPost T N g r := by
        intro pp' hpp
        unfold f_X4_measure_J70
        dsimp only
        by_cases c4 : rc T g d e = 1
        · rw [if_pos (show nI (rc T g d e) = (1 : Int32) from congrArg nI c4), if_pos (inb_ok (by omega) (by omega)), if_pos (inb_ok (by omega) (by omega)), bd_eq, if_pos (inb_ok (by omega) (by omega)), if_pos (inb_ok (by omega) (by omega)), bd_eq, bd_eq, nI_1, nI_clamp (by omega), nI_clamp (by omega)]
          exact hself2 _ ⟨e + 1, _, _, by omega, by omega, rfl, MS.hitS (pp := pp) hde (by omega) hc c4 hm.1, hpp⟩ hms
        · rw [if_neg (show ¬ nI (rc T g d e) = (1 : Int32) from fun h => c4 ((nI_eq (b := 1) (by omega) (by omega)).mp h)), bd_eq, nI_1]
          exact hself2 _ ⟨e + 1, _, _, by omega, by omega, rfl, fun i hi => by rw [hm.1 i hi, sgP_miss hde hc (fun h => absurd h c4)], hpp⟩ hms
      by_cases c3 : 7 < rc T g d e
      · rw [if_pos (show (7 : Int32) < nI _ from nI_lt (a := 7) c3 (by omega))]
        exact kJ pp (fun n hn => by rw [hm.2 n hn, mkP_miss hde (by omega)])
      · rw [if_neg (show ¬ (7 : Int32) < nI _ from nI_nlt (a := 7) (by omega) (by omega)), if_pos (inb_ok (by omega) (by omega)), if_pos (inb_ok (by omega) (by omega)), bd_eq, nI_clamp (by omega)]
        refine kJ _ (fun n hn => ?_)
        by_cases c5 : n = rc T g d e
        · subst c5
          rw [upd_at, hm.2 _ hn, nI_1, mkP_hit hde (by omega) hc]
        · rw [upd_ne _ _ c5, hm.2 n hn, mkP_miss hde (by omega)]
end
