/-! OURS: the best day: the class's seeking with the ends of ways -/
def EndsA (N : Nat) (S : Int32) (e : Nat → Nat → Nat) (en : Nat → Int32) : Prop := ∀ d x, d < N → x < 14 → bt S x = true → en (14 * d + x) = nI (e d x)
def EInv (N : Nat) (S : Int32) (e : Nat → Nat → Nat) : Prop := ∀ d x, d < N → x < 14 → bt S x = true → (e d x < 14 ∧ bt S (e d x) = true) ∧ e d x ≠ x ∧ e d (e d x) = x
def OutS (N : Nat) (S : Int32) (en en' : Nat → Int32) : Prop := ∀ d x, d < N → x < 14 → bt S x = false → en' (14 * d + x) = en (14 * d + x)
section
variable {T N : Nat} {S : Int32} {e : Nat → Nat → Nat} {en : Nat → Int32} {a b : Nat} {F : Nat → Nat → Bool} {free : Nat → Int32}
theorem bt_del_in {x : Nat} (ha : a < 14) (hb : b < 14) (hx : x < 14) (h : bt (del S a b) x = true) : bt S x = true ∧ x ≠ a ∧ x ≠ b := by
  rw [bt_del S (by omega) (by omega) (by omega), Bool.and_eq_true, Bool.not_eq_true', Bool.or_eq_false_iff, decide_eq_false_iff_not, decide_eq_false_iff_not] at h
  exact ⟨h.1, h.2.1, h.2.2⟩
theorem bt_del_mk {x : Nat} (ha : a < 14) (hb : b < 14) (hx : x < 14) (h : bt S x = true) (h1 : x ≠ a) (h2 : x ≠ b) : bt (del S a b) x = true := by
  rw [bt_del S (by omega) (by omega) (by omega), h, decide_eq_false h1, decide_eq_false h2]
  rfl
theorem bt_del_no {x : Nat} (ha : a < 14) (hb : b < 14) (hx : x < 14) (h : bt S x = false ∨ x = a ∨ x = b) : bt (del S a b) x = false := by
  rw [bt_del S (by omega) (by omega) (by omega)]
  rcases h with h | h | h
  · rw [h]; rfl
  · rw [decide_eq_true h]; cases bt S x <;> rfl
  · rw [decide_eq_true h]; cases bt S x <;> cases decide (x = a) <;> rfl
/-- joined ends are ends again -/
theorem EInv.join (h : EInv N S e) (ha : a < 14) (hb : b < 14) (hab : a ≠ b) (ha2 : bt S a = true) (hb2 : bt S b = true) (hne : ∀ d, d < N → e d a ≠ b) : EInv N (del S a b) (jE e a b) := by
  intro d x hd hx hxS
  obtain ⟨x1, x2, x3⟩ := bt_del_in ha hb hx hxS
  obtain ⟨⟨a1, a2⟩, a3, a4⟩ := h d a hd ha ha2
  obtain ⟨⟨b1, b2⟩, b3, b4⟩ := h d b hd hb hb2
  obtain ⟨⟨y1, y2⟩, y3, y4⟩ := h d x hd hx x1
  have hn := hne d hd
  have hAB : e d a ≠ e d b := fun h => hab (by rw [← a4, h, b4])
  have hBa : e d b ≠ a := fun h => hn (by rw [← h, b4])
  have jA : jE e a b d (e d a) = e d b := by unfold jE; rw [if_pos rfl]
  have jB : jE e a b d (e d b) = e d a := by unfold jE; rw [if_neg (fun h => hAB h.symm), if_pos rfl]
  by_cases c1 : x = e d a
  · rw [c1, jA, jB]
    exact ⟨⟨b1, bt_del_mk ha hb b1 b2 hBa b3⟩, fun h => hAB h.symm, rfl⟩
  · by_cases c2 : x = e d b
    · rw [c2, jB, jA]
      exact ⟨⟨a1, bt_del_mk ha hb a1 a2 a3 hn⟩, hAB, rfl⟩
    · have jx : ∀ z, z ≠ e d a → z ≠ e d b → jE e a b d z = e d z := fun z h1 h2 => by unfold jE; rw [if_neg h1, if_neg h2]
      have z1 : e d x ≠ a := fun h => c1 (by rw [← h, y4])
      have z2 : e d x ≠ b := fun h => c2 (by rw [← h, y4])
      have z3 : e d x ≠ e d a := fun h => x2 (by rw [← y4, h, a4])
      have z4 : e d x ≠ e d b := fun h => x3 (by rw [← y4, h, b4])
      rw [jx x c1 c2, jx _ z3 z4]
      exact ⟨⟨y1, bt_del_mk ha hb y1 y2 z1 z2⟩, y3, y4⟩
theorem x2setEnd (en : Nat → Int32) {o t : Nat} (ho : o + 14 ≤ 182) (ht : t < 14) (v : Int32) : f_X2_setEnd en (nI o) (nI t) v = some (upd en (o + t) v) := by
  unfold f_X2_setEnd
  rw [if_neg (nI_pos (by omega)), if_neg (show ¬ (14 : Int32) ≤ nI t from nI_ge (b := 14) (by omega) (by omega)), nI_add, if_pos (inb_ok (by omega) (by omega)), bd_eq, nI_clamp (by omega)]
theorem mul14 (d : Nat) : nI d * (14 : Int32) = nI (14 * d) := by
  rw [show (14 : Int32) = nI 14 from rfl, pk_mul, Nat.mul_comm]
theorem x2join (hN : N ≤ 13) (hI : EInv N S e) (hE : EndsA N S e en) (ha : a < 14) (hb : b < 14) (ha2 : bt S a = true) (hb2 : bt S b = true) : ∃ en', f_X2_join (nI N) en (nI a) (nI b) = some en' ∧ EndsA N S (jE e a b) en' ∧ OutS N S en en' := by
  unfold f_X2_join
  refine lp_ex (I := fun x => ∃ (d : Nat) (f : Nat → Int32), d ≤ N ∧ x = (nI d, f) ∧ (∀ d' x, d' < d → x < 14 → bt S x = true → f (14 * d' + x) = nI (jE e a b d' x)) ∧ (∀ d' x, d ≤ d' → d' < N → x < 14 → f (14 * d' + x) = en (14 * d' + x)) ∧ OutS N S en f) (ms := fun x => N - x.1.toNatClampNeg) (Post := fun en' => EndsA N S (jE e a b) en' ∧ OutS N S en en') ?_ 20000 _ ⟨0, en, by omega, rfl, fun d' x h => by omega, fun _ _ _ _ _ => rfl, fun _ _ _ _ _ => rfl⟩ (by show N - _ < _; omega)
  rintro x ⟨d, f, hd, rfl, f1, f2, f3⟩ self hself
  unfold f_X2_join_L2
  dsimp only
  by_cases c : N ≤ d
  · rw [if_pos ((nI_leI (by omega) (by omega)).mpr c)]
    exact ⟨_, rfl, fun d' x h1 h2 h3 => f1 d' x (by omega) h2 h3, f3⟩
  · have hdN : d < N := by omega
    obtain ⟨⟨a1, a2⟩, a3, a4⟩ := hI d a hdN ha ha2
    obtain ⟨⟨b1, b2⟩, b3, b4⟩ := hI d b hdN hb hb2
    have eA : f (14 * d + a) = nI (e d a) := (f2 d a (by omega) hdN ha).trans (hE d a hdN ha ha2)
    have eB : f (14 * d + b) = nI (e d b) := (f2 d b (by omega) hdN hb).trans (hE d b hdN hb hb2)
    rw [if_neg (nI_ge (by omega) (by omega)), bd_eq, mul14, nI_add, nI_add, if_pos (inb_ok (by omega) (by omega)), bd_eq, if_pos (inb_ok (by omega) (by omega)), bd_eq, nI_clamp (by omega), nI_clamp (by omega), eA, eB, x2setEnd f (by omega) a1, Option.bind_some, x2setEnd _ (by omega) b1, Option.bind_some, bd_eq, nI_1]
    refine hself _ ⟨d + 1, _, by omega, rfl, fun d' x h1 h2 h3 => ?_, fun d' x h1 h2 h3 => ?_, fun d' x h1 h2 h3 => ?_⟩ (by show N - (nI (d + 1)).toNatClampNeg < N - (nI d).toNatClampNeg; rw [nI_clamp (by omega), nI_clamp (by omega)]; omega)
    · by_cases e1 : d' = d
      · subst e1
        unfold jE
        by_cases c1 : x = e d' b
        · rw [c1, upd_at]
          by_cases c2 : e d' b = e d' a
          · rw [if_pos c2, c2]
          · rw [if_neg c2, if_pos rfl]
        · rw [upd_ne _ _ (by omega)]
          by_cases c2 : x = e d' a
          · rw [c2, upd_at, if_pos rfl]
          · rw [upd_ne _ _ (by omega), if_neg c2, if_neg c1, f2 d' x (by omega) hdN h2]
            exact hE d' x hdN h2 h3
      · rw [upd_ne _ _ (by omega), upd_ne _ _ (by omega)]
        exact f1 d' x (by omega) h2 h3
    · rw [upd_ne _ _ (by omega), upd_ne _ _ (by omega)]
      exact f2 d' x (by omega) h2 h3
    · by_cases e1 : d' = d
      · subst e1
        rw [upd_ne _ _ (fun h => by rw [show x = e d' b by omega, b2] at h3; cases h3), upd_ne _ _ (fun h => by rw [show x = e d' a by omega, a2] at h3; cases h3)]
        exact f3 d' x h1 h2 h3
      · rw [upd_ne _ _ (by omega), upd_ne _ _ (by omega)]
        exact f3 d' x h1 h2 h3
theorem x2part (hN : N ≤ 13) (hI : EInv N S e) (hE : EndsA N S (jE e a b) en) (ha : a < 14) (hb : b < 14) (hab : a ≠ b) (ha2 : bt S a = true) (hb2 : bt S b = true) (hne : ∀ d, d < N → e d a ≠ b) : ∃ en', f_X2_part (nI N) en (nI a) (nI b) = some en' ∧ EndsA N S e en' ∧ OutS N S en en' := by
  unfold f_X2_part
  refine lp_ex (I := fun x => ∃ (d : Nat) (f : Nat → Int32), d ≤ N ∧ x = (nI d, f) ∧ (∀ d' x, d' < d → x < 14 → bt S x = true → f (14 * d' + x) = nI (e d' x)) ∧ (∀ d' x, d ≤ d' → d' < N → x < 14 → f (14 * d' + x) = en (14 * d' + x)) ∧ OutS N S en f) (ms := fun x => N - x.1.toNatClampNeg) (Post := fun en' => EndsA N S e en' ∧ OutS N S en en') ?_ 20000 _ ⟨0, en, by omega, rfl, fun d' x h => by omega, fun _ _ _ _ _ => rfl, fun _ _ _ _ _ => rfl⟩ (by show N - _ < _; omega)
  rintro x ⟨d, f, hd, rfl, f1, f2, f3⟩ self hself
  unfold f_X2_part_L2
  dsimp only
  by_cases c : N ≤ d
  · rw [if_pos ((nI_leI (by omega) (by omega)).mpr c)]
    exact ⟨_, rfl, fun d' x h1 h2 h3 => f1 d' x (by omega) h2 h3, f3⟩
  · have hdN : d < N := by omega
    obtain ⟨⟨a1, a2⟩, a3, a4⟩ := hI d a hdN ha ha2
    obtain ⟨⟨b1, b2⟩, b3, b4⟩ := hI d b hdN hb hb2
    have hn := hne d hdN
    have hAB : e d a ≠ e d b := fun h => hab (by rw [← a4, h, b4])
    have hBa : e d b ≠ a := fun h => hn (by rw [← h, b4])
    have ja : jE e a b d a = e d a := by unfold jE; rw [if_neg (fun h => a3 h.symm), if_neg (fun h => hBa h.symm)]
    have jb : jE e a b d b = e d b := by unfold jE; rw [if_neg (fun h => hn h.symm), if_neg (fun h => b3 h.symm)]
    have eA : f (14 * d + a) = nI (e d a) := by rw [f2 d a (by omega) hdN ha, hE d a hdN ha ha2, ja]
    have eB : f (14 * d + b) = nI (e d b) := by rw [f2 d b (by omega) hdN hb, hE d b hdN hb hb2, jb]
    have eB2 : upd f (14 * d + e d a) (nI a) (14 * d + b) = nI (e d b) := by rw [upd_ne _ _ (by omega)]; exact eB
    rw [if_neg (nI_ge (by omega) (by omega)), bd_eq, mul14, nI_add, nI_add, if_pos (inb_ok (by omega) (by omega)), nI_clamp (by omega), eA, x2setEnd f (by omega) a1, Option.bind_some, if_pos (inb_ok (by omega) (by omega)), nI_clamp (by omega), eB2, x2setEnd _ (by omega) b1, Option.bind_some, bd_eq, nI_1]
    refine hself _ ⟨d + 1, _, by omega, rfl, fun d' x h1 h2 h3 => ?_, fun d' x h1 h2 h3 => ?_, fun d' x h1 h2 h3 => ?_⟩ (by show N - (nI (d + 1)).toNatClampNeg < N - (nI d).toNatClampNeg; rw [nI_clamp (by omega), nI_clamp (by omega)]; omega)
    · by_cases e1 : d' = d
      · subst e1
        by_cases c1 : x = e d' b
        · rw [c1, upd_at, b4]
        · rw [upd_ne _ _ (by omega)]
          by_cases c2 : x = e d' a
          · rw [c2, upd_at, a4]
          · rw [upd_ne _ _ (by omega), f2 d' x (by omega) hdN h2, hE d' x hdN h2 h3]
            unfold jE
            rw [if_neg c2, if_neg c1]
      · rw [upd_ne _ _ (by omega), upd_ne _ _ (by omega)]
        exact f1 d' x (by omega) h2 h3
    · rw [upd_ne _ _ (by omega), upd_ne _ _ (by omega)]
      exact f2 d' x (by omega) h2 h3
    · by_cases e1 : d' = d
      · subst e1
        rw [upd_ne _ _ (fun h => by rw [show x = e d' b by omega, b2] at h3; cases h3), upd_ne _ _ (fun h => by rw [show x = e d' a by omega, a2] at h3; cases h3)]
        exact f3 d' x h1 h2 h3
      · rw [upd_ne _ _ (by omega), upd_ne _ _ (by omega)]
        exact f3 d' x h1 h2 h3
theorem x2closers (hN : N ≤ 13) (hS : In14 14 S) (hI : EInv N S e) (hE : EndsA N S e en) (ha : a < 14) (ha2 : bt S a = true) : ∃ m, f_X2_closers (nI N) en S (nI a) = some m ∧ ∀ i, i < 14 → (bt m i = true ↔ ¬ cd S = 2 ∧ ∃ d, d < N ∧ e d a = i) := by
  unfold f_X2_closers
  have hm := cd_max S
  rw [x_bitCount hS, Option.bind_some]
  by_cases c : cd S = 2
  · rw [if_pos (show nI (cd S) = (2 : Int32) from congrArg nI c)]
    refine ⟨_, rfl, fun i hi => ⟨fun h => ?_, fun h => absurd c h.1⟩⟩
    rw [b_0] at h; cases h
  · rw [if_neg (show ¬ nI (cd S) = (2 : Int32) from fun h => c ((nI_eq (b := 2) (by omega) (by omega)).mp h))]
    refine lp_ex (I := fun x => ∃ (s : Int32) (d : Nat), d ≤ N ∧ x = (s, nI d) ∧ ∀ i, i < 14 → (bt s i = true ↔ ∃ d', d' < d ∧ e d' a = i)) (ms := fun x => N - x.2.toNatClampNeg) (Post := fun m => ∀ i, i < 14 → (bt m i = true ↔ ¬ cd S = 2 ∧ ∃ d, d < N ∧ e d a = i)) ?_ 20000 _ ⟨0, 0, by omega, rfl, fun i hi => ⟨fun h => (by rw [b_0] at h; cases h), fun ⟨d, h, _⟩ => (by omega)⟩⟩ (by show N - _ < _; omega)
    rintro x ⟨s, d, hd, rfl, hst⟩ self hself
    unfold f_X2_closers_L15
    dsimp only
    by_cases c1 : N ≤ d
    · rw [if_pos ((nI_leI (by omega) (by omega)).mpr c1)]
      refine ⟨_, rfl, fun i hi => ?_⟩
      rw [hst i hi]
      exact ⟨fun ⟨d', h1, h2⟩ => ⟨c, d', by omega, h2⟩, fun ⟨_, d', h1, h2⟩ => ⟨d', by omega, h2⟩⟩
    · have hk := hI d a (by omega) ha ha2
      rw [if_neg (nI_ge (by omega) (by omega)), mul14, nI_add, if_pos (inb_ok (by omega) (by omega)), bd_eq, bd_eq, nI_clamp (by omega), hE d a (by omega) ha ha2, nI_1]
      refine hself _ ⟨_, d + 1, by omega, rfl, fun i hi => ?_⟩ (by show N - (nI (d + 1)).toNatClampNeg < N - (nI d).toNatClampNeg; rw [nI_clamp (by omega), nI_clamp (by omega)]; omega)
      rw [b_or, b_sh1 _ (by omega) (by omega), Bool.or_eq_true, decide_eq_true_iff, hst i hi]
      constructor
      · rintro (⟨d', h1, h2⟩ | h)
        · exact ⟨d', by omega, h2⟩
        · exact ⟨d, by omega, h.symm⟩
      · rintro ⟨d', h1, h2⟩
        by_cases e1 : d' = d
        · subst e1; exact Or.inr h2.symm
        · exact Or.inl ⟨d', by omega, h2⟩
theorem okc_iff : okc true N S e a b = true ↔ cd S = 2 ∨ ∀ d, d < N → e d a ≠ b := by
  unfold okc
  rw [show (!true) = false from rfl, Bool.false_or, Bool.or_eq_true, decide_eq_true_iff, decide_eq_true_iff]
theorem cd_0 {S : Int32} (hS : In14 14 S) (h : cd S = 0) : S = 0 := by
  rw [b_eq0]
  intro i hi
  cases c : bt S i with
  | false => rfl
  | true =>
    have h1 := hS i hi c
    have := pct_0 14 (bt S) h i h1
    rw [c] at this; cases this
theorem x2best (hT : T ≤ 14) (hN : N ≤ 13) (hF : FreeR T F free) : ∀ (f : Nat) (S : Int32) (fr : Nat) (fo en : Nat → Int32) (e : Nat → Nat → Nat), cd S < 2 * f → In14 T S → (∀ j, j < fr → bt S j = false) → EInv N S e → EndsA N S e en →
    ∃ r : Int32 × (Nat → Int32) × (Nat → Int32), lp (f_X2_bestFrom_B (nI N) free) f (fo, en, S, nI fr) = some r ∧ BR true N F f S e fo r.1 r.2.1 ∧ (r.1 = 0 → EndsA N S e r.2.2 ∧ OutS N S en r.2.2) := by
  intro f
  induction f with
  | zero => intros; omega
  | succ f ih =>
    intro S fr fo en e hlen hS hlow hI hE
    show ∃ r, f_X2_bestFrom_B (nI N) free (lp (f_X2_bestFrom_B (nI N) free) f) _ = some r ∧ _
    generalize lp (f_X2_bestFrom_B (nI N) free) f = self_ at ih ⊢
    unfold f_X2_bestFrom_B
    dsimp only
    by_cases c : S = 0
    · rw [if_pos c]
      exact ⟨_, rfl, Or.inr ⟨[], bs_0 c, rfl, fun ab h => absurd h List.not_mem_nil, fun _ _ _ => rfl⟩, fun h => absurd h one0⟩
    · obtain ⟨k1, k2, k3⟩ := lo_ok c
      have k4 := hS _ k1 k2
      have hS14 := hS.mono hT
      have hfl : fr ≤ lo S := by
        rcases Nat.lt_or_ge (lo S) fr with h | h
        · rw [hlow _ h] at k2; cases k2
        · exact h
      obtain ⟨m, em, hm⟩ := x2closers hN hS14 hI hE (show lo S < 14 by omega) k2
      rw [if_neg c, x2low c hS14 hfl, Option.bind_some, if_pos (show nI (lo S) < (14 : Int32) from nI_lt (b := 14) (by omega) (by omega)), if_pos (inb_ok (by omega) (by omega)), em, Option.bind_some, bd_eq, bd_eq, nI_1, nI_clamp (by omega)]
      refine lp_ex (I := fun x => ∃ (b : Nat) (en2 : Nat → Int32), lo S < b ∧ b ≤ 14 ∧ x = (nI b, fo, en2) ∧ bl (bh true N F (bs true N F f) S e) b (14 - b) = bs true N F (f + 1) S e ∧ EndsA N S e en2 ∧ OutS N S en en2) (ms := fun x => 14 - x.1.toNatClampNeg) (Post := fun r : Int32 × (Nat → Int32) × (Nat → Int32) => BR true N F (f + 1) S e fo r.1 r.2.1 ∧ (r.1 = 0 → EndsA N S e r.2.2 ∧ OutS N S en r.2.2)) ?_ 20000 _ ⟨lo S + 1, en, by omega, by omega, rfl, by rw [bs_s c, show 14 - (lo S + 1) = 13 - lo S by omega], hE, fun _ _ _ _ _ => rfl⟩ (by show 14 - _ < _; omega)
      rintro x ⟨b, en2, hb1, hb, rfl, hbl, hE2, hO2⟩ self hself
      unfold f_X2_bestFrom_L44
      dsimp only
      by_cases c1 : b = 14
      · subst c1
        rw [if_pos (by decide)]
        exact ⟨_, rfl, Or.inl ⟨hbl.symm, rfl, rfl⟩, fun _ => ⟨hE2, hO2⟩⟩
      · have hb14 : b < 14 := by omega
        have hms : 14 - (nI (b + 1)).toNatClampNeg < 14 - (nI b).toNatClampNeg := by rw [nI_clamp (by omega), nI_clamp (by omega)]; omega
        rw [show 14 - b = (14 - (b + 1)) + 1 by omega] at hbl
        rw [if_neg (show ¬ (14 : Int32) ≤ nI b from nI_ge (b := 14) (by omega) (by omega)), bitI _ b (by omega), b_and, b_and, hF (lo S) b k4 hb14, b_not _ (by omega)]
        have hok : bt m b = false ↔ okc true N S e (lo S) b = true := by
          rw [okc_iff, ← Bool.not_eq_true, hm b hb14]
          constructor
          · intro h
            by_cases c3 : cd S = 2
            · exact Or.inl c3
            · exact Or.inr (fun d hd h2 => h ⟨c3, d, hd, h2⟩)
          · rintro (h | h) ⟨h1, d, hd, h2⟩
            · exact h1 h
            · exact h d hd h2
        by_cases c2 : bt S b = true ∧ F (lo S) b = true ∧ okc true N S e (lo S) b = true
        · obtain ⟨en3, e3, hE3, hO3⟩ := x2join hN hI hE2 (show lo S < 14 by omega) hb14 k2 c2.1
          have hcd := cd_del (show lo S < 14 by omega) hb14 (by omega) k2 c2.1
          have hI' : EInv N (del S (lo S) b) (jE e (lo S) b) := by
            rcases okc_iff.mp c2.2.2 with h | h
            · have h0 : del S (lo S) b = 0 := cd_0 (hS14.del (show lo S < 32 by omega) (show b < 32 by omega)) (by omega)
              intro d x hd hx h2
              rw [h0, b_0] at h2; cases h2
            · exact hI.join (by omega) hb14 (by omega) k2 c2.1 h
          obtain ⟨⟨r0, fo1, en4⟩, e1, h2, h3⟩ := ih (del S (lo S) b) (lo S + 1) fo en3 (jE e (lo S) b) (by omega) (hS.del (by omega) (by omega)) (fun j hj => by
            rw [bt_del S (by omega) (by omega) (by omega)]
            by_cases c3 : j = lo S
            · rw [decide_eq_true c3]
              cases bt S j <;> rfl
            · rw [k3 j (by omega)]
              rfl) hI' (fun d x hd hx h => hE3 d x hd hx (bt_del_in (by omega) hb14 hx h).1)
          dsimp only at h2 h3
          rw [c2.1, c2.2.1, hok.mpr c2.2.2, if_pos (show (if (true && true && !false) = true then (1 : Int32) else 0) = 1 from rfl), e3, Option.bind_some]
          unfold del at e1
          rw [nI_1, e1, Option.bind_some]
          dsimp only
          have eh := bh_t (best := true) (N := N) (F := F) (rec := bs true N F f) (e := e) c2.1 c2.2.1 c2.2.2
          rcases h2 with ⟨j1, rfl, rfl⟩ | ⟨R', j1, rfl, j3, j4⟩
          · have hne : ∀ d, d < N → e d (lo S) ≠ b := by
              rcases okc_iff.mp c2.2.2 with h | h
              · exfalso
                have h0 : del S (lo S) b = 0 := cd_0 (hS14.del (show lo S < 32 by omega) (show b < 32 by omega)) (by omega)
                cases f with
                | zero => omega
                | succ f => rw [bs_0 h0] at j1; cases j1
              · exact h
            obtain ⟨hE4, hO4⟩ := h3 rfl
            have hE5 : EndsA N S (jE e (lo S) b) en4 := by
              intro d x hd hx h
              by_cases c3 : x = lo S ∨ x = b
              · rw [hO4 d x hd hx (bt_del_no (by omega) hb14 hx (Or.inr c3))]
                exact hE3 d x hd hx h
              · exact hE4 d x hd hx (bt_del_mk (by omega) hb14 hx h (fun h => c3 (Or.inl h)) (fun h => c3 (Or.inr h)))
            obtain ⟨en5, e5, hE6, hO6⟩ := x2part hN hI hE5 (show lo S < 14 by omega) hb14 (by omega) k2 c2.1 hne
            rw [if_pos zer0, e5, Option.bind_some, bd_eq, nI_1]
            refine hself _ ⟨b + 1, en5, by omega, by omega, rfl, ?_, hE6, fun d x hd hx h => ?_⟩ hms
            · rw [← hbl, bl_none (by rw [eh, j1]; rfl)]
            · rw [hO6 d x hd hx h, hO4 d x hd hx (bt_del_no (by omega) hb14 hx (Or.inl h)), hO3 d x hd hx h, hO2 d x hd hx h]
          · obtain ⟨w1, w2⟩ := row_pair hS14 hb1 hb14 k2 c2.1 j1 j3 j4
            rw [if_neg one0, if_pos (inb_ok (by omega) (by omega)), bd_eq, if_pos (inb_ok (by omega) (by omega)), bd_eq, nI_clamp (by omega), nI_clamp (by omega)]
            refine ⟨_, rfl, Or.inr ⟨(lo S, b) :: R', ?_, rfl, w1, w2⟩, fun h => absurd h one0⟩
            rw [← hbl, bl_hit (by rw [eh, j1]; rfl)]
        · rw [if_neg (by
            cases h1 : bt S b <;> cases h2 : F (lo S) b <;> cases h3 : bt m b
            · decide
            · decide
            · decide
            · decide
            · decide
            · decide
            · exact absurd ⟨h1, h2, hok.mp h3⟩ c2
            · decide), bd_eq, nI_1]
          refine hself _ ⟨b + 1, en2, by omega, by omega, rfl, ?_, hE2, hO2⟩ hms
          rw [← hbl, bl_none (bh_f c2)]
end
