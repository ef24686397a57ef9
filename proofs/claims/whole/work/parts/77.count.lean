/-! OURS: may: the ways counted -/
def Fg (T N : Nat) (g : Nat → Nat → Nat) (a b : Nat) : Bool := decide (b < T) && (decide (b ≠ a) && decide (∀ d, d < N → g d a ≠ b))
def FreeR (T : Nat) (F : Nat → Nat → Bool) (free : Nat → Int32) : Prop := ∀ a b, a < T → b < 14 → bt (free a) b = F a b
def MemoR (q : Nat) (F : Nat → Nat → Bool) (st wy : Nat → Int32) : Prop := ∀ (S : Int32) (s : Nat), In14 14 S → bt S 0 = false → cd S % 2 = 0 → s < 4096 → (∀ i, i < 12 → bt (nI s) i = bt S (i + 1)) → st s = nI q → wy s = nI (Wn F S)
def StL (q : Nat) (st : Nat → Int32) : Prop := ∀ i, i < 4096 → ∃ j : Nat, j ≤ q ∧ st i = nI j
theorem StL.up {q : Nat} {st : Nat → Int32} (h : StL q st) (s : Nat) : StL q (upd st s (nI q)) := by
  intro i hi
  by_cases c : i = s
  · subst c; exact ⟨q, Nat.le_refl _, upd_at _ _ _⟩
  · rw [upd_ne _ _ c]; exact h i hi
theorem In14.mono {T : Nat} {S : Int32} (hT : T ≤ 14) (h : In14 T S) : In14 14 S := fun i hi h2 => by have := h i hi h2; omega
section
variable {T N : Nat} {g : Nat → Nat → Nat} {te da : Int32} {ro no : Nat → Int32} {F : Nat → Nat → Bool} {free : Nat → Int32} {q : Nat}
theorem Wh_f {S : Int32} {b : Nat} (h : ¬ (bt S b = true ∧ F (lo S) b = true)) : Wh F S b = 0 := by
  unfold Wh
  rw [if_neg (by rw [Bool.and_eq_true]; exact h)]
theorem Wh_t {S : Int32} {b : Nat} (h1 : bt S b = true) (h2 : F (lo S) b = true) : Wh F S b = Wn F (del S (lo S) b) := by
  unfold Wh
  rw [if_pos (by rw [Bool.and_eq_true]; exact ⟨h1, h2⟩)]
theorem x2loop (hT : T ≤ 14) (hF : FreeR T F free) (self_ : (Nat → Int32) × (Nat → Int32) × Int32 × Int32 → Option (Int32 × (Nat → Int32) × (Nat → Int32))) {S : Int32} (hS : In14 T S) (c : ¬ S = 0) (p2 : Int32) {s : Nat} (hs : s < 4096)
    (ih : ∀ (b : Nat) (st wy : Nat → Int32), lo S < b → b < 14 → bt S b = true → MemoR q F st wy → StL q st → ∃ r : Int32 × (Nat → Int32) × (Nat → Int32), self_ (st, wy, del S (lo S) b, nI (lo S + 1)) = some r ∧ r.1 = nI (Wn F (del S (lo S) b)) ∧ MemoR q F r.2.1 r.2.2 ∧ StL q r.2.1) (st wy : Nat → Int32) (hM : MemoR q F st wy) (hL : StL q st) :
    ∃ r : Int32 × (Nat → Int32) × (Nat → Int32), lp (f_X2_countFrom_L66 self_ (nI q) free S p2 (nI (lo S)) (nI s) (free (lo S) &&& S)) 20000 (0, nI (lo S + 1), st, wy) = some r ∧ r.1 = nI (Wn F S) ∧ ∃ st' wy', MemoR q F st' wy' ∧ StL q st' ∧ r.2.1 = upd st' s (nI q) ∧ r.2.2 = upd wy' s (nI (Wn F S)) := by
  obtain ⟨k1, k2, k3⟩ := lo_ok c
  have k4 := hS _ k1 k2
  refine lp_ex (I := fun x => ∃ (acc b : Nat) (st wy : Nat → Int32), lo S < b ∧ b ≤ 14 ∧ x = (nI acc, nI b, st, wy) ∧ acc + sfx (Wh F S) b (14 - b) = Wn F S ∧ MemoR q F st wy ∧ StL q st) (ms := fun x => 14 - x.2.1.toNatClampNeg) (Post := fun r : Int32 × (Nat → Int32) × (Nat → Int32) => r.1 = nI (Wn F S) ∧ ∃ st' wy', MemoR q F st' wy' ∧ StL q st' ∧ r.2.1 = upd st' s (nI q) ∧ r.2.2 = upd wy' s (nI (Wn F S))) ?_ 20000 _ ⟨0, lo S + 1, st, wy, by omega, by omega, rfl, by rw [W_rec F (hS.mono hT) c, Nat.zero_add, show 14 - (lo S + 1) = 13 - lo S by omega], hM, hL⟩ (by show 14 - _ < _; omega)
  rintro x ⟨acc, b, st, wy, hb1, hb, rfl, hacc, hM, hL⟩ self hself
  unfold f_X2_countFrom_L66
  dsimp only
  by_cases c1 : b = 14
  · subst c1
    have e : acc = Wn F S := by
      have e0 : sfx (Wh F S) 14 (14 - 14) = 0 := rfl
      omega
    rw [if_pos (by decide), if_pos (inb_ok hs (by omega)), bd_eq, if_pos (inb_ok hs (by omega)), bd_eq, nI_clamp (by omega), e]
    exact ⟨_, rfl, rfl, st, wy, hM, hL, rfl, rfl⟩
  · have hb14 : b < 14 := by omega
    have hms : 14 - (nI (b + 1)).toNatClampNeg < 14 - (nI b).toNatClampNeg := by rw [nI_clamp (by omega), nI_clamp (by omega)]; omega
    have hsx : sfx (Wh F S) b (14 - b) = Wh F S b + sfx (Wh F S) (b + 1) (14 - (b + 1)) := by
      rw [show 14 - b = (14 - (b + 1)) + 1 by omega]; rfl
    rw [if_neg (show ¬ (14 : Int32) ≤ nI b from nI_ge (b := 14) (by omega) (by omega)), bitI _ b (by omega), b_and, hF (lo S) b k4 hb14]
    by_cases c2 : bt S b = true ∧ F (lo S) b = true
    · obtain ⟨⟨r0, st1, wy1⟩, e1, h1, h2, h3⟩ := ih b st wy hb1 hb14 c2.1 hM hL
      dsimp only at h1 h2 h3
      rw [c2.1, c2.2, if_pos (show (if (true && true) = true then (1 : Int32) else 0) = 1 from rfl)]
      unfold del at e1
      rw [nI_1, e1, Option.bind_some]
      dsimp only
      rw [bd_eq, bd_eq, nI_1, h1, nI_add]
      exact hself _ ⟨_, b + 1, st1, wy1, by omega, by omega, rfl, by rw [Wh_t c2.1 c2.2] at hsx; unfold del at hsx ⊢; omega, h2, h3⟩ hms
    · rw [if_neg (by
        cases h1 : bt S b <;> cases h2 : F (lo S) b
        · decide
        · decide
        · decide
        · exact absurd ⟨h1, h2⟩ c2), bd_eq, nI_1]
      exact hself _ ⟨acc, b + 1, st, wy, by omega, by omega, rfl, by rw [Wh_f c2] at hsx; omega, hM, hL⟩ hms
theorem x2count (hT : T ≤ 14) (hq : q < 2 ^ 31) (hF : FreeR T F free) : ∀ (f : Nat) (S : Int32) (fr : Nat) (st wy : Nat → Int32), cd S < 2 * f → In14 T S → cd S % 2 = 0 → 1 ≤ fr → (∀ j, j < fr → bt S j = false) → MemoR q F st wy → StL q st →
    ∃ r : Int32 × (Nat → Int32) × (Nat → Int32), lp (f_X2_countFrom_B (nI q) free) f (st, wy, S, nI fr) = some r ∧ r.1 = nI (Wn F S) ∧ MemoR q F r.2.1 r.2.2 ∧ StL q r.2.1 := by
  intro f
  induction f with
  | zero => intros; omega
  | succ f ih =>
    intro S fr st wy hlen hS he hfr hlow hM hL
    show ∃ r, f_X2_countFrom_B (nI q) free (lp (f_X2_countFrom_B (nI q) free) f) _ = some r ∧ _
    generalize lp (f_X2_countFrom_B (nI q) free) f = self_ at ih ⊢
    unfold f_X2_countFrom_B
    dsimp only
    by_cases c : S = 0
    · rw [if_pos c]
      refine ⟨_, rfl, ?_, hM, hL⟩
      rw [c, W_0]; rfl
    · obtain ⟨k1, k2, k3⟩ := lo_ok c
      have k4 := hS _ k1 k2
      have hfl : fr ≤ lo S := by
        rcases Nat.lt_or_ge (lo S) fr with h | h
        · rw [hlow _ h] at k2; cases k2
        · exact h
      obtain ⟨s, hs, es, hb⟩ := x2slot S
      rw [if_neg c, x2low c (hS.mono hT) hfl, Option.bind_some, if_pos (show nI (lo S) < (14 : Int32) from nI_lt (b := 14) (by omega) (by omega)), es, Option.bind_some, if_pos (inb_ok hs (by omega))]
      have ec : (nI s).toNatClampNeg = s := nI_clamp (by omega)
      by_cases c1 : st s = nI q
      · rw [if_pos (by rw [ec]; exact c1), if_pos (inb_ok hs (by omega)), ec]
        exact ⟨_, rfl, hM S s (hS.mono hT) (hlow 0 (by omega)) he hs hb c1, hM, hL⟩
      · rw [if_neg (by rw [ec]; exact c1), if_pos (inb_ok (by omega) (by omega)), bd_eq, bd_eq, nI_1, nI_clamp (by omega)]
        obtain ⟨r, e1, h1, st', wy', hM', hL', e2, e3⟩ := x2loop hT hF self_ hS c (nI fr) hs (fun b st wy hb1 hb2 hb3 hM hL => by
          have hcd := cd_del (show lo S < 14 by omega) hb2 (by omega) k2 hb3
          refine ih (del S (lo S) b) (lo S + 1) st wy (by omega) (hS.del (by omega) (by omega)) (by omega) (by omega) (fun j hj => ?_) hM hL
          rw [bt_del S (by omega) (by omega) (by omega)]
          by_cases c3 : j = lo S
          · rw [decide_eq_true c3]
            cases bt S j <;> rfl
          · rw [k3 j (by omega)]
            rfl) st wy hM hL
        refine ⟨r, e1, h1, ?_, ?_⟩
        · rw [e2, e3]
          intro S' s' hS' h0' he' hs' hb' hst
          by_cases c3 : s' = s
          · subst c3
            rw [upd_at, slot_inj (hS.mono hT) hS' (hlow 0 (by omega)) h0' he he' (fun i hi => by rw [← hb i hi, hb' i hi])]
          · rw [upd_ne _ _ c3] at hst ⊢
            exact hM' S' s' hS' h0' he' hs' hb' hst
        · rw [e2]; exact hL'.up s
theorem all_in (hT : T ≤ 14) : In14 T (((1 : Int32) <<< (nI T &&& 31)) - 1) := fun i hi h => by
  rw [b_all T (by omega) i hi] at h
  exact of_decide_eq_true h
theorem all_ne (hT : T ≤ 14) (h0 : 0 < T) : ¬ ((1 : Int32) <<< (nI T &&& 31)) - 1 = 0 := fun h => by
  have h1 := b_all T (by omega) 0 (by omega)
  rw [h, b_0, decide_eq_true h0] at h1
  cases h1
theorem all_lo (hT : T ≤ 14) (h0 : 0 < T) : lo (((1 : Int32) <<< (nI T &&& 31)) - 1) = 0 := lo_eq (by omega) (by rw [b_all T (by omega) 0 (by omega)]; exact decide_eq_true h0) (fun j h => by omega)
theorem all_cd (hT : T ≤ 14) : cd (((1 : Int32) <<< (nI T &&& 31)) - 1) = T := by
  unfold cd
  rw [pct_congr 14 _ (fun j => decide (j < T)) (fun i hi => b_all T (by omega) i (by omega)), pct_lt_i 14 T hT]
theorem x2countAll0 (hT : T ≤ 14) (h0 : 0 < T) (he : T % 2 = 0) (hq : q + 1 < 2 ^ 31) (hF : FreeR T F free) (st wy : Nat → Int32) (hL : StL q st) : ∃ r : Int32 × (Nat → Int32) × (Nat → Int32), f_X2_countFrom (nI (q + 1)) free 9 (st, wy, ((1 : Int32) <<< (nI T &&& 31)) - 1, 0) = some r ∧ r.1 = nI (Wn F (((1 : Int32) <<< (nI T &&& 31)) - 1)) ∧ StL (q + 1) r.2.1 := by
  have hne := all_ne hT h0
  have hin := all_in hT
  have hlo := all_lo hT h0
  have hcd := all_cd hT
  generalize ((1 : Int32) <<< (nI T &&& 31)) - 1 = S at hne hin hlo hcd ⊢
  have hL1 : StL (q + 1) st := fun i hi => by
    obtain ⟨j, h1, h2⟩ := hL i hi
    exact ⟨j, by omega, h2⟩
  have hno : ∀ s, s < 4096 → ¬ st s = nI (q + 1) := fun s hs h => by
    obtain ⟨j, h1, h2⟩ := hL s hs
    rw [h2] at h
    have := (nI_eq (by omega) (by omega)).mp h
    omega
  have hM0 : MemoR (q + 1) F st wy := fun S s _ _ _ hs _ h => absurd h (hno s hs)
  obtain ⟨k1, k2, k3⟩ := lo_ok hne
  unfold f_X2_countFrom
  show ∃ r, f_X2_countFrom_B (nI (q + 1)) free (lp (f_X2_countFrom_B (nI (q + 1)) free) 8) _ = some r ∧ _
  have ih := x2count (q := q + 1) hT hq hF 8
  generalize lp (f_X2_countFrom_B (nI (q + 1)) free) 8 = self_ at ih ⊢
  unfold f_X2_countFrom_B
  dsimp only
  obtain ⟨s, hs, es, hb⟩ := x2slot S
  have ec : (nI s).toNatClampNeg = s := nI_clamp (by omega)
  have el : f_X2_lowest S 0 = some (nI (lo S)) := x2low (fr := 0) hne (hin.mono hT) (by omega)
  rw [if_neg hne, el, Option.bind_some, if_pos (show nI (lo S) < (14 : Int32) from nI_lt (b := 14) (by omega) (by omega)), es, Option.bind_some, if_pos (inb_ok hs (by omega)), if_neg (by rw [ec]; exact hno s hs), if_pos (inb_ok (by omega) (by omega)), bd_eq, bd_eq, nI_1, nI_clamp (by omega)]
  obtain ⟨r, e1, h1, st', wy', hM', hL', e2, e3⟩ := x2loop hT hF self_ hin hne 0 hs (fun b st wy hb1 hb2 hb3 hM hL => by
    have hcd2 := cd_del (show lo S < 14 by omega) hb2 (by omega) k2 hb3
    refine ih (del S (lo S) b) (lo S + 1) st wy (by omega) (hin.del (by omega) (by omega)) (by omega) (by omega) (fun j hj => ?_) hM hL
    rw [bt_del S (by omega) (by omega) (by omega), show j = lo S by omega, decide_eq_true rfl]
    cases bt S (lo S) <;> rfl) st wy hM0 hL1
  refine ⟨r, e1, h1, ?_⟩
  rw [e2]; exact hL'.up s
theorem x2look (hs : Sok T N g) (hX : PX te da ro T N g) (a1 a2 : Int32) (q : Nat) (fo fr : Nat → Int32) : ∃ fo' fr', f_X2_look a1 a2 (nI q) fo fr te da ro = some (((1 : Int32) <<< (nI T &&& 31)) - 1, nI N, nI (q + 1), fo', fr') ∧ FreeR T (Fg T N g) fr' := by
  have hT := hs.T14
  have hN := hs.N13
  have hX2 := hX
  obtain ⟨rfl, rfl, hr⟩ := hX2
  have key : ∃ r, f_X2_look a1 a2 (nI q) fo fr (nI T) (nI N) ro = some r ∧ ∃ fo' fr', r = (((1 : Int32) <<< (nI T &&& 31)) - 1, nI N, nI (q + 1), fo', fr') ∧ FreeR T (Fg T N g) fr' := by
    unfold f_X2_look
    rw [bd_eq, bd_eq, bd_eq, if_neg (show ¬ (13 : Int32) < nI N from nI_nlt (a := 13) (by omega) (by omega)), nI_1]
    refine lp_ex (I := fun x => ∃ (t : Nat) (f1 f2 : Nat → Int32), t ≤ 14 ∧ x = (nI t, f1, f2) ∧ ∀ a b, a < t → a < T → b < 14 → bt (f2 a) b = Fg T N g a b) (ms := fun x => 14 - x.1.toNatClampNeg) (Post := fun r => ∃ fo' fr', r = (((1 : Int32) <<< (nI T &&& 31)) - 1, nI N, nI (q + 1), fo', fr') ∧ FreeR T (Fg T N g) fr') ?_ 20000 _ ⟨0, fo, fr, by omega, rfl, fun a b h => by omega⟩ (by show 14 - _ < _; omega)
    rintro x ⟨t, f1, f2, ht, rfl, hf⟩ self hself
    unfold f_X2_look_L37
    dsimp only
    by_cases c : t = 14
    · subst c
      rw [if_pos (by decide)]
      exact ⟨_, rfl, f1, f2, rfl, fun a b ha hb => hf a b (by omega) ha hb⟩
    · have hms : 14 - (nI (t + 1)).toNatClampNeg < 14 - (nI t).toNatClampNeg := by rw [nI_clamp (by omega), nI_clamp (by omega)]; omega
      rw [if_neg (show ¬ (14 : Int32) ≤ nI t from nI_ge (b := 14) (by omega) (by omega)), bd_eq]
      refine lp_ex (I := fun x => ∃ (s : Int32) (d : Nat), d ≤ N ∧ x = (s, nI d) ∧ (t < T → ∀ i, i < 32 → (bt s i = true ↔ i = t ∨ ∃ e, e < d ∧ g e t = i))) (ms := fun x => N - x.2.toNatClampNeg) (Post := fun r => ∃ fo' fr', r = (((1 : Int32) <<< (nI T &&& 31)) - 1, nI N, nI (q + 1), fo', fr') ∧ FreeR T (Fg T N g) fr') ?_ 20000 _ ⟨_, 0, by omega, rfl, fun htT i hi => ?_⟩ (by show N - _ < _; omega)
      · rintro y ⟨s, d, hd, rfl, hst⟩ self2 hself2
        unfold f_X2_look_L50
        dsimp only
        by_cases c2 : N ≤ d
        · rw [if_pos ((nI_leI (by omega) (by omega)).mpr c2), if_pos (inb_ok (by omega) (by omega)), bd_eq, if_pos (inb_ok (by omega) (by omega)), bd_eq, bd_eq, nI_1, nI_clamp (by omega)]
          refine hself _ ⟨t + 1, _, _, by omega, rfl, fun a b ha haT hb => ?_⟩ hms
          by_cases e1 : a = t
          · subst e1
            rw [upd_at, b_and, b_not _ (by omega), b_all T (by omega) b (by omega)]
            unfold Fg
            congr 1
            have h1 := hst haT b (by omega)
            rw [Bool.eq_iff_iff, Bool.not_eq_true', Bool.and_eq_true, decide_eq_true_iff, decide_eq_true_iff, ← Bool.not_eq_true, h1]
            constructor
            · intro h2
              exact ⟨fun e => h2 (Or.inl e), fun d hd e => h2 (Or.inr ⟨d, by omega, e⟩)⟩
            · rintro ⟨h2, h3⟩ (h4 | ⟨d, hd, h4⟩)
              · exact h2 h4
              · exact h3 d (by omega) h4
          · rw [upd_ne _ _ e1]; exact hf a b (by omega) haT hb
        · rw [if_neg (nI_ge (by omega) (by omega))]
          have hms2 : N - (nI (d + 1)).toNatClampNeg < N - (nI d).toNatClampNeg := by rw [nI_clamp (by omega), nI_clamp (by omega)]; omega
          by_cases c3 : t < T
          · have hg := hs.2.1 d t (by omega) c3
            rw [partner_at hT hN ro (by omega) c3, Option.bind_some, bd_eq, bd_eq, nI_1, hr d t (by omega) c3]
            refine hself2 _ ⟨_, d + 1, by omega, rfl, fun htT i hi => ?_⟩ hms2
            rw [b_or, b_sh1 _ (by omega) hi, Bool.or_eq_true, decide_eq_true_iff, hst htT i hi]
            constructor
            · rintro ((h1 | ⟨e, h2, h3⟩) | h1)
              · exact Or.inl h1
              · exact Or.inr ⟨e, by omega, h3⟩
              · exact Or.inr ⟨d, by omega, h1.symm⟩
            · rintro (h1 | ⟨e, h2, h3⟩)
              · exact Or.inl (Or.inl h1)
              · by_cases e1 : e = d
                · subst e1; exact Or.inr h3.symm
                · exact Or.inl (Or.inr ⟨e, by omega, h3⟩)
          · have e1 : f_X3_partner (nI T) (nI N) ro (nI d) (nI t) = some (-1) := by
              unfold f_X3_partner
              rw [if_neg (nI_pos (by omega)), if_neg (nI_ge (by omega) (by omega)), if_neg (nI_pos (by omega)), if_neg (nI_nlt (by omega) (by omega))]
            rw [e1, Option.bind_some, bd_eq, bd_eq, nI_1]
            exact hself2 _ ⟨_, d + 1, by omega, rfl, fun htT => absurd htT c3⟩ hms2
      · rw [b_sh1 t (by omega) hi, decide_eq_true_iff]
        constructor
        · exact fun h => Or.inl h
        · rintro (h | ⟨e, h2, -⟩)
          · exact h
          · omega
  obtain ⟨r, e, fo', fr', rfl, h⟩ := key
  exact ⟨fo', fr', e, h⟩
end
