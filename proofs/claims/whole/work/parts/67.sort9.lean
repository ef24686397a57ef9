/-! OURS: days in order, by the reference; St_26 -/
section
variable {T N : Nat} {g : Nat → Nat → Nat} {te da : Int32} {ro no : Nat → Int32} {o : Nat} {u v : Nat → Nat}
theorem x9d_of (f : Nat → Int32) (h : f 1 = nI N) : f_X9_days f = some (nI N) := by
  unfold f_X9_days
  rw [if_pos inb1]
  exact congrArg some h
theorem x9t_of (f : Nat → Int32) (h : f 0 = nI T) : f_X9_teams f = some (nI T) := by
  unfold f_X9_teams
  rw [if_pos inb0]
  exact congrArg some h
theorem x9sort_lay (hs : Sok T N g) (hM : PM no 0 T N g) (π : Nat → Nat) (hp : PS (fun o => g o 0) N π) (x1 sm : Int32) (sn oth ord : Nat → Int32) (ho : ∀ j, j < 184 → oth j = no j) (hord : ∀ i, i < N → ord i = nI (π i)) : ∃ no', lp (f_X9_sort_L126 x1 0 sm sn oth ord) 20000 (0, no) = some (x1, 0, sm, no', sn, oth, ord) ∧ PM no' 0 T N (pmg g π) := by
  have hN := hs.N13
  have hT := hs.T14
  have key : ∃ r, lp (f_X9_sort_L126 x1 0 sm sn oth ord) 20000 (0, no) = some r ∧ ∃ no', r = (x1, 0, sm, no', sn, oth, ord) ∧ PM no' 0 T N (pmg g π) := by
    refine lp_ex (I := fun x => ∃ (d : Nat) (f : Nat → Int32), d ≤ N ∧ x = (nI d, f) ∧ f 0 = nI T ∧ f 1 = nI N ∧ ∀ e t, e < d → t < 14 → f (2 + 14 * e + t) = no (2 + 14 * π e + t)) (ms := fun x => N - x.1.toNatClampNeg) (Post := fun r => ∃ no', r = (x1, 0, sm, no', sn, oth, ord) ∧ PM no' 0 T N (pmg g π)) ?_ 20000 _ ⟨0, no, by omega, rfl, hM.1, hM.2.1, fun e t h => by omega⟩ (by show N - _ < _; omega)
    rintro x ⟨d, f, hd, rfl, f0, f1, f2⟩ self hself
    unfold f_X9_sort_L126
    dsimp only
    rw [x9d_of f f1, Option.bind_some]
    by_cases c : N ≤ d
    · rw [if_pos ((nI_leI (by omega) (by omega)).mpr c)]
      refine ⟨_, rfl, f, rfl, f0, f1, fun e t he ht => ?_⟩
      rw [Nat.zero_add, f2 e t (by omega) (by omega)]
      have := hM.2.2 (π e) t (hp.1 e he) ht
      rw [Nat.zero_add] at this
      exact this
    · have hms : N - (nI (d + 1)).toNatClampNeg < N - (nI d).toNatClampNeg := by rw [nI_clamp (by omega), nI_clamp (by omega)]; omega
      have hpd := hp.1 d (by omega)
      rw [if_neg (nI_ge (by omega) (by omega))]
      refine lp_ex (I := fun x => ∃ (s : Nat) (f : Nat → Int32), s ≤ 14 ∧ x = (nI s, f) ∧ f 0 = nI T ∧ f 1 = nI N ∧ (∀ e t, e < d → t < 14 → f (2 + 14 * e + t) = no (2 + 14 * π e + t)) ∧ ∀ t, t < s → f (2 + 14 * d + t) = no (2 + 14 * π d + t)) (ms := fun x => 14 - x.1.toNatClampNeg) (Post := fun r => ∃ no', r = (x1, 0, sm, no', sn, oth, ord) ∧ PM no' 0 T N (pmg g π)) ?_ 20000 _ ⟨0, f, by omega, rfl, f0, f1, f2, fun t h => by omega⟩ (by show 14 - _ < _; omega)
      rintro y ⟨s, f, hs14, rfl, f0, f1, f2, f3⟩ self2 hself2
      unfold f_X9_sort_L136
      dsimp only
      by_cases c2 : s = 14
      · subst c2
        rw [if_pos (by decide), bd_eq, nI_1]
        refine hself _ ⟨d + 1, f, by omega, rfl, f0, f1, fun e t he ht => ?_⟩ hms
        by_cases e1 : e = d
        · subst e1; exact f3 t ht
        · exact f2 e t (by omega) ht
      · rw [if_neg (show ¬ (14 : Int32) ≤ nI s from nI_ge (b := 14) (by omega) (by omega)), if_pos (inb_ok (by omega) (by omega)), show ord (nI d).toNatClampNeg = nI (π d) by rw [nI_clamp (by omega), hord d (by omega)], x9ixe, x9ixe, if_pos (inb_ok (by omega) (by omega)), if_pos (inb_ok (by omega) (by omega)), bd_eq, bd_eq, nI_1, nI_clamp (by omega), nI_clamp (by omega), ho _ (by omega)]
        refine hself2 _ ⟨s + 1, _, by omega, rfl, ?_, ?_, fun e t he ht => ?_, fun t ht => ?_⟩ (by show 14 - (nI (s + 1)).toNatClampNeg < 14 - (nI s).toNatClampNeg; rw [nI_clamp (by omega), nI_clamp (by omega)]; omega)
        · rw [upd_ne _ _ (by omega)]; exact f0
        · rw [upd_ne _ _ (by omega)]; exact f1
        · rw [upd_ne _ _ (by omega)]; exact f2 e t he ht
        · by_cases e1 : t = s
          · subst e1; rw [upd_at]
          · rw [upd_ne _ _ (by omega)]; exact f3 t (by omega)
  obtain ⟨r, e, no', rfl, h⟩ := key
  exact ⟨no', e, h⟩
def SortR (T N : Nat) (g : Nat → Nat → Nat) (sm : Int32) (no sn : Nat → Int32) (sm' : Int32) (sn' : Nat → Int32) (r : Int32 × Int32 × Int32 × (Nat → Int32) × (Nat → Int32) × (Nat → Int32) × (Nat → Int32)) : Prop :=
  ∃ π, PS (fun o => g o 0) N π ∧ ((pct N (fun d => decide (rk (fun o => g o 0) N d ≠ d)) = 0 ∧ ∃ a b, r = (0, 0, sm, no, sn, a, b)) ∨ (¬ pct N (fun d => decide (rk (fun o => g o 0) N d ≠ d)) = 0 ∧ ∃ no' a b, r = (nI (pct N (fun d => decide (rk (fun o => g o 0) N d ≠ d))), 0, sm', no', sn', a, b) ∧ PM no' 0 T N (pmg g π)))
theorem x9sort_fin (hs : Sok T N g) (hM : PM no 0 T N g) (π : Nat → Nat) (hp : PS (fun o => g o 0) N π) (sm : Int32) (sn oth ord : Nat → Int32) {sm' : Int32} {sn' : Nat → Int32} (es : f_X9_snap sm no sn = some (sm', sn')) (hord : ∀ i, i < N → ord i = nI (π i)) : ∃ r, lp (f_X9_sort_L74 0 sm no sn oth ord) 20000 (0, 0) = some r ∧ SortR T N g sm no sn sm' sn' r := by
  have hN := hs.N13
  have hT := hs.T14
  have hk : ∀ a b, a < N → b < N → g a 0 = g b 0 → a = b := fun a b ha hb h => hs.2.2 a b 0 ha hb (by have := hs.1; omega) h
  have hcnt : pct N (fun d => decide (π d ≠ d)) = pct N (fun d => decide (rk (fun o => g o 0) N d ≠ d)) := pct_congr N _ _ (fun d hd => by
    rw [Bool.eq_iff_iff, decide_eq_true_iff, decide_eq_true_iff]
    constructor
    · intro h1 h2
      exact h1 (rk_inj (hp.1 d hd) hd ((hp.rk_eq hd).trans h2.symm) hk)
    · intro h1 h2
      have := hp.rk_eq hd
      rw [h2] at this
      exact h1 this)
  refine lp_ex (I := fun x => ∃ d, d ≤ N ∧ x = (nI (pct d (fun d => decide (π d ≠ d))), nI d)) (ms := fun x => N - x.2.toNatClampNeg) (Post := SortR T N g sm no sn sm' sn') ?_ 20000 _ ⟨0, by omega, rfl⟩ (by show N - _ < _; omega)
  rintro x ⟨d, hd, rfl⟩ self hself
  unfold f_X9_sort_L74
  dsimp only
  rw [x9days hM, Option.bind_some]
  by_cases c : N ≤ d
  · have hdN : d = N := by omega
    subst hdN
    have hmax := pct_max d (fun d => decide (π d ≠ d))
    rw [if_pos ((nI_leI (by omega) (by omega)).mpr c)]
    by_cases c2 : pct d (fun d => decide (π d ≠ d)) = 0
    · rw [if_pos (by rw [c2]; rfl)]
      exact ⟨_, rfl, π, hp, Or.inl ⟨hcnt.symm.trans c2, _, _, rfl⟩⟩
    · rw [if_neg (nI_ne0 (by omega) (by omega)), es, Option.bind_some]
      dsimp only
      rw [show f_X9_copy 184 184 no oth (0 : Int32) (0 : Int32) = _ from x9copy 184 184 0 0 (by omega) (by omega) (by omega) (by omega) no oth, Option.bind_some]
      obtain ⟨no', e1, h1⟩ := x9sort_lay hs hM π hp (nI (pct d (fun d => decide (π d ≠ d)))) sm' sn' (va_cpy no oth 0 0 184) ord (fun j hj => by have := cpy_in no oth 0 0 184 hj; rw [Nat.zero_add] at this; exact this) hord
      rw [e1]
      exact ⟨_, rfl, π, hp, Or.inr ⟨fun h => c2 (hcnt.trans h), no', _, _, by rw [hcnt], h1⟩⟩
  · have hms : N - (nI (d + 1)).toNatClampNeg < N - (nI d).toNatClampNeg := by rw [nI_clamp (by omega), nI_clamp (by omega)]; omega
    have hpd := hp.1 d (by omega)
    rw [if_neg (nI_ge (by omega) (by omega)), if_pos (inb_ok (by omega) (by omega)), nI_clamp (by omega), hord d (by omega)]
    by_cases c2 : π d = d
    · rw [if_pos (congrArg nI c2), bd_eq, nI_1]
      exact hself _ ⟨d + 1, by omega, by rw [← pct_f (decide_eq_false (fun h => h c2))]⟩ hms
    · rw [if_neg (fun h => c2 ((nI_eq (by omega) (by omega)).mp h)), bd_eq, bd_eq, nI_1, nI_1]
      exact hself _ ⟨d + 1, by omega, by rw [← pct_t (decide_eq_true c2)]⟩ hms
theorem x9sort (hs : Sok T N g) (hM : PM no 0 T N g) (th sm : Int32) (sn oth ord : Nat → Int32) {sm' : Int32} {sn' : Nat → Int32} (es : f_X9_snap sm no sn = some (sm', sn')) : ∃ r, f_X9_sort th sm no sn oth ord = some r ∧ SortR T N g sm no sn sm' sn' r := by
  have hN := hs.N13
  have hT := hs.T14
  have hk : ∀ a b, a < N → b < N → g a 0 = g b 0 → a = b := fun a b ha hb h => hs.2.2 a b 0 ha hb (by have := hs.1; omega) h
  unfold f_X9_sort
  refine lp_ex (I := fun x => ∃ (d : Nat) (π : Nat → Nat) (f : Nat → Int32), d ≤ N ∧ x = (nI d, f) ∧ PS (fun o => g o 0) d π ∧ ∀ i, i < d → f i = nI (π i)) (ms := fun x => N - x.1.toNatClampNeg) (Post := SortR T N g sm no sn sm' sn') ?_ 20000 _ ⟨0, fun j => j, ord, by omega, rfl, ⟨fun i h => h, fun i j h1 h2 => by omega⟩, fun i h => by omega⟩ (by show N - _ < _; omega)
  rintro x ⟨d, π, f, hd, rfl, hp, hf⟩ self hself
  unfold f_X9_sort_L9
  dsimp only
  rw [x9days hM, Option.bind_some]
  by_cases c : N ≤ d
  · have hdN : d = N := by omega
    subst hdN
    rw [if_pos ((nI_leI (by omega) (by omega)).mpr c)]
    exact x9sort_fin hs hM π hp sm sn oth f es hf
  · have hms : N - (nI (d + 1)).toNatClampNeg < N - (nI d).toNatClampNeg := by rw [nI_clamp (by omega), nI_clamp (by omega)]; omega
    rw [if_neg (nI_ge (by omega) (by omega))]
    refine lp_ex (I := fun x => ∃ (a : Nat) (f : Nat → Int32), a ≤ d ∧ x = (nI a, f) ∧ (∀ i, a ≤ i → i < d → g d 0 < g (π i) 0) ∧ ∀ i, i ≤ d → i ≠ a → f i = nI (ins π d a i)) (ms := fun x => x.1.toNatClampNeg) (Post := SortR T N g sm no sn sm' sn') ?_ 20000 _ ⟨d, f, by omega, rfl, fun i h1 h2 => by omega, fun i h1 h2 => by rw [ins_lt (by omega)]; exact hf i (by omega)⟩ (by show (nI d).toNatClampNeg < _; rw [nI_clamp (by omega)]; omega)
    rintro y ⟨a, f, ha, rfl, hgt, hf⟩ self2 hself2
    unfold f_X9_sort_L19
    dsimp only
    have hdone : (∀ i, i < a → g (π i) 0 < g d 0) → ∃ r, f_X9_sort_J59 self 0 0 sm no sn oth (nI d, nI a, f) = some r ∧ SortR T N g sm no sn sm' sn' r := by
      intro h1
      unfold f_X9_sort_J59
      dsimp only
      rw [if_pos (inb_ok (by omega) (by omega)), bd_eq, bd_eq, nI_1, nI_clamp (by omega)]
      refine hself _ ⟨d + 1, ins π d a, _, by omega, rfl, ins_PS hp ha h1 hgt, fun i hi => ?_⟩ hms
      by_cases e : i = a
      · subst e; rw [upd_at, ins_at]
      · rw [upd_ne _ _ e]; exact hf i (by omega) e
    by_cases c2 : a = 0
    · subst c2
      rw [if_pos (show nI 0 ≤ 0 from Int32.le_refl _)]
      exact hdone (fun i h => by omega)
    · have hpa := hp.1 (a - 1) (by omega)
      rw [if_neg (show ¬ nI a ≤ 0 from fun h => by rw [show (0 : Int32) = nI 0 from rfl, nI_leI (by omega) (by omega)] at h; omega), show nI a - 1 = nI (a - 1) by rw [show (1 : Int32) = nI 1 from rfl, pk_sub (by omega)], if_pos (inb_ok (by omega) (by omega)), show f (nI (a - 1)).toNatClampNeg = nI (π (a - 1)) by rw [nI_clamp (by omega), hf (a - 1) (by omega) (by omega), ins_lt (by omega)], x9isLess hs hM (by omega) (by omega) (by omega), Option.bind_some]
      by_cases c3 : g (π (a - 1)) 0 ≤ g d 0
      · rw [if_pos c3, if_pos zer0]
        refine hdone (fun i hi => ?_)
        have h3 : g (π (a - 1)) 0 ≠ g d 0 := fun h => by
          have := hk _ _ (by omega) (by omega) h
          omega
        by_cases e : i = a - 1
        · subst e; omega
        · have h5 : g (π i) 0 < g (π (a - 1)) 0 := hp.2 i (a - 1) (by omega) (by omega)
          omega
      · rw [if_neg c3, if_neg one0, if_pos (inb_ok (by omega) (by omega)), if_pos (inb_ok (by omega) (by omega)), bd_eq, bd_eq, nI_dn, show (1 : Int32) = nI 1 from rfl, pk_sub (by omega), nI_clamp (by omega)]
        refine hself2 _ ⟨a - 1, _, by omega, rfl, fun i hi1 hi2 => ?_, fun i hi1 hi2 => ?_⟩ (by show (nI (a - 1)).toNatClampNeg < (nI a).toNatClampNeg; rw [nI_clamp (by omega), nI_clamp (by omega)]; omega)
        · by_cases e : i = a - 1
          · subst e; omega
          · exact hgt i (by omega) hi2
        · by_cases e : i = a
          · subst e
            rw [upd_at, ins_gt (by omega) (by omega)]
          · rw [upd_ne _ _ e, hf i hi1 e]
            rcases Nat.lt_or_ge i a with h5 | h5
            · rw [ins_lt h5, ins_lt (by omega)]
            · rw [ins_gt (by omega) hi1, ins_gt (by omega) hi1]
end
theorem st_26 : St_26 rd_Inv := by
  intro k
  intros
  rename_i hk hI
  have hI' := st_m k _ _ _ _ _ _ _ _ _ _ _ _ _ _ _ _ _ _ _ _ _ _ _ _ _ hI
  obtain ⟨hS, hA, h3, h4, h5, h7⟩ := hI
  obtain ⟨ah', an', abt', abd', abr', sm', snaps', ek, es, hA'⟩ := keep_snap hA hS
  obtain ⟨T, N, g, hs, hX, hM⟩ := hS
  have hN := hs.N13
  have hkk : ∀ a b, a < N → b < N → g a 0 = g b 0 → a = b := fun a b ha hb h => hs.2.2 a b 0 ha hb (by have := hs.1; omega) h
  obtain ⟨ro', π, e1, hp, hX'⟩ := x3put hs hX
  obtain ⟨r, e9, σ, hσ, h9⟩ := x9sort hs hM _ _ _ _ _ es
  have hmax := pct_max N (fun d => decide (rk (fun o => g o 0) N d ≠ d))
  unfold f_X8_sort
  rw [e9, x3out hs hX, Option.bind_some]
  rcases h9 with ⟨h0, a, b, rfl⟩ | ⟨h0, no', a, b, rfl, hM'⟩
  · rw [h0, if_pos (show nI 0 ≤ 0 from Int32.le_refl _)]
    exact ⟨_, _, _, _, _, _, _, _, _, _, _, _, _, _, rfl, rfl, rfl, hI'⟩
  · rw [if_neg (show ¬ nI _ ≤ 0 from fun h => by rw [show (0 : Int32) = nI 0 from rfl, nI_leI (by omega) (by omega)] at h; omega), ek, Option.bind_some]
    dsimp only
    rw [e1, Option.bind_some]
    refine ⟨_, _, _, _, _, _, _, _, _, _, _, _, _, _, rfl, rfl, rfl, ⟨T, N, pmg g π, hs.pm hp.1 hp.inj, hX', ?_⟩, hA', h3, h4, h5.s, h7⟩
    refine ⟨hM'.1, hM'.2.1, fun d t hd ht => ?_⟩
    rw [hM'.2.2 d t hd ht]
    show nI (g (σ d) t) = nI (g (π d) t)
    rw [hσ.uniq hp hkk hd]
