/-! OURS: a day comes behind all; tell -/
def apg (N : Nat) (g : Nat → Nat → Nat) (u : Nat → Nat) (d t : Nat) : Nat := if d < N then g d t else u t
/-- a day that may come -/
def New (T N : Nat) (g : Nat → Nat → Nat) (u : Nat → Nat) : Prop := ∀ t, t < T → u t < T ∧ u t ≠ t ∧ u (u t) = t ∧ ∀ d, d < N → g d t ≠ u t
section
variable {T N : Nat} {g : Nat → Nat → Nat} {te da : Int32} {ro no : Nat → Int32} {o : Nat} {u v : Nat → Nat}
theorem Sok.ap (hs : Sok T N g) (hT0 : ¬ T = 0) {u : Nat → Nat} (hu : New T N g u) : Sok T (N + 1) (apg N g u) := by
  have h2 : ∀ d t, d < N + 1 → t < T → apg N g u d t < T ∧ apg N g u d t ≠ t ∧ apg N g u d (apg N g u d t) = t := by
    intro d t hd ht
    unfold apg
    by_cases c : d < N
    · rw [if_pos c, if_pos c]; exact hs.2.1 d t c ht
    · rw [if_neg c, if_neg c]
      have := hu t ht
      exact ⟨this.1, this.2.1, this.2.2.1⟩
  have h3 : ∀ d e t, d < N + 1 → e < N + 1 → t < T → apg N g u d t = apg N g u e t → d = e := by
    intro d e t hd he ht h
    unfold apg at h
    by_cases c : d < N
    · rw [if_pos c] at h
      by_cases c2 : e < N
      · rw [if_pos c2] at h; exact hs.2.2 d e t c c2 ht h
      · rw [if_neg c2] at h; exact absurd h ((hu t ht).2.2.2 d c)
    · rw [if_neg c] at h
      by_cases c2 : e < N
      · rw [if_pos c2] at h; exact absurd h.symm ((hu t ht).2.2.2 e c2)
      · omega
  refine ⟨?_, h2, h3⟩
  have h1 := hs.1
  have hT1 : 0 < T := by omega
  have : N + 1 ≤ T - 1 := by
    refine inj_le (T - 1) (N + 1) (fun d => apg N g u d 0 - 1) (fun d hd => ?_) (fun d e hd he h => ?_)
    · have := h2 d 0 hd hT1
      show apg N g u d 0 - 1 < T - 1
      omega
    · have k1 := h2 d 0 hd hT1
      have k2 := h2 e 0 he hT1
      exact h3 d e 0 hd he hT1 (by
        have : apg N g u d 0 - 1 = apg N g u e 0 - 1 := h
        omega)
  omega
theorem x3append (hs : Sok T N g) (hs1 : Sok T (N + 1) (apg N g u)) (hX : PX te da ro T N g) (row : Nat → Int32) (hrow : ∀ t, t < T → row t = nI (u t)) : ∃ ro', f_X3_append 14 da ro row = some (nI (N + 1), ro') ∧ PX te (nI (N + 1)) ro' T (N + 1) (apg N g u) := by
  have hN := hs1.N13
  have hT := hs.T14
  obtain ⟨rfl, rfl, hr⟩ := hX
  refine ⟨va_cpy row ro 0 (14 * N) 14, ?_, rfl, rfl, fun d t hd ht => ?_⟩
  · unfold f_X3_append
    have e3 : nI N * 14 = nI (14 * N) := by rw [show (14 : Int32) = nI 14 from rfl, pk_mul, Nat.mul_comm]
    rw [if_neg (show ¬ (13 : Int32) ≤ nI N from nI_ge (b := 13) (by omega) (by omega)), if_pos (by decide), e3, if_pos ⟨by decide, nI_pos (by omega), by decide, by decide, by rw [nI_clamp (by omega)]; show 14 * N + 14 ≤ 182; omega⟩, bd_eq, bd_eq, nI_clamp (by omega), nI_1]
    rfl
  · unfold apg
    by_cases c : d < N
    · rw [if_pos c, cpy_out _ _ _ _ _ (by omega)]
      exact hr d t c ht
    · rw [if_neg c, show d = N by omega, cpy_in _ _ _ _ _ (by omega), Nat.zero_add]
      exact hrow t ht
theorem x9comes (hs : Sok T N g) (hs1 : Sok T (N + 1) (apg N g u)) (hM : PM no 0 T N g) (row : Nat → Int32) (hrow : ∀ t, t < T → row t = nI (u t)) : ∃ no', f_X9_comes no row = some no' ∧ PM no' 0 T (N + 1) (apg N g u) := by
  have hN := hs1.N13
  have hT := hs.T14
  unfold f_X9_comes
  refine lp_ex (I := fun x => ∃ (t : Nat) (f : Nat → Int32), t ≤ T ∧ x = (nI t, f) ∧ f 0 = nI T ∧ f 1 = nI N ∧ (∀ d s, d < N → s < T → f (2 + 14 * d + s) = nI (g d s)) ∧ ∀ s, s < t → f (2 + 14 * N + s) = nI (u s)) (ms := fun x => T - x.1.toNatClampNeg) (Post := fun no' => PM no' 0 T (N + 1) (apg N g u)) ?_ 20000 _ ⟨0, no, by omega, rfl, hM.1, hM.2.1, fun d s hd hs => by have := hM.2.2 d s hd hs; rw [Nat.zero_add] at this; exact this, fun s h => by omega⟩ (by show T - _ < _; omega)
  rintro x ⟨t, f, ht, rfl, f0, f1, f2, f3⟩ self hself
  have eT : f_X9_teams f = some (nI T) := by
    unfold f_X9_teams
    rw [if_pos inb0]
    exact congrArg some f0
  have eN : f_X9_days f = some (nI N) := by
    unfold f_X9_days
    rw [if_pos inb1]
    exact congrArg some f1
  unfold f_X9_comes_L2
  dsimp only
  rw [eT, Option.bind_some]
  by_cases c : T ≤ t
  · rw [if_pos ((nI_leI (by omega) (by omega)).mpr c), if_pos inb1, if_pos inb1, bd_eq]
    refine ⟨_, rfl, ?_, ?_, fun d s hd hs => ?_⟩
    · show upd f 1 _ 0 = _
      rw [upd_ne _ _ (by omega)]; exact f0
    · show upd f 1 (f 1 + 1) 1 = _
      rw [upd_at, f1, nI_1]
    · show upd f 1 _ (0 + 2 + 14 * d + s) = _
      rw [upd_ne _ _ (by omega), Nat.zero_add]
      unfold apg
      by_cases c2 : d < N
      · rw [if_pos c2]; exact f2 d s c2 hs
      · rw [if_neg c2, show d = N by omega]; exact f3 s (by omega)
  · rw [if_neg (nI_ge (by omega) (by omega)), eN, Option.bind_some, if_pos (inb_ok (by omega) (by omega)), x9ixe, if_pos (inb_ok (by omega) (by omega)), bd_eq, bd_eq, nI_clamp (by omega), nI_clamp (by omega), nI_1]
    refine hself _ ⟨t + 1, _, by omega, rfl, ?_, ?_, fun d s hd hs => ?_, fun s hs => ?_⟩ (by show T - (nI (t + 1)).toNatClampNeg < T - (nI t).toNatClampNeg; rw [nI_clamp (by omega), nI_clamp (by omega)]; omega)
    · rw [upd_ne _ _ (by omega)]; exact f0
    · rw [upd_ne _ _ (by omega)]; exact f1
    · rw [upd_ne _ _ (by omega)]; exact f2 d s hd hs
    · by_cases e : s = t
      · subst e; rw [upd_at]; exact hrow s (by omega)
      · rw [upd_ne _ _ (by omega)]; exact f3 s (by omega)
theorem x7at {n : Nat} (hn : n ≤ 740) (tb : Nat → Int32) {i : Nat} (hi : i < n) : f_X7_at (nI n) tb (nI i) = some (tb i) := by
  unfold f_X7_at
  rw [if_neg (nI_pos (by omega)), if_pos (nI_lt hi (by omega)), if_pos (inb_ok (by omega) (by omega)), nI_clamp (by omega)]
/-- a tape that tells a day that may come -/
def ToldOk (T N : Nat) (g : Nat → Nat → Nat) (v : Nat → Nat) (t : Nat) : Prop := v t < T ∧ v t ≠ t ∧ v (v t) = t ∧ ∀ d, d < N → g d t ≠ v t
theorem x8told (hs : Sok T N g) (hX : PX te da ro T N g) (tb td : Nat → Int32) (v : Nat → Nat) (hT0 : ¬ T = 0) (hv : ∀ i, i < T → v i < 256 ∧ tb i = nI (v i)) : ∃ r td', f_X8_readTold (nI T) tb te da ro td = some (r, td') ∧ ((r = 1 ∧ (∀ t, t < T → ToldOk T N g v t) ∧ ∀ t, t < T → td' t = nI (v t)) ∨ (r = 0 ∧ ¬ ∀ t, t < T → ToldOk T N g v t)) := by
  have hT := hs.T14
  have hX2 := hX
  obtain ⟨rfl, -, -⟩ := hX2
  have key : ∃ r, f_X8_readTold (nI T) tb (nI T) da ro td = some r ∧ ((r.1 = 1 ∧ (∀ t, t < T → ToldOk T N g v t) ∧ ∀ t, t < T → r.2 t = nI (v t)) ∨ (r.1 = 0 ∧ ¬ ∀ t, t < T → ToldOk T N g v t)) := by
    unfold f_X8_readTold
    rw [if_neg (nI_ne0 (by omega) (by omega)), if_pos rfl]
    refine lp_ex (I := fun x => ∃ (t : Nat) (f : Nat → Int32), t ≤ T ∧ x = (nI t, f) ∧ ∀ s, s < t → ToldOk T N g v s ∧ f s = nI (v s)) (ms := fun x => T - x.1.toNatClampNeg) (Post := fun r : Int32 × (Nat → Int32) => ((r.1 = 1 ∧ (∀ t, t < T → ToldOk T N g v t) ∧ ∀ t, t < T → r.2 t = nI (v t)) ∨ (r.1 = 0 ∧ ¬ ∀ t, t < T → ToldOk T N g v t))) ?_ 20000 _ ⟨0, td, by omega, rfl, fun s h => by omega⟩ (by show T - _ < _; omega)
    rintro x ⟨t, f, ht, rfl, hf⟩ self hself
    unfold f_X8_readTold_L31
    dsimp only
    by_cases c : T ≤ t
    · rw [if_pos ((nI_leI (by omega) (by omega)).mpr c)]
      exact ⟨_, rfl, Or.inl ⟨rfl, fun s h => (hf s (by omega)).1, fun s h => (hf s (by omega)).2⟩⟩
    · have hvt := hv t (by omega)
      rw [if_neg (nI_ge (by omega) (by omega)), x7at (by omega) tb (by omega), Option.bind_some, hvt.2]
      have hno : ∀ (f : Nat → Int32), ¬ ToldOk T N g v t → ∃ r, (some ((0 : Int32), f)) = some r ∧ ((r.1 = 1 ∧ (∀ t, t < T → ToldOk T N g v t) ∧ ∀ t, t < T → r.2 t = nI (v t)) ∨ (r.1 = 0 ∧ ¬ ∀ t, t < T → ToldOk T N g v t)) := fun f h => ⟨_, rfl, Or.inr ⟨rfl, fun h2 => h (h2 t (by omega))⟩⟩
      by_cases c1 : v t < T ∧ v t ≠ t
      · have hvv := hv (v t) c1.1
        rw [x3has2_in T (by omega) (by omega) c1.1 (fun h => c1.2 h.symm), Option.bind_some, if_neg one0, x7at (by omega) tb c1.1, Option.bind_some, hvv.2]
        by_cases c2 : v (v t) = t
        · rw [if_pos (congrArg nI c2), x3dayOf hs hX (by omega) c1.1 (fun h => c1.2 h.symm), Option.bind_some]
          rcases mo_cases hs t (v t) (by omega) with ⟨d, hd, e1, e2⟩ | ⟨h1, e2⟩
          · have := hs.N13
            rw [e2, if_neg (fun h => by have h9 := nI_nm1 (a := d) (by omega); rw [h] at h9; exact h9.mp rfl)]
            exact hno f (fun h => h.2.2.2 d hd e1)
          · rw [e2, if_pos rfl, if_pos (inb_ok (by omega) (by omega)), bd_eq, bd_eq, nI_1, nI_clamp (by omega)]
            refine hself _ ⟨t + 1, _, by omega, rfl, fun s hs => ?_⟩ (by show T - (nI (t + 1)).toNatClampNeg < T - (nI t).toNatClampNeg; rw [nI_clamp (by omega), nI_clamp (by omega)]; omega)
            by_cases e : s = t
            · subst e; rw [upd_at]; exact ⟨⟨c1.1, c1.2, c2, h1⟩, rfl⟩
            · rw [upd_ne _ _ e]; exact hf s (by omega)
        · rw [if_neg (fun h => c2 ((nI_eq (by omega) (by omega)).mp h))]
          exact hno f (fun h => c2 h.2.2.1)
      · rw [x3has2_out T (by omega), Option.bind_some, if_pos zer0]
        · exact hno f (fun h => c1 ⟨h.1, h.2.1⟩)
        · rintro ⟨a, b, ha, hb, hab, e1, e2⟩
          rw [nI_eq (by omega) (by omega)] at e1 e2
          omega
  obtain ⟨⟨r, td'⟩, h1, h2⟩ := key
  exact ⟨r, td', h1, h2⟩
theorem x9told (hs : Sok T N g) (hM : PM no 0 T N g) (tb : Nat → Int32) (v : Nat → Nat) (hv : ∀ i, i < T → v i < 256 ∧ tb i = nI (v i)) : ∃ r, f_X9_isTold tb no = some r ∧ ((r = 1 ∧ (∀ t, t < T → ToldOk T N g v t)) ∨ (r = 0 ∧ ¬ ∀ t, t < T → ToldOk T N g v t)) := by
  have hT := hs.T14
  unfold f_X9_isTold
  refine lp_ex (I := fun x => ∃ (t : Nat), t ≤ T ∧ x = nI t ∧ ∀ s, s < t → ToldOk T N g v s) (ms := fun x => T - x.toNatClampNeg) (Post := fun r => ((r = 1 ∧ (∀ t, t < T → ToldOk T N g v t)) ∨ (r = 0 ∧ ¬ ∀ t, t < T → ToldOk T N g v t))) ?_ 20000 _ ⟨0, by omega, rfl, fun s h => by omega⟩ (by show T - _ < _; omega)
  rintro x ⟨t, ht, rfl, hf⟩ self hself
  unfold f_X9_isTold_L2
  rw [x9teams hM, Option.bind_some]
  by_cases c : T ≤ t
  · rw [if_pos ((nI_leI (by omega) (by omega)).mpr c)]
    exact ⟨_, rfl, Or.inl ⟨rfl, fun s h => hf s (by omega)⟩⟩
  · have hvt := hv t (by omega)
    have hno : ¬ ToldOk T N g v t → ∃ r, (some (0 : Int32)) = some r ∧ ((r = 1 ∧ (∀ t, t < T → ToldOk T N g v t)) ∨ (r = 0 ∧ ¬ ∀ t, t < T → ToldOk T N g v t)) := fun h => ⟨_, rfl, Or.inr ⟨rfl, fun h2 => h (h2 t (by omega))⟩⟩
    rw [if_neg (nI_ge (by omega) (by omega)), if_pos (inb_ok (by omega) (by omega)), bd_eq, nI_clamp (by omega), hvt.2]
    by_cases c1 : v t < T
    · have hvv := hv (v t) c1
      rw [x9isTeam_in hs hM c1, Option.bind_some, if_neg one0]
      by_cases c3 : v t = t
      · rw [if_pos (congrArg nI c3)]
        exact hno (fun h => h.2.1 c3)
      · rw [if_neg (fun h => c3 ((nI_eq (by omega) (by omega)).mp h)), if_pos (inb_ok (by omega) (by omega)), nI_clamp (by omega), hvv.2]
        by_cases c2 : v (v t) = t
        · rw [if_pos (congrArg nI c2), x9metOn hs 184 (by omega) (by omega) hM (by omega) c1, Option.bind_some]
          rcases mo_cases hs t (v t) (by omega) with ⟨d, hd, e1, e2⟩ | ⟨h1, e2⟩
          · have := hs.N13
            rw [e2, if_neg (fun h => by have h9 := nI_nm1 (a := d) (by omega); rw [h] at h9; exact h9.mp rfl)]
            exact hno (fun h => h.2.2.2 d hd e1)
          · rw [e2, if_pos rfl, bd_eq, nI_1]
            refine hself _ ⟨t + 1, by omega, rfl, fun s hs => ?_⟩ (by show T - (nI (t + 1)).toNatClampNeg < T - (nI t).toNatClampNeg; rw [nI_clamp (by omega), nI_clamp (by omega)]; omega)
            by_cases e : s = t
            · subst e; exact ⟨c1, c3, c2, h1⟩
            · exact hf s (by omega)
        · rw [if_neg (fun h => c2 ((nI_eq (by omega) (by omega)).mp h))]
          exact hno (fun h => c2 h.2.2.1)
    · rw [x9isTeam_out hs hM, Option.bind_some, if_pos zer0]
      · exact hno (fun h => c1 h.1)
      · rintro ⟨a, ha, e1⟩
        rw [nI_eq (by omega) (by omega)] at e1
        omega
theorem x9tell_go (hs : Sok T N g) (hs1 : Sok T (N + 1) (apg N g v)) (hM : PM no 0 T N g) (tb so : Nat → Int32) (hv : ∀ i, i < T → v i < 256 ∧ tb i = nI (v i)) (sm : Int32) (sn : Nat → Int32) : ∃ no' so', lp (f_X9_tell_L45 tb (nI T) 0 0 sm no sn) 20000 (0, so) = some (nI (N + 1), 0, 0, sm, no', sn, so') ∧ PM no' 0 T (N + 1) (apg N g v) := by
  have hT := hs.T14
  have key : ∃ r, lp (f_X9_tell_L45 tb (nI T) 0 0 sm no sn) 20000 (0, so) = some r ∧ ∃ no' so', r = (nI (N + 1), 0, 0, sm, no', sn, so') ∧ PM no' 0 T (N + 1) (apg N g v) := by
    refine lp_ex (I := fun x => ∃ (t : Nat) (f : Nat → Int32), t ≤ T ∧ x = (nI t, f) ∧ ∀ s, s < t → f s = nI (v s)) (ms := fun x => T - x.1.toNatClampNeg) (Post := fun r => ∃ no' so', r = (nI (N + 1), 0, 0, sm, no', sn, so') ∧ PM no' 0 T (N + 1) (apg N g v)) ?_ 20000 _ ⟨0, so, by omega, rfl, fun s h => by omega⟩ (by show T - _ < _; omega)
    rintro x ⟨t, f, ht, rfl, hf⟩ self hself
    unfold f_X9_tell_L45
    dsimp only
    by_cases c : T ≤ t
    · rw [if_pos ((nI_leI (by omega) (by omega)).mpr c)]
      obtain ⟨no', e1, hM'⟩ := x9comes hs hs1 hM f (fun s h => hf s (by omega))
      rw [e1, Option.bind_some, x9days hM', Option.bind_some]
      exact ⟨_, rfl, no', f, rfl, hM'⟩
    · rw [if_neg (nI_ge (by omega) (by omega)), if_pos (inb_ok (by omega) (by omega)), if_pos (inb_ok (by omega) (by omega)), bd_eq, bd_eq, nI_1, nI_clamp (by omega)]
      refine hself _ ⟨t + 1, _, by omega, rfl, fun s hs => ?_⟩ (by show T - (nI (t + 1)).toNatClampNeg < T - (nI t).toNatClampNeg; rw [nI_clamp (by omega), nI_clamp (by omega)]; omega)
      by_cases e : s = t
      · subst e; rw [upd_at]; exact (hv s (by omega)).2
      · rw [upd_ne _ _ e]; exact hf s (by omega)
  obtain ⟨r, e, no', so', rfl, h⟩ := key
  exact ⟨no', so', e, h⟩
end
theorem tapeR_v {n : Nat} {tb tp : Nat → Int32} (h : tapeR n tb tp) : ∃ v : Nat → Nat, (∀ i, i < n → v i < 256 ∧ tp i = nI (v i)) ∧ ∀ i, i < n → v i < 256 ∧ tb i = nI (v i) := by
  have h1 : ∀ i, ∃ x : Nat, i < n → x < 256 ∧ tp i = nI x ∧ tb i = nI x := by
    intro i
    by_cases c : i < n
    · obtain ⟨e, x, hx, e2⟩ := h i c
      exact ⟨x, fun _ => ⟨hx, e2, e.trans e2⟩⟩
    · exact ⟨0, fun h => absurd h c⟩
  obtain ⟨v, hv⟩ := Classical.axiomOfChoice h1
  exact ⟨v, fun i hi => ⟨(hv i hi).1, (hv i hi).2.1⟩, fun i hi => ⟨(hv i hi).1, (hv i hi).2.2⟩⟩
theorem st_20 : St_20 rd_Inv := by
  intro k
  intros
  rename_i hk hI
  obtain ⟨hS, hA, h3, ⟨n, hn, en1, en2, htp⟩, h5, h7⟩ := hI
  obtain ⟨ah', an', abt', abd', abr', sm', snaps', ek, es, hA'⟩ := keep_snap hA hS
  have hS' := hS
  obtain ⟨T, N, g, hs, hX, hM⟩ := hS
  have hT := hs.T14
  have eT := hX.1
  subst en1 en2
  have ht0 : ∀ tb tp, tapeR n tb tp → TapR 0 tb 0 tp := fun tb tp h => ⟨0, by omega, rfl, rfl, fun i h => by omega⟩
  unfold f_X8_tell f_X9_tell
  rw [x9teams hM, Option.bind_some]
  by_cases c0 : T = 0
  · unfold f_X8_readTold
    rw [eT, if_pos (by rw [c0]; rfl), if_pos (by rw [c0]; rfl), Option.bind_some]
    dsimp only
    rw [if_pos zer0]
    rw [eT] at hS'
    exact ⟨_, _, _, _, _, _, _, _, _, _, _, _, _, _, _, _, _, rfl, rfl, rfl, hS', hA, h3, ht0 _ _ htp, h5.s, h7⟩
  · rw [if_neg (show ¬ nI T = 0 from nI_ne0 (by omega) (by omega)), Option.bind_some]
    by_cases c1 : n = T
    · subst c1
      obtain ⟨v, hv, hv8⟩ := tapeR_v htp
      obtain ⟨r, td', e8, h8⟩ := x8told hs hX _ _ v c0 hv8
      obtain ⟨r9, e9, h9⟩ := x9told hs hM _ v hv
      rw [e8, if_pos rfl, e9, Option.bind_some, Option.bind_some]
      dsimp only
      rcases h8 with ⟨rfl, a1, a2⟩ | ⟨rfl, a1⟩
      · rcases h9 with ⟨rfl, a3⟩ | ⟨rfl, a3⟩
        · rw [if_neg one0, if_neg one0, ek, es, Option.bind_some, Option.bind_some]
          dsimp only
          have hs1 := hs.ap c0 (u := v) a1
          obtain ⟨ro', e10, hX'⟩ := x3append hs hs1 hX td' a2
          obtain ⟨no', so', e11, hM'⟩ := x9tell_go hs hs1 hM _ _ hv sm' snaps'
          rw [e10, Option.bind_some, e11]
          exact ⟨_, _, _, _, _, _, _, _, _, _, _, _, _, _, _, _, _, rfl, rfl, rfl, ⟨n, N + 1, _, hs1, hX', hM'⟩, hA', h3, ht0 _ _ htp, h5.s, h7⟩
        · exact absurd a1 a3
      · rcases h9 with ⟨rfl, a3⟩ | ⟨rfl, a3⟩
        · exact absurd a3 a1
        · rw [if_pos zer0, if_pos zer0]
          exact ⟨_, _, _, _, _, _, _, _, _, _, _, _, _, _, _, _, _, rfl, rfl, rfl, hS', hA, h3, ht0 _ _ htp, h5.s, h7⟩
    · have hne : ¬ nI n = nI T := fun h => c1 ((nI_eq (by omega) (by omega)).mp h)
      unfold f_X8_readTold
      rw [eT, if_neg (show ¬ nI T = 0 from nI_ne0 (by omega) (by omega)), if_neg hne, if_neg hne, Option.bind_some]
      dsimp only
      rw [if_pos zer0]
      rw [eT] at hS'
      exact ⟨_, _, _, _, _, _, _, _, _, _, _, _, _, _, _, _, _, rfl, rfl, rfl, hS', hA, h3, ht0 _ _ htp, h5.s, h7⟩
