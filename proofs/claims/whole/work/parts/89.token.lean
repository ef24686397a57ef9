/-! OURS: the text's tokens -/
def isL (x : Nat) : Prop := 97 ≤ x ∧ x ≤ 122
def isDg (x : Nat) : Prop := 48 ≤ x ∧ x ≤ 57
def alN (x : Nat) : Prop := isL x ∨ isDg x
theorem let_t {x : Nat} (h : isL x) : f_X5_isLetter (nI x) = some 1 ∧ f_X9_isLetter (nI x) = some 1 := by
  unfold isL at h
  have h1 : ¬ nI x < 97 := show ¬ nI x < nI 97 from nI_nlt (by omega) (by omega)
  have h2 : ¬ 122 < nI x := show ¬ nI 122 < nI x from nI_nlt (by omega) (by omega)
  unfold f_X5_isLetter f_X9_isLetter
  rw [if_neg h1, if_neg h2]
  exact ⟨rfl, rfl⟩
theorem let_f {x : Nat} (hx : x < 256) (h : ¬ isL x) : f_X5_isLetter (nI x) = some 0 ∧ f_X9_isLetter (nI x) = some 0 := by
  unfold isL at h
  unfold f_X5_isLetter f_X9_isLetter
  by_cases c : x < 97
  · have h1 : nI x < 97 := show nI x < nI 97 from nI_lt c (by omega)
    rw [if_pos h1]
    exact ⟨rfl, rfl⟩
  · have h1 : ¬ nI x < 97 := show ¬ nI x < nI 97 from nI_nlt (by omega) (by omega)
    have h2 : 122 < nI x := show nI 122 < nI x from nI_lt (by omega) (by omega)
    rw [if_neg h1, if_pos h2]
    exact ⟨rfl, rfl⟩
theorem dig_t {x : Nat} (h : isDg x) : f_X5_isDigit (nI x) = some 1 ∧ f_X9_isDigit (nI x) = some 1 := by
  unfold isDg at h
  have h1 : ¬ nI x < 48 := show ¬ nI x < nI 48 from nI_nlt (by omega) (by omega)
  have h2 : ¬ 57 < nI x := show ¬ nI 57 < nI x from nI_nlt (by omega) (by omega)
  unfold f_X5_isDigit f_X9_isDigit
  rw [if_neg h1, if_neg h2]
  exact ⟨rfl, rfl⟩
theorem dig_f {x : Nat} (hx : x < 256) (h : ¬ isDg x) : f_X5_isDigit (nI x) = some 0 ∧ f_X9_isDigit (nI x) = some 0 := by
  unfold isDg at h
  unfold f_X5_isDigit f_X9_isDigit
  by_cases c : x < 48
  · have h1 : nI x < 48 := show nI x < nI 48 from nI_lt c (by omega)
    rw [if_pos h1]
    exact ⟨rfl, rfl⟩
  · have h1 : ¬ nI x < 48 := show ¬ nI x < nI 48 from nI_nlt (by omega) (by omega)
    have h2 : 57 < nI x := show nI 57 < nI x from nI_lt (by omega) (by omega)
    rw [if_neg h1, if_pos h2]
    exact ⟨rfl, rfl⟩
theorem LD {x : Nat} (h : isL x) : ¬ isDg x := by unfold isL at h; unfold isDg; omega
/-- up to where all are so -/
theorem run_ex (P : Nat → Prop) (n : Nat) : ∀ (k s : Nat), n - s ≤ k → s ≤ n → ∃ e, s ≤ e ∧ e ≤ n ∧ (∀ i, s ≤ i → i < e → P i) ∧ (e = n ∨ ¬ P e)
  | 0, s, h, hs => ⟨s, Nat.le_refl _, hs, fun i h1 h2 => by omega, Or.inl (by omega)⟩
  | k + 1, s, h, hs => by
    by_cases c : s = n
    · exact ⟨s, Nat.le_refl _, hs, fun i h1 h2 => by omega, Or.inl c⟩
    · by_cases c2 : P s
      · obtain ⟨e, h1, h2, h3, h4⟩ := run_ex P n k (s + 1) (by omega) (by omega)
        refine ⟨e, by omega, h2, fun i h5 h6 => ?_, h4⟩
        by_cases c3 : i = s
        · subst c3; exact c2
        · exact h3 i (by omega) h6
      · exact ⟨s, Nat.le_refl _, hs, fun i h1 h2 => by omega, Or.inr c2⟩
def nmb (v : Nat → Nat) (s : Nat) : Nat → Nat
  | 0 => 0
  | k + 1 => 10 * nmb v s k + (v (s + k) - 48)
def wdc (v : Nat → Nat) (s : Nat) : Nat → Nat
  | 0 => 0
  | k + 1 => 27 * wdc v s k + (v (s + k) - 96)
def allD (v : Nat → Nat) (s e : Nat) : Prop := ∀ i, s ≤ i → i < e → isDg (v i)
def allL (v : Nat → Nat) (s e : Nat) : Prop := ∀ i, s ≤ i → i < e → isL (v i)
def TW (v : Nat → Nat) (s e : Nat) : Prop := e = s + 5 ∧ v s = 116 ∧ v (s + 1) = 101 ∧ v (s + 2) = 97 ∧ v (s + 3) = 109 ∧ v (s + 4) = 115
def DW (v : Nat → Nat) (s e : Nat) : Prop := e = s + 3 ∧ v s = 100 ∧ v (s + 1) = 97 ∧ v (s + 2) = 121
def NW (v : Nat → Nat) (s e : Nat) : Prop := allD v s e ∧ (e = s + 1 ∨ e = s + 2)
def tC : Nat := 10728334
def dC : Nat := 2968
theorem tC_eq : f_X9_spelt 116 101 97 109 115 = some (lN tC) := by decide +kernel
theorem dC_eq : f_X9_spelt 100 97 121 0 0 = some (lN dC) := by decide +kernel
section
variable {n : Nat} {v : Nat → Nat} {tb tape : Nat → Int32}
theorem x5spells (hn : n ≤ 740) (hv : ∀ i, i < n → v i < 256 ∧ tb i = nI (v i)) (w : Nat) (hw : rd_len w ≤ 5) {s e : Nat} (hse : s ≤ e) (he : e ≤ n) : ∃ r, f_X5_spells w (nI e) (nI s) (nI n) tb = some r ∧ ((r = 1 ∧ e = s + rd_len w ∧ ∀ q, q < rd_len w → nI (v (s + q)) = rd_chr w q) ∨ (r = 0 ∧ ¬ (e = s + rd_len w ∧ ∀ q, q < rd_len w → nI (v (s + q)) = rd_chr w q))) := by
  unfold f_X5_spells
  rw [pk_sub hse]
  by_cases c : e - s = rd_len w
  · rw [if_pos (show nI (e - s) = Int32.ofNat (rd_len w) from congrArg nI c), if_pos ((nI_leI (by omega) (by omega)).mpr he)]
    refine lp_ex (I := fun x => ∃ q : Nat, q ≤ rd_len w ∧ x = nI q ∧ ∀ j, j < q → nI (v (s + j)) = rd_chr w j) (ms := fun x => rd_len w - x.toNatClampNeg) (Post := fun r => ((r = 1 ∧ e = s + rd_len w ∧ ∀ q, q < rd_len w → nI (v (s + q)) = rd_chr w q) ∨ (r = 0 ∧ ¬ (e = s + rd_len w ∧ ∀ q, q < rd_len w → nI (v (s + q)) = rd_chr w q)))) ?_ 20000 _ ⟨0, by omega, rfl, fun j h => by omega⟩ (by show rd_len w - _ < _; omega)
    rintro x ⟨q, hq, rfl, hf⟩ self hself
    unfold f_X5_spells_L31
    by_cases c1 : rd_len w ≤ q
    · rw [if_pos (show Int32.ofNat (rd_len w) ≤ nI q from (nI_leI (by omega) (by omega)).mpr c1)]
      exact ⟨_, rfl, Or.inl ⟨rfl, by omega, fun j hj => hf j (by omega)⟩⟩
    · rw [if_neg (show ¬ Int32.ofNat (rd_len w) ≤ nI q from nI_ge (by omega) (by omega)), nI_add, if_pos (inb_ok (by omega) (by omega)), if_pos (inb_ok (by omega) (by omega)), nI_clamp (by omega), nI_clamp (by omega), (hv (s + q) (by omega)).2]
      by_cases c2 : nI (v (s + q)) = rd_chr w q
      · rw [if_pos c2, bd_eq, nI_1]
        refine hself _ ⟨q + 1, by omega, rfl, fun j hj => ?_⟩ (by show rd_len w - (nI (q + 1)).toNatClampNeg < rd_len w - (nI q).toNatClampNeg; rw [nI_clamp (by omega), nI_clamp (by omega)]; omega)
        by_cases e1 : j = q
        · subst e1; exact c2
        · exact hf j (by omega)
      · rw [if_neg c2]
        exact ⟨_, rfl, Or.inr ⟨rfl, fun h => c2 (h.2 q (by omega))⟩⟩
  · rw [if_neg (show ¬ nI (e - s) = Int32.ofNat (rd_len w) from fun h => c ((nI_eq (by omega) (by omega)).mp h))]
    exact ⟨_, rfl, Or.inr ⟨rfl, fun h => c (by omega)⟩⟩
theorem spells_T (hn : n ≤ 740) (hv : ∀ i, i < n → v i < 256 ∧ tb i = nI (v i)) {s e : Nat} (hse : s ≤ e) (he : e ≤ n) : ∃ r, f_X5_spells 0 (nI e) (nI s) (nI n) tb = some r ∧ ((r = 1 ∧ TW v s e) ∨ (r = 0 ∧ ¬ TW v s e)) := by
  obtain ⟨r, e1, h⟩ := x5spells hn hv 0 (by decide) hse he
  have key : (e = s + rd_len 0 ∧ ∀ q, q < rd_len 0 → nI (v (s + q)) = rd_chr 0 q) ↔ TW v s e := by
    have e5 : rd_len 0 = 5 := rfl
    rw [e5]
    unfold TW
    constructor
    · rintro ⟨h1, h2⟩
      have k : ∀ q c, q < 5 → c < 256 → rd_chr 0 q = nI c → v (s + q) = c := fun q c hq hc h => (nI_eq (by have := (hv (s + q) (by omega)).1; omega) (by omega)).mp ((h2 q hq).trans h)
      exact ⟨h1, k 0 116 (by omega) (by omega) rfl, k 1 101 (by omega) (by omega) rfl, k 2 97 (by omega) (by omega) rfl, k 3 109 (by omega) (by omega) rfl, k 4 115 (by omega) (by omega) rfl⟩
    · rintro ⟨h1, h2, h3, h4, h5, h6⟩
      refine ⟨h1, fun q hq => ?_⟩
      have : q = 0 ∨ q = 1 ∨ q = 2 ∨ q = 3 ∨ q = 4 := by omega
      rcases this with rfl | rfl | rfl | rfl | rfl
      · rw [Nat.add_zero, h2]; rfl
      · rw [h3]; rfl
      · rw [h4]; rfl
      · rw [h5]; rfl
      · rw [h6]; rfl
  refine ⟨r, e1, ?_⟩
  rcases h with ⟨h1, h2⟩ | ⟨h1, h2⟩
  · exact Or.inl ⟨h1, key.mp h2⟩
  · exact Or.inr ⟨h1, fun h => h2 (key.mpr h)⟩
theorem spells_D (hn : n ≤ 740) (hv : ∀ i, i < n → v i < 256 ∧ tb i = nI (v i)) {s e : Nat} (hse : s ≤ e) (he : e ≤ n) : ∃ r, f_X5_spells 1 (nI e) (nI s) (nI n) tb = some r ∧ ((r = 1 ∧ DW v s e) ∨ (r = 0 ∧ ¬ DW v s e)) := by
  obtain ⟨r, e1, h⟩ := x5spells hn hv 1 (by decide) hse he
  have key : (e = s + rd_len 1 ∧ ∀ q, q < rd_len 1 → nI (v (s + q)) = rd_chr 1 q) ↔ DW v s e := by
    have e5 : rd_len 1 = 3 := rfl
    rw [e5]
    unfold DW
    constructor
    · rintro ⟨h1, h2⟩
      have k : ∀ q c, q < 3 → c < 256 → rd_chr 1 q = nI c → v (s + q) = c := fun q c hq hc h => (nI_eq (by have := (hv (s + q) (by omega)).1; omega) (by omega)).mp ((h2 q hq).trans h)
      exact ⟨h1, k 0 100 (by omega) (by omega) rfl, k 1 97 (by omega) (by omega) rfl, k 2 121 (by omega) (by omega) rfl⟩
    · rintro ⟨h1, h2, h3, h4⟩
      refine ⟨h1, fun q hq => ?_⟩
      have : q = 0 ∨ q = 1 ∨ q = 2 := by omega
      rcases this with rfl | rfl | rfl
      · rw [Nat.add_zero, h2]; rfl
      · rw [h3]; rfl
      · rw [h4]; rfl
  refine ⟨r, e1, ?_⟩
  rcases h with ⟨h1, h2⟩ | ⟨h1, h2⟩
  · exact Or.inl ⟨h1, key.mp h2⟩
  · exact Or.inr ⟨h1, fun h => h2 (key.mpr h)⟩
/-- the class's kind of a run -/
def Kd8 (v : Nat → Nat) (s e : Nat) (k : Nat) (val : Int32) : Prop := (k = 3 ∧ NW v s e ∧ val = nI (nmb v s (e - s))) ∨ (k = 4 ∧ TW v s e ∧ ¬ NW v s e) ∨ (k = 5 ∧ DW v s e ∧ ¬ NW v s e ∧ ¬ TW v s e) ∨ (k = 1 ∧ ¬ NW v s e ∧ ¬ TW v s e ∧ ¬ DW v s e)
theorem x5run (hn : n ≤ 740) (hv : ∀ i, i < n → v i < 256 ∧ tb i = nI (v i)) {s e : Nat} (hse : s ≤ e) (he : e ≤ n) (hr : ∀ i, s ≤ i → i < e → alN (v i)) (hend : e = n ∨ ¬ alN (v e)) (kd vl : Int32) : ∃ (k : Nat) (val : Int32), f_X5_stepOverRun (nI s) (nI s) kd vl (nI n) tb = some (nI e, nI k, val) ∧ Kd8 v s e k val := by
  have key : ∃ r : Int32 × Int32 × Int32, f_X5_stepOverRun (nI s) (nI s) kd vl (nI n) tb = some r ∧ ∃ (k : Nat) (val : Int32), r = (nI e, nI k, val) ∧ Kd8 v s e k val := by
    unfold f_X5_stepOverRun
    refine lp_ex (I := fun x => ∃ (lc dc p : Nat) (val : Int32), s ≤ p ∧ p ≤ e ∧ x = (nI lc, nI dc, nI p, val) ∧ lc + dc = p - s ∧ (lc = 0 ↔ allD v s p) ∧ (allD v s p → val = nI (nmb v s (p - s)))) (ms := fun x => n - x.2.2.1.toNatClampNeg) (Post := fun r => ∃ (k : Nat) (val : Int32), r = (nI e, nI k, val) ∧ Kd8 v s e k val) ?_ 20000 _ ⟨0, 0, s, 0, Nat.le_refl _, hse, rfl, by omega, ⟨fun _ i h1 h2 => by omega, fun _ => rfl⟩, fun _ => by rw [Nat.sub_self]; rfl⟩ (by show n - _ < _; omega)
    rintro x ⟨lc, dc, p, val, hp1, hp2, rfl, hcnt, hlc, hval⟩ self hself
    unfold f_X5_stepOverRun_L9
    dsimp only
    have hJ129 : p = e → ¬ NW v s e → ∃ r : Int32 × Int32 × Int32, f_X5_stepOverRun_J129 (nI s) (nI n) tb (nI p, kd, val) = some r ∧ ∃ (k : Nat) (val : Int32), r = (nI e, nI k, val) ∧ Kd8 v s e k val := by
      intro hpe hnw
      subst hpe
      unfold f_X5_stepOverRun_J129
      dsimp only
      obtain ⟨r1, e1, h1⟩ := spells_T hn hv hse he
      obtain ⟨r2, e2, h2⟩ := spells_D hn hv hse he
      rw [e1, Option.bind_some]
      rcases h1 with ⟨rfl, h1⟩ | ⟨rfl, h1⟩
      · rw [if_neg one0]
        exact ⟨_, rfl, 4, val, rfl, Or.inr (Or.inl ⟨rfl, h1, hnw⟩)⟩
      · rw [if_pos zer0, e2, Option.bind_some]
        rcases h2 with ⟨rfl, h2⟩ | ⟨rfl, h2⟩
        · rw [if_neg one0]
          exact ⟨_, rfl, 5, val, rfl, Or.inr (Or.inr (Or.inl ⟨rfl, h2, hnw, h1⟩))⟩
        · rw [if_pos zer0]
          exact ⟨_, rfl, 1, val, rfl, Or.inr (Or.inr (Or.inr ⟨rfl, hnw, h1, h2⟩))⟩
    have hJ : p = e → ∃ r : Int32 × Int32 × Int32, f_X5_stepOverRun_J107 (nI s) (nI n) tb (nI lc, nI dc, nI p, kd, val) = some r ∧ ∃ (k : Nat) (val : Int32), r = (nI e, nI k, val) ∧ Kd8 v s e k val := by
      intro hpe
      unfold f_X5_stepOverRun_J107
      dsimp only
      by_cases c1 : lc = 0
      · have hd := hlc.mp c1
        rw [if_pos (show nI lc = 0 from congrArg nI c1)]
        by_cases c2 : dc = 1
        · rw [if_pos (show nI dc = 1 from congrArg nI c2)]
          subst hpe
          exact ⟨_, rfl, 3, val, rfl, Or.inl ⟨rfl, ⟨hd, by omega⟩, hval hd⟩⟩
        · rw [if_neg (show ¬ nI dc = 1 from fun h => c2 ((nI_eq (b := 1) (by omega) (by omega)).mp h))]
          by_cases c3 : dc = 2
          · rw [if_pos (show nI dc = 2 from congrArg nI c3)]
            subst hpe
            exact ⟨_, rfl, 3, val, rfl, Or.inl ⟨rfl, ⟨hd, by omega⟩, hval hd⟩⟩
          · rw [if_neg (show ¬ nI dc = 2 from fun h => c3 ((nI_eq (b := 2) (by omega) (by omega)).mp h))]
            exact hJ129 hpe (fun h => by have := h.2; omega)
      · rw [if_neg (nI_ne0 (by omega) (by omega))]
        exact hJ129 hpe (fun h => c1 (hlc.mpr (by rw [hpe]; exact h.1)))
    by_cases c : n ≤ p
    · rw [if_pos ((nI_leI (by omega) (by omega)).mpr c)]
      exact hJ (by omega)
    · have hvp := hv p (by omega)
      have hms : n - (nI (p + 1)).toNatClampNeg < n - (nI p).toNatClampNeg := by rw [nI_clamp (by omega), nI_clamp (by omega)]; omega
      rw [if_neg (nI_ge (by omega) (by omega)), x7at hn tb (by omega), hvp.2, Option.bind_some]
      have hJ48L : isL (v p) → p < e → ∃ r : Int32 × Int32 × Int32, f_X5_stepOverRun_J48 self (nI s) (nI n) tb kd (nI lc, nI dc, nI p, val) = some r ∧ ∃ (k : Nat) (val : Int32), r = (nI e, nI k, val) ∧ Kd8 v s e k val := by
        intro hL hpe
        unfold f_X5_stepOverRun_J48 f_X5_stepOverRun_J94
        dsimp only
        rw [x7at hn tb (by omega), hvp.2, Option.bind_some, (let_t hL).1, Option.bind_some, if_neg one0, bd_eq, bd_eq, nI_1, nI_1]
        refine hself _ ⟨lc + 1, dc, p + 1, val, by omega, by omega, rfl, by omega, ⟨fun h => by omega, fun h => absurd (h p hp1 (by omega)) (LD hL)⟩, fun h => absurd (h p hp1 (by omega)) (LD hL)⟩ hms
      have hJ48D : isDg (v p) → ¬ isL (v p) → p < e → ∃ r : Int32 × Int32 × Int32, f_X5_stepOverRun_J48 self (nI s) (nI n) tb kd (nI lc, nI dc, nI p, val) = some r ∧ ∃ (k : Nat) (val : Int32), r = (nI e, nI k, val) ∧ Kd8 v s e k val := by
        intro hD hL hpe
        unfold f_X5_stepOverRun_J48 f_X5_stepOverRun_J94
        dsimp only
        rw [x7at hn tb (by omega), hvp.2, Option.bind_some, (let_f hvp.1 hL).1, Option.bind_some, if_pos zer0, bd_eq, Option.bind_some, bd_eq, bd_eq, nI_1, nI_1]
        have hup : allD v s (p + 1) ↔ allD v s p := ⟨fun h i h1 h2 => h i h1 (by omega), fun h i h1 h2 => by
          by_cases e1 : i = p
          · subst e1; exact hD
          · exact h i h1 (by omega)⟩
        refine hself _ ⟨lc, dc + 1, p + 1, _, by omega, by omega, rfl, by omega, by rw [hup]; exact hlc, fun h => ?_⟩ hms
        rw [hval (hup.mp h), show p + 1 - s = (p - s) + 1 by omega]
        have e48 : 48 ≤ v p := hD.1
        show nI (nmb v s (p - s)) * nI 10 + nI (v p) - nI 48 = nI (10 * nmb v s (p - s) + (v (s + (p - s)) - 48))
        rw [pk_mul, nI_add, pk_sub (by omega), show s + (p - s) = p by omega]
        congr 1
        omega
      by_cases cL : isL (v p)
      · have hpe : p < e := by
          rcases Nat.lt_or_ge p e with h | h
          · exact h
          · rcases hend with h2 | h2
            · omega
            · exact absurd (Or.inl (by rw [show e = p by omega]; exact cL)) h2
        rw [(let_t cL).1, Option.bind_some, if_neg one0]
        exact hJ48L cL hpe
      · rw [(let_f hvp.1 cL).1, Option.bind_some, if_pos zer0, Option.bind_some]
        by_cases cD : isDg (v p)
        · have hpe : p < e := by
            rcases Nat.lt_or_ge p e with h | h
            · exact h
            · rcases hend with h2 | h2
              · omega
              · exact absurd (Or.inr (by rw [show e = p by omega]; exact cD)) h2
          rw [(dig_t cD).1, Option.bind_some, if_neg one0]
          exact hJ48D cD cL hpe
        · rw [(dig_f hvp.1 cD).1, Option.bind_some, if_pos zer0]
          refine hJ ?_
          rcases Nat.lt_or_ge p e with h | h
          · exact absurd (hr p hp1 h) (fun h2 => h2.elim cL cD)
          · omega
  obtain ⟨r, e1, k, val, rfl, h⟩ := key
  exact ⟨k, val, e1, h⟩
end
