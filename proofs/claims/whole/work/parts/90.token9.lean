/-! OURS: the text's tokens, both -/
theorem wdc_lt {v : Nat → Nat} {s e : Nat} (h : allL v s e) : ∀ k, s + k ≤ e → wdc v s k < 27 ^ k
  | 0, _ => by show 0 < 1; omega
  | k + 1, hk => by
    have ih := wdc_lt h k (by omega)
    have := h (s + k) (by omega) (by omega)
    unfold isL at this
    show 27 * wdc v s k + (v (s + k) - 96) < 27 ^ (k + 1)
    rw [Nat.pow_succ]
    omega
theorem wdc_T {v : Nat → Nat} {s e : Nat} (hse : s < e) (h : allL v s e) : wdc v s (min (e - s) 6) = tC ↔ TW v s e := by
  have hd : ∀ i, s + i < e → 97 ≤ v (s + i) ∧ v (s + i) ≤ 122 := fun i hi => h (s + i) (by omega) hi
  have w0 : wdc v s 0 = 0 := rfl
  have w1 : wdc v s 1 = 27 * wdc v s 0 + (v (s + 0) - 96) := rfl
  have w2 : wdc v s 2 = 27 * wdc v s 1 + (v (s + 1) - 96) := rfl
  have w3 : wdc v s 3 = 27 * wdc v s 2 + (v (s + 2) - 96) := rfl
  have w4 : wdc v s 4 = 27 * wdc v s 3 + (v (s + 3) - 96) := rfl
  have w5 : wdc v s 5 = 27 * wdc v s 4 + (v (s + 4) - 96) := rfl
  have w6 : wdc v s 6 = 27 * wdc v s 5 + (v (s + 5) - 96) := rfl
  have d0 := hd 0
  have d1 := hd 1
  have d2 := hd 2
  have d3 := hd 3
  have d4 := hd 4
  have d5 := hd 5
  rw [Nat.add_zero] at w1 d0
  unfold TW tC
  have hk : e - s = 1 ∨ e - s = 2 ∨ e - s = 3 ∨ e - s = 4 ∨ e - s = 5 ∨ 6 ≤ e - s := by omega
  rcases hk with k | k | k | k | k | k
  · rw [k, show min 1 6 = 1 by decide]; constructor <;> intro h2 <;> omega
  · rw [k, show min 2 6 = 2 by decide]; constructor <;> intro h2 <;> omega
  · rw [k, show min 3 6 = 3 by decide]; constructor <;> intro h2 <;> omega
  · rw [k, show min 4 6 = 4 by decide]; constructor <;> intro h2 <;> omega
  · rw [k, show min 5 6 = 5 by decide]; constructor <;> intro h2 <;> omega
  · rw [Nat.min_eq_right k]; constructor <;> intro h2 <;> omega
theorem wdc_D {v : Nat → Nat} {s e : Nat} (hse : s < e) (h : allL v s e) : wdc v s (min (e - s) 6) = dC ↔ DW v s e := by
  have hd : ∀ i, s + i < e → 97 ≤ v (s + i) ∧ v (s + i) ≤ 122 := fun i hi => h (s + i) (by omega) hi
  have w0 : wdc v s 0 = 0 := rfl
  have w1 : wdc v s 1 = 27 * wdc v s 0 + (v (s + 0) - 96) := rfl
  have w2 : wdc v s 2 = 27 * wdc v s 1 + (v (s + 1) - 96) := rfl
  have w3 : wdc v s 3 = 27 * wdc v s 2 + (v (s + 2) - 96) := rfl
  have w4 : wdc v s 4 = 27 * wdc v s 3 + (v (s + 3) - 96) := rfl
  have w5 : wdc v s 5 = 27 * wdc v s 4 + (v (s + 4) - 96) := rfl
  have w6 : wdc v s 6 = 27 * wdc v s 5 + (v (s + 5) - 96) := rfl
  have d0 := hd 0
  have d1 := hd 1
  have d2 := hd 2
  have d3 := hd 3
  have d4 := hd 4
  have d5 := hd 5
  rw [Nat.add_zero] at w1 d0
  unfold DW dC
  have hk : e - s = 1 ∨ e - s = 2 ∨ e - s = 3 ∨ e - s = 4 ∨ e - s = 5 ∨ 6 ≤ e - s := by omega
  rcases hk with k | k | k | k | k | k
  · rw [k, show min 1 6 = 1 by decide]; constructor <;> intro h2 <;> omega
  · rw [k, show min 2 6 = 2 by decide]; constructor <;> intro h2 <;> omega
  · rw [k, show min 3 6 = 3 by decide]; constructor <;> intro h2 <;> omega
  · rw [k, show min 4 6 = 4 by decide]; constructor <;> intro h2 <;> omega
  · rw [k, show min 5 6 = 5 by decide]; constructor <;> intro h2 <;> omega
  · rw [Nat.min_eq_right k]; constructor <;> intro h2 <;> omega
def Kd9 (v : Nat → Nat) (s e : Nat) (k : Nat) (nu : Int32) (w : Int64) : Prop := (k = 3 ∧ NW v s e ∧ nu = nI (nmb v s (e - s))) ∨ (k = 2 ∧ allL v s e ∧ w = lN (wdc v s (min (e - s) 6))) ∨ (k = 1 ∧ ¬ NW v s e ∧ ¬ allL v s e)
section
variable {n : Nat} {v : Nat → Nat} {tb tape : Nat → Int32}
theorem x9tapeAt (hn : n ≤ 740) (hv : ∀ i, i < n → v i < 256 ∧ tape i = nI (v i)) {p : Nat} (hp : p < n) : f_X9_tapeAt (nI n) tape (nI p) = some (nI (v p)) := by
  unfold f_X9_tapeAt
  rw [if_neg (nI_ge (by omega) (by omega)), if_pos (inb_ok (by omega) (by omega)), nI_clamp (by omega), (hv p hp).2]
theorem x9run (hn : n ≤ 740) (hv : ∀ i, i < n → v i < 256 ∧ tape i = nI (v i)) {s e : Nat} (hse : s < e) (he : e ≤ n) (hr : ∀ i, s ≤ i → i < e → alN (v i)) (hend : e = n ∨ ¬ alN (v e)) (kd nu0 : Int32) (w0 : Int64) : ∃ (k : Nat) (nu : Int32) (w : Int64), f_X9_next_J160 (nI n) tape (nI (v s), nI s, nI s, kd, nu0, w0) = some (nI e, nI s, nI k, nu, w) ∧ Kd9 v s e k nu w := by
  have key : ∃ r : Int32 × Int32 × Int32 × Int32 × Int64, f_X9_next_J160 (nI n) tape (nI (v s), nI s, nI s, kd, nu0, w0) = some r ∧ ∃ (k : Nat) (nu : Int32) (w : Int64), r = (nI e, nI s, nI k, nu, w) ∧ Kd9 v s e k nu w := by
    unfold f_X9_next_J160
    dsimp only
    have hvs := hv s (by omega)
    obtain ⟨x2, ex2, hx2⟩ : ∃ x2 : Int32, f_X9_isLetter (nI (v s)) = some x2 ∧ ((x2 = 1 ∧ isL (v s)) ∨ (x2 = 0 ∧ ¬ isL (v s))) := by
      by_cases c : isL (v s)
      · exact ⟨1, (let_t c).2, Or.inl ⟨rfl, c⟩⟩
      · exact ⟨0, (let_f hvs.1 c).2, Or.inr ⟨rfl, c⟩⟩
    rw [ex2, Option.bind_some]
    refine lp_ex (I := fun x => ∃ (gd : Int32) (p : Nat) (nu : Int32) (w : Int64), s ≤ p ∧ p ≤ e ∧ x = (gd, nI p, nu, w) ∧ ((gd = 1 ∧ ∀ i, s ≤ i → i < p → (isL (v i) ↔ isL (v s))) ∨ (gd = 0 ∧ ¬ ∀ i, s ≤ i → i < p → (isL (v i) ↔ isL (v s)))) ∧ (allD v s p → nu = nI (nmb v s (min (p - s) 2))) ∧ (allL v s p → w = lN (wdc v s (min (p - s) 6)))) (ms := fun x => n - x.2.1.toNatClampNeg) (Post := fun r => ∃ (k : Nat) (nu : Int32) (w : Int64), r = (nI e, nI s, nI k, nu, w) ∧ Kd9 v s e k nu w) ?_ 20000 _ ⟨1, s, 0, 0, Nat.le_refl _, by omega, rfl, Or.inl ⟨rfl, fun i h1 h2 => by omega⟩, fun _ => by rw [Nat.sub_self]; rfl, fun _ => by rw [Nat.sub_self]; rfl⟩ (by show n - _ < _; omega)
    rintro x ⟨gd, p, nu, w, hp1, hp2, rfl, hgd, hnu, hw⟩ self hself
    unfold f_X9_next_L177
    dsimp only
    -- the end of the run
    have hE : p = e → ∃ r : Int32 × Int32 × Int32 × Int32 × Int64, (if gd = 0 then some (nI p, nI s, (1 : Int32), nu, w) else if x2 = 0 then if (nI p - nI s) ≤ (2 : Int32) then f_X9_next_J338 (nI n) tape (x2, nI p, nI s, kd, nu, w) else some (nI p, nI s, (1 : Int32), nu, w) else f_X9_next_J338 (nI n) tape (x2, nI p, nI s, kd, nu, w)) = some r ∧ ∃ (k : Nat) (nu : Int32) (w : Int64), r = (nI e, nI s, nI k, nu, w) ∧ Kd9 v s e k nu w := by
      intro hpe
      subst hpe
      have hLs : allL v s p → isL (v s) := fun h => h s (Nat.le_refl _) hse
      have hDs : allD v s p → ¬ isL (v s) := fun h h2 => LD h2 (h s (Nat.le_refl _) hse)
      rcases hgd with ⟨rfl, hg⟩ | ⟨rfl, hg⟩
      · rw [if_neg one0]
        rcases hx2 with ⟨rfl, hL⟩ | ⟨rfl, hL⟩
        · unfold f_X9_next_J338
          dsimp only
          have hall : allL v s p := fun i h1 h2 => (hg i h1 h2).mpr hL
          rw [if_neg one0, if_neg one0]
          exact ⟨_, rfl, 2, nu, w, rfl, Or.inr (Or.inl ⟨rfl, hall, hw hall⟩)⟩
        · have hall : allD v s p := fun i h1 h2 => (hr i h1 h2).resolve_left (fun h => hL ((hg i h1 h2).mp h))
          rw [if_pos zer0, pk_sub hp1]
          by_cases c : p - s ≤ 2
          · unfold f_X9_next_J338
            dsimp only
            rw [if_pos (show nI (p - s) ≤ 2 from (nI_leI (b := 2) (by omega) (by omega)).mpr c), if_pos zer0]
            refine ⟨_, rfl, 3, nu, w, rfl, Or.inl ⟨rfl, ⟨hall, by omega⟩, ?_⟩⟩
            rw [hnu hall, Nat.min_eq_left c]
          · rw [if_neg (show ¬ nI (p - s) ≤ 2 from fun h => c ((nI_leI (b := 2) (by omega) (by omega)).mp h))]
            exact ⟨_, rfl, 1, nu, w, rfl, Or.inr (Or.inr ⟨rfl, fun h => by have := h.2; omega, fun h => hL (hLs h)⟩)⟩
      · rw [if_pos zer0]
        refine ⟨_, rfl, 1, nu, w, rfl, Or.inr (Or.inr ⟨rfl, fun h => hg (fun i h1 h2 => ?_), fun h => hg (fun i h1 h2 => ?_)⟩)⟩
        · exact ⟨fun h3 => absurd (h.1 i h1 h2) (LD h3), fun h3 => absurd h3 (hDs h.1)⟩
        · exact ⟨fun _ => hLs h, fun _ => h i h1 h2⟩
    by_cases c : n ≤ p
    · have e0 : f_X9_tapeAt (nI n) tape (nI p) = some 0 := by
        unfold f_X9_tapeAt
        rw [if_pos ((nI_leI (by omega) (by omega)).mpr c)]
      rw [e0, Option.bind_some, show f_X9_isLetter 0 = some 0 from rfl, Option.bind_some, if_pos zer0, Option.bind_some, show f_X9_isDigit 0 = some 0 from rfl, Option.bind_some, if_pos zer0]
      exact hE (by omega)
    · have hvp := hv p (by omega)
      have hms : n - (nI (p + 1)).toNatClampNeg < n - (nI p).toNatClampNeg := by rw [nI_clamp (by omega), nI_clamp (by omega)]; omega
      rw [x9tapeAt hn hv (by omega), Option.bind_some]
      have hgo : p < e → ∃ r : Int32 × Int32 × Int32 × Int32 × Int64, f_X9_next_J205 self (nI n) tape x2 (nI s) kd (gd, nI p, nu, w) = some r ∧ ∃ (k : Nat) (nu : Int32) (w : Int64), r = (nI e, nI s, nI k, nu, w) ∧ Kd9 v s e k nu w := by
        intro hpe
        have hal := hr p hp1 hpe
        have hJ : ∀ gd' : Int32, ((gd' = 1 ∧ ∀ i, s ≤ i → i < p + 1 → (isL (v i) ↔ isL (v s))) ∨ (gd' = 0 ∧ ¬ ∀ i, s ≤ i → i < p + 1 → (isL (v i) ↔ isL (v s)))) → ∃ r : Int32 × Int32 × Int32 × Int32 × Int64, f_X9_next_J234 self (nI n) tape x2 (nI s) kd (nI (v p), gd', nI p, nu, w) = some r ∧ ∃ (k : Nat) (nu : Int32) (w : Int64), r = (nI e, nI s, nI k, nu, w) ∧ Kd9 v s e k nu w := by
          intro gd' hg'
          have hJ2 : ∀ w' : Int64, (allL v s (p + 1) → w' = lN (wdc v s (min (p + 1 - s) 6))) → ∃ r : Int32 × Int32 × Int32 × Int32 × Int64, f_X9_next_J269 self (nI n) tape x2 (nI s) kd (gd', nI (v p), nI p, nu, w') = some r ∧ ∃ (k : Nat) (nu : Int32) (w : Int64), r = (nI e, nI s, nI k, nu, w) ∧ Kd9 v s e k nu w := by
            intro w' hw'
            have hdn : allD v s (p + 1) → allD v s p := fun h i h1 h2 => h i h1 (by omega)
            unfold f_X9_next_J269 f_X9_next_J299
            dsimp only
            rw [pk_sub hp1]
            by_cases c3 : 2 ≤ p - s
            · rw [if_pos (show (2 : Int32) ≤ nI (p - s) from (nI_leI (a := 2) (by omega) (by omega)).mpr c3), bd_eq, nI_1]
              refine hself _ ⟨gd', p + 1, nu, w', by omega, by omega, rfl, hg', fun h => ?_, hw'⟩ hms
              rw [hnu (hdn h), Nat.min_eq_right c3, Nat.min_eq_right (by omega)]
            · rw [if_neg (show ¬ (2 : Int32) ≤ nI (p - s) from nI_ge (b := 2) (by omega) (by omega)), bd_eq, bd_eq, nI_1]
              refine hself _ ⟨gd', p + 1, _, w', by omega, by omega, rfl, hg', fun h => ?_, hw'⟩ hms
              have h48 := (h p hp1 (by omega)).1
              rw [hnu (hdn h), Nat.min_eq_left (by omega), Nat.min_eq_left (by omega), show p + 1 - s = (p - s) + 1 by omega]
              show nI 10 * nI (nmb v s (p - s)) + nI (v p) - nI 48 = nI (10 * nmb v s (p - s) + (v (s + (p - s)) - 48))
              rw [pk_mul, nI_add, pk_sub (by omega), show s + (p - s) = p by omega]
              congr 1
              omega
          have hln : allL v s (p + 1) → allL v s p := fun h i h1 h2 => h i h1 (by omega)
          unfold f_X9_next_J234
          dsimp only
          rw [pk_sub hp1]
          by_cases c3 : 6 ≤ p - s
          · rw [if_pos (show (6 : Int32) ≤ nI (p - s) from (nI_leI (a := 6) (by omega) (by omega)).mpr c3)]
            refine hJ2 w (fun h => ?_)
            rw [hw (hln h), Nat.min_eq_right c3, Nat.min_eq_right (by omega)]
          · rw [if_neg (show ¬ (6 : Int32) ≤ nI (p - s) from nI_ge (b := 6) (by omega) (by omega)), bd_eq]
            refine hJ2 _ (fun h => ?_)
            have h97 := (h p hp1 (by omega)).1
            rw [hw (hln h), Nat.min_eq_left (by omega), Nat.min_eq_left (by omega), show p + 1 - s = (p - s) + 1 by omega, nI_l (by omega)]
            show lN 27 * lN (wdc v s (p - s)) + lN (v p) - lN 96 = lN (27 * wdc v s (p - s) + (v (s + (p - s)) - 96))
            rw [lN_mul, lN_add, lN_sub (by omega), show s + (p - s) = p by omega]
            congr 1
            omega
        unfold f_X9_next_J205 f_X9_next_J233
        dsimp only
        rw [if_pos (inb_ok (by omega) (by omega)), bd_eq, nI_clamp (by omega), hvp.2]
        rcases hgd with ⟨rfl, hg⟩ | ⟨rfl, hg⟩
        · rw [if_neg one0]
          have hstep : (isL (v p) ↔ isL (v s)) → ∀ i, s ≤ i → i < p + 1 → (isL (v i) ↔ isL (v s)) := fun h i h1 h2 => by
            by_cases e1 : i = p
            · subst e1; exact h
            · exact hg i h1 (by omega)
          by_cases cL : isL (v p)
          · rw [(let_t cL).2, Option.bind_some]
            rcases hx2 with ⟨rfl, hL⟩ | ⟨rfl, hL⟩
            · rw [if_pos rfl]
              exact hJ 1 (Or.inl ⟨rfl, hstep ⟨fun _ => hL, fun _ => cL⟩⟩)
            · rw [if_neg one0]
              exact hJ 0 (Or.inr ⟨rfl, fun h => hL ((h p hp1 (by omega)).mp cL)⟩)
          · rw [(let_f hvp.1 cL).2, Option.bind_some]
            rcases hx2 with ⟨rfl, hL⟩ | ⟨rfl, hL⟩
            · rw [if_neg (show ¬ (0 : Int32) = 1 by decide)]
              exact hJ 0 (Or.inr ⟨rfl, fun h => cL ((h p hp1 (by omega)).mpr hL)⟩)
            · rw [if_pos rfl]
              exact hJ 1 (Or.inl ⟨rfl, hstep ⟨fun h => absurd h cL, fun h => absurd h hL⟩⟩)
        · rw [if_pos zer0]
          exact hJ 0 (Or.inr ⟨rfl, fun h => hg (fun i h1 h2 => h i h1 (by omega))⟩)
      have hpe_of : alN (v p) → p < e := fun h => by
        rcases Nat.lt_or_ge p e with h1 | h1
        · exact h1
        · rcases hend with h2 | h2
          · omega
          · exact absurd (by rw [show e = p by omega]; exact h) h2
      by_cases cL : isL (v p)
      · rw [(let_t cL).2, Option.bind_some, if_neg one0]
        exact hgo (hpe_of (Or.inl cL))
      · rw [(let_f hvp.1 cL).2, Option.bind_some, if_pos zer0, Option.bind_some]
        by_cases cD : isDg (v p)
        · rw [(dig_t cD).2, Option.bind_some, if_neg one0]
          exact hgo (hpe_of (Or.inr cD))
        · rw [(dig_f hvp.1 cD).2, Option.bind_some, if_pos zer0]
          refine hE ?_
          rcases Nat.lt_or_ge p e with h | h
          · exact absurd (hr p hp1 h) (fun h2 => h2.elim cL cD)
          · omega
  obtain ⟨r, e1, k, nu, w, rfl, h⟩ := key
  exact ⟨k, nu, w, e1, h⟩
/-- a token of both -/
def K9 (c k9 : Nat) (nu : Int32) (w : Int64) (x : Nat) : Prop := (c = 0 ∧ k9 = 0) ∨ (c = 1 ∧ (k9 = 1 ∨ (k9 = 2 ∧ w ≠ lN tC ∧ w ≠ lN dC))) ∨ (c = 2 ∧ k9 = 4) ∨ (c = 3 ∧ k9 = 3 ∧ nu = nI x ∧ x < 100) ∨ (c = 4 ∧ k9 = 2 ∧ w = lN tC) ∨ (c = 5 ∧ k9 = 2 ∧ w = lN dC)
theorem nmb_lt {s e : Nat} (h : NW v s e) : nmb v s (e - s) < 100 := by
  have n0 : nmb v s 0 = 0 := rfl
  have n1 : nmb v s 1 = 10 * nmb v s 0 + (v (s + 0) - 48) := rfl
  have n2 : nmb v s 2 = 10 * nmb v s 1 + (v (s + 1) - 48) := rfl
  rw [Nat.add_zero] at n1
  obtain ⟨hd, h2⟩ := h
  have d0 := hd s (by omega) (by omega)
  unfold isDg at d0
  rcases h2 with h2 | h2
  · rw [show e - s = 1 by omega]; omega
  · have d1 := hd (s + 1) (by omega) (by omega)
    unfold isDg at d1
    rw [show e - s = 2 by omega]; omega
theorem kd_both {s e k8 k9 : Nat} {val nu : Int32} {w : Int64} (hse : s < e) (h8 : Kd8 v s e k8 val) (h9 : Kd9 v s e k9 nu w) : K9 k8 k9 nu w (nmb v s (e - s)) ∧ (k8 = 3 → val = nI (nmb v s (e - s))) ∧ 1 ≤ k8 ∧ k8 ≤ 5 ∧ k8 ≠ 2 := by
  have hNL : NW v s e → ¬ allL v s e := fun h h2 => LD (h2 s (Nat.le_refl _) hse) (h.1 s (Nat.le_refl _) hse)
  have hT : TW v s e → allL v s e := fun h i h1 h2 => by
    obtain ⟨h3, h4, h5, h6, h7, h8⟩ := h
    have : i = s ∨ i = s + 1 ∨ i = s + 2 ∨ i = s + 3 ∨ i = s + 4 := by omega
    unfold isL
    rcases this with rfl | rfl | rfl | rfl | rfl <;> omega
  have hD : DW v s e → allL v s e := fun h i h1 h2 => by
    obtain ⟨h3, h4, h5, h6⟩ := h
    have : i = s ∨ i = s + 1 ∨ i = s + 2 := by omega
    unfold isL
    rcases this with rfl | rfl | rfl <;> omega
  have hb : allL v s e → wdc v s (min (e - s) 6) < 2 ^ 63 := fun h => by
    have h1 := wdc_lt h (min (e - s) 6) (by omega)
    have h2 : 27 ^ (min (e - s) 6) ≤ 27 ^ 6 := Nat.pow_le_pow_right (by omega) (by omega)
    exact Nat.lt_of_lt_of_le h1 (Nat.le_trans h2 (by decide))
  rcases h8 with ⟨rfl, a1, a2⟩ | ⟨rfl, a1, a2⟩ | ⟨rfl, a1, a2, a3⟩ | ⟨rfl, a1, a2, a3⟩
  · refine ⟨?_, fun _ => a2, by omega, by omega, by omega⟩
    rcases h9 with ⟨rfl, b1, b2⟩ | ⟨rfl, b1, b2⟩ | ⟨rfl, b1, b2⟩
    · exact Or.inr (Or.inr (Or.inr (Or.inl ⟨rfl, rfl, b2, nmb_lt a1⟩)))
    · exact absurd b1 (hNL a1)
    · exact absurd a1 b1
  · refine ⟨?_, fun h => by omega, by omega, by omega, by omega⟩
    rcases h9 with ⟨rfl, b1, b2⟩ | ⟨rfl, b1, b2⟩ | ⟨rfl, b1, b2⟩
    · exact absurd b1 a2
    · rw [(wdc_T hse b1).mpr a1] at b2
      exact Or.inr (Or.inr (Or.inr (Or.inr (Or.inl ⟨rfl, rfl, b2⟩))))
    · exact absurd (hT a1) b2
  · refine ⟨?_, fun h => by omega, by omega, by omega, by omega⟩
    rcases h9 with ⟨rfl, b1, b2⟩ | ⟨rfl, b1, b2⟩ | ⟨rfl, b1, b2⟩
    · exact absurd b1 a2
    · rw [(wdc_D hse b1).mpr a1] at b2
      exact Or.inr (Or.inr (Or.inr (Or.inr (Or.inr ⟨rfl, rfl, b2⟩))))
    · exact absurd (hD a1) b2
  · refine ⟨?_, fun h => by omega, by omega, by omega, by omega⟩
    rcases h9 with ⟨rfl, b1, b2⟩ | ⟨rfl, b1, b2⟩ | ⟨rfl, b1, b2⟩
    · exact absurd b1 a1
    · refine Or.inr (Or.inl ⟨rfl, Or.inr ⟨rfl, ?_, ?_⟩⟩)
      · rw [b2]; exact fun h => a2 ((wdc_T hse b1).mp ((pk_lEQ (hb b1) (by decide)).mp h))
      · rw [b2]; exact fun h => a3 ((wdc_D hse b1).mp ((pk_lEQ (hb b1) (by decide)).mp h))
    · exact Or.inr (Or.inl ⟨rfl, Or.inl rfl⟩)
/-- the next token from a place, of both -/
def TokE (n : Nat) (tb tape : Nat → Int32) (p c s p' x : Nat) : Prop := (2 ≤ c → p < p') ∧ p' ≤ n ∧ c ≤ 5 ∧ s ≤ 740 ∧ (∀ st k vl, ∃ nx vl', f_X5_step (nI p) st k vl (nI n) tb = some (nx, nI s, nI c, vl') ∧ (c = 3 → vl' = nI x) ∧ (2 ≤ c → nx = nI p')) ∧ ∀ fr k nu w, ∃ (to' : Int32) (k9 : Nat) (nu' : Int32) (w' : Int64), f_X9_next (nI n) (nI p) fr k nu w tape = some (to', nI s, nI k9, nu', w') ∧ (2 ≤ c → to' = nI p') ∧ K9 c k9 nu' w' x
theorem tok_ex (hn : n ≤ 740) (hv : ∀ i, i < n → v i < 256 ∧ tb i = nI (v i)) (hv9 : ∀ i, i < n → v i < 256 ∧ tape i = nI (v i)) {p : Nat} (hp : p ≤ n) : ∃ c s p' x, TokE n tb tape p c s p' x := by
  obtain ⟨b, hb1, hb2, hb3, hb4⟩ := run_ex (fun i => v i = 32 ∨ v i = 10) n n p (by omega) hp
  have h8 : ∀ st k vl, f_X5_step (nI p) st k vl (nI n) tb = f_X5_step_J38 (nI n) tb (nI b, st, k, vl) := by
    intro st k vl
    unfold f_X5_step
    refine lp_spec (I := fun x => ∃ t, p ≤ t ∧ t ≤ b ∧ x = nI t) (ms := fun x => n - x.toNatClampNeg) (res := fun _ => f_X5_step_J38 (nI n) tb (nI b, st, k, vl)) ?_ 20000 _ ⟨p, by omega, hb1, rfl⟩ (by show n - _ < _; omega)
    rintro x ⟨t, ht1, ht2, rfl⟩ self hself
    unfold f_X5_step_L0
    by_cases c : n ≤ t
    · rw [if_pos ((nI_leI (by omega) (by omega)).mpr c), show t = b by omega]
    · have hvt := hv t (by omega)
      rw [if_neg (nI_ge (by omega) (by omega)), x7at hn tb (by omega), hvt.2, Option.bind_some]
      unfold f_X5_isBlank
      by_cases c1 : v t = 32 ∨ v t = 10
      · have htb : t < b := by
          rcases Nat.lt_or_ge t b with h | h
          · exact h
          · rcases hb4 with h2 | h2
            · omega
            · exact absurd (by rw [show b = t by omega]; exact c1) h2
        have e1 : (if nI (v t) = 32 then some (1 : Int32) else if nI (v t) = 10 then some 1 else some 0) = some 1 := by
          rcases c1 with h | h
          · rw [if_pos (show nI (v t) = 32 from congrArg nI h)]
          · rw [if_neg (show ¬ nI (v t) = 32 from fun h2 => by have := (nI_eq (b := 32) (by omega) (by omega)).mp h2; omega), if_pos (show nI (v t) = 10 from congrArg nI h)]
        rw [e1, Option.bind_some, if_neg one0, bd_eq, nI_1]
        exact hself _ ⟨t + 1, by omega, by omega, rfl⟩ (by show n - (nI (t + 1)).toNatClampNeg < n - (nI t).toNatClampNeg; rw [nI_clamp (by omega), nI_clamp (by omega)]; omega)
      · have htb : t = b := by
          rcases Nat.lt_or_ge t b with h | h
          · exact absurd (hb3 t ht1 h) c1
          · omega
        rw [if_neg (show ¬ nI (v t) = 32 from fun h2 => c1 (Or.inl ((nI_eq (b := 32) (by omega) (by omega)).mp h2))), if_neg (show ¬ nI (v t) = 10 from fun h2 => c1 (Or.inr ((nI_eq (b := 10) (by omega) (by omega)).mp h2))), Option.bind_some, if_pos zer0, htb]
  have h9 : ∀ fr k nu w, f_X9_next (nI n) (nI p) fr k nu w tape = f_X9_next_J52 (nI n) tape (nI b, fr, k, nu, w) := by
    intro fr k nu w
    unfold f_X9_next
    refine lp_spec (I := fun x => ∃ t, p ≤ t ∧ t ≤ b ∧ x = nI t) (ms := fun x => n - x.toNatClampNeg) (res := fun _ => f_X9_next_J52 (nI n) tape (nI b, fr, k, nu, w)) ?_ 20000 _ ⟨p, by omega, hb1, rfl⟩ (by show n - _ < _; omega)
    rintro x ⟨t, ht1, ht2, rfl⟩ self hself
    unfold f_X9_next_L0
    by_cases c : n ≤ t
    · rw [if_pos ((nI_leI (by omega) (by omega)).mpr c), show t = b by omega]
    · have hvt := hv9 t (by omega)
      have hms : n - (nI (t + 1)).toNatClampNeg < n - (nI t).toNatClampNeg := by rw [nI_clamp (by omega), nI_clamp (by omega)]; omega
      have et : tape (nI t).toNatClampNeg = nI (v t) := by rw [nI_clamp (by omega)]; exact hvt.2
      rw [if_neg (nI_ge (by omega) (by omega)), if_pos (inb_ok (by omega) (by omega)), et]
      by_cases c1 : v t = 32 ∨ v t = 10
      · have htb : t < b := by
          rcases Nat.lt_or_ge t b with h | h
          · exact h
          · rcases hb4 with h2 | h2
            · omega
            · exact absurd (by rw [show b = t by omega]; exact c1) h2
        unfold f_X9_next_J39
        rw [bd_eq, nI_1]
        rcases c1 with h | h
        · rw [if_pos (show nI (v t) = 32 from congrArg nI h)]
          exact hself _ ⟨t + 1, by omega, by omega, rfl⟩ hms
        · rw [if_neg (show ¬ nI (v t) = 32 from fun h2 => by have := (nI_eq (b := 32) (by omega) (by omega)).mp h2; omega), if_pos (inb_ok (by omega) (by omega)), if_pos (show nI (v t) = 10 from congrArg nI h)]
          exact hself _ ⟨t + 1, by omega, by omega, rfl⟩ hms
      · have htb : t = b := by
          rcases Nat.lt_or_ge t b with h | h
          · exact absurd (hb3 t ht1 h) c1
          · omega
        rw [if_neg (show ¬ nI (v t) = 32 from fun h2 => c1 (Or.inl ((nI_eq (b := 32) (by omega) (by omega)).mp h2))), if_pos (inb_ok (by omega) (by omega)), if_neg (show ¬ nI (v t) = 10 from fun h2 => c1 (Or.inr ((nI_eq (b := 10) (by omega) (by omega)).mp h2))), htb]
  by_cases c7 : ¬ n ≤ 700 ∧ 700 ≤ b
  · -- too long
    refine ⟨1, 700, p, 0, fun h => by omega, hp, by omega, by omega, fun st k vl => ?_, fun fr k nu w => ?_⟩
    · rw [h8]
      unfold f_X5_step_J38
      dsimp only
      rw [if_neg (show ¬ nI n ≤ 700 from fun h => c7.1 ((nI_leI (b := 700) (by omega) (by omega)).mp h)), if_neg (show ¬ nI b < 700 from (show ¬ nI b < nI 700 from nI_nlt (by omega) (by omega)))]
      exact ⟨_, _, rfl, fun h => by omega, fun h => by omega⟩
    · rw [h9]
      unfold f_X9_next_J52
      dsimp only
      rw [if_neg (show ¬ nI n ≤ 700 from fun h => c7.1 ((nI_leI (b := 700) (by omega) (by omega)).mp h)), if_neg (show ¬ nI b < 700 from (show ¬ nI b < nI 700 from nI_nlt (by omega) (by omega)))]
      exact ⟨_, 1, _, _, rfl, fun h => by omega, Or.inr (Or.inl ⟨rfl, Or.inl rfl⟩)⟩
  · have h8' : ∀ st k vl, f_X5_step (nI p) st k vl (nI n) tb = f_X5_step_J81 (nI n) tb (nI b, nI b, k, vl) := by
      intro st k vl
      rw [h8]
      unfold f_X5_step_J38
      dsimp only
      by_cases c : n ≤ 700
      · rw [if_pos (show nI n ≤ 700 from (nI_leI (b := 700) (by omega) (by omega)).mpr c)]
      · rw [if_neg (show ¬ nI n ≤ 700 from fun h => c ((nI_leI (b := 700) (by omega) (by omega)).mp h)), if_pos (show nI b < 700 from (show nI b < nI 700 from nI_lt (by omega) (by omega)))]
    have h9' : ∀ fr k nu w, f_X9_next (nI n) (nI p) fr k nu w tape = f_X9_next_J93 (nI n) tape (nI b, nI b, k, nu, w) := by
      intro fr k nu w
      rw [h9]
      unfold f_X9_next_J52
      dsimp only
      by_cases c : n ≤ 700
      · rw [if_pos (show nI n ≤ 700 from (nI_leI (b := 700) (by omega) (by omega)).mpr c)]
      · rw [if_neg (show ¬ nI n ≤ 700 from fun h => c ((nI_leI (b := 700) (by omega) (by omega)).mp h)), if_pos (show nI b < 700 from (show nI b < nI 700 from nI_lt (by omega) (by omega)))]
    by_cases cn : n ≤ b
    · refine ⟨0, b, b, 0, fun h => by omega, hb2, by omega, by omega, fun st k vl => ?_, fun fr k nu w => ?_⟩
      · rw [h8']
        unfold f_X5_step_J81
        dsimp only
        rw [if_neg (nI_nlt cn (by omega))]
        exact ⟨_, _, rfl, fun h => by omega, fun h => by omega⟩
      · rw [h9']
        unfold f_X9_next_J93
        dsimp only
        rw [if_neg (nI_nlt cn (by omega))]
        exact ⟨_, 0, _, _, rfl, fun h => by omega, Or.inl ⟨rfl, rfl⟩⟩
    · have hvb := hv b (by omega)
      have hvb9 := hv9 b (by omega)
      by_cases c59 : v b = 59
      · have nL : ¬ isL (v b) := by unfold isL; omega
        have nD : ¬ isDg (v b) := by unfold isDg; omega
        refine ⟨2, b, b + 1, 0, fun h => by omega, by omega, by omega, by omega, fun st k vl => ?_, fun fr k nu w => ?_⟩
        · rw [h8']
          unfold f_X5_step_J81
          dsimp only
          rw [if_pos (nI_lt (by omega) (by omega)), x7at hn tb (by omega), hvb.2, Option.bind_some, if_pos (show nI (v b) = 59 from congrArg nI c59), bd_eq, nI_1]
          exact ⟨_, _, rfl, fun h => by omega, fun _ => rfl⟩
        · rw [h9']
          unfold f_X9_next_J93 f_X9_next_J146
          dsimp only
          rw [if_pos (nI_lt (by omega) (by omega)), if_pos (inb_ok (by omega) (by omega)), bd_eq, nI_clamp (by omega), hvb9.2, (let_f hvb.1 nL).2, Option.bind_some, if_pos zer0, (dig_f hvb.1 nD).2, Option.bind_some, if_pos zer0, if_pos (show nI (v b) = 59 from congrArg nI c59), bd_eq, nI_1]
          exact ⟨_, 4, _, _, rfl, fun _ => rfl, Or.inr (Or.inr (Or.inl ⟨rfl, rfl⟩))⟩
      · have n59 : ¬ nI (v b) = 59 := show ¬ nI (v b) = nI 59 from fun h => c59 ((nI_eq (by omega) (by omega)).mp h)
        obtain ⟨e, he1, he2, he3, he4⟩ := run_ex (fun i => alN (v i)) n n b (by omega) hb2
        by_cases cal : alN (v b)
        · have hbe : b < e := by
            rcases Nat.lt_or_ge b e with h | h
            · exact h
            · rcases he4 with h2 | h2
              · omega
              · exact absurd (by rw [show e = b by omega]; exact cal) h2
          obtain ⟨k8, val, e8, q8⟩ := x5run hn hv he1 he2 he3 he4 0 0
          obtain ⟨k9, nu9, w9, e9, q9⟩ := x9run hn hv9 hbe he2 he3 he4 0 0 0
          obtain ⟨r1, r2, r3, r4, r5⟩ := kd_both hbe q8 q9
          refine ⟨k8, b, e, nmb v b (e - b), fun h => by omega, he2, r4, by omega, fun st k vl => ?_, fun fr k nu w => ?_⟩
          · obtain ⟨k8', val', e8', q8'⟩ := x5run hn hv he1 he2 he3 he4 k vl
            obtain ⟨r1', r2', r3', r4', r5'⟩ := kd_both hbe q8' q9
            have ek : k8' = k8 := by
              rcases q8 with ⟨a0, a1, a2⟩ | ⟨a0, a1, a2⟩ | ⟨a0, a1, a2, a3⟩ | ⟨a0, a1, a2, a3⟩ <;> rcases q8' with ⟨b0, b1, b2⟩ | ⟨b0, b1, b2⟩ | ⟨b0, b1, b2, b3⟩ | ⟨b0, b1, b2, b3⟩ <;> first | exact b0.trans a0.symm | contradiction
            rw [h8']
            unfold f_X5_step_J81
            dsimp only
            rw [if_pos (nI_lt (by omega) (by omega)), x7at hn tb (by omega), hvb.2, Option.bind_some, if_neg n59, e8', Option.bind_some, ek]
            exact ⟨_, _, rfl, fun h => r2' (by omega), fun _ => rfl⟩
          · obtain ⟨k9', nu9', w9', e9', q9'⟩ := x9run hn hv9 hbe he2 he3 he4 k nu w
            obtain ⟨r1', r2', r3', r4', r5'⟩ := kd_both hbe q8 q9'
            rw [h9']
            unfold f_X9_next_J93
            dsimp only
            rw [if_pos (nI_lt (by omega) (by omega)), if_pos (inb_ok (by omega) (by omega)), bd_eq, nI_clamp (by omega), hvb9.2]
            by_cases cL : isL (v b)
            · rw [(let_t cL).2, Option.bind_some, if_neg one0, e9']
              exact ⟨_, k9', _, _, rfl, fun _ => rfl, r1'⟩
            · have cD := cal.resolve_left cL
              rw [(let_f hvb.1 cL).2, Option.bind_some, if_pos zer0, (dig_t cD).2, Option.bind_some, if_neg one0, e9']
              exact ⟨_, k9', _, _, rfl, fun _ => rfl, r1'⟩
        · have nL : ¬ isL (v b) := fun h => cal (Or.inl h)
          have nD : ¬ isDg (v b) := fun h => cal (Or.inr h)
          refine ⟨1, b, p, 0, fun h => by omega, hp, by omega, by omega, fun st k vl => ?_, fun fr k nu w => ?_⟩
          · obtain ⟨k8', val', e8', q8'⟩ := x5run hn hv (Nat.le_refl b) hb2 (fun i h1 h2 => by omega) (Or.inr cal) k vl
            have ek : k8' = 1 := by
              rcases q8' with ⟨b0, b1, b2⟩ | ⟨b0, b1, b2⟩ | ⟨b0, b1, b2, b3⟩ | ⟨b0, b1, b2, b3⟩
              · have := b1.2; omega
              · have := b1.1; omega
              · have := b1.1; omega
              · exact b0
            rw [h8']
            unfold f_X5_step_J81
            dsimp only
            rw [if_pos (nI_lt (by omega) (by omega)), x7at hn tb (by omega), hvb.2, Option.bind_some, if_neg n59, e8', Option.bind_some, ek]
            exact ⟨_, _, rfl, fun h => by omega, fun h => by omega⟩
          · rw [h9']
            unfold f_X9_next_J93 f_X9_next_J146
            dsimp only
            rw [if_pos (nI_lt (by omega) (by omega)), if_pos (inb_ok (by omega) (by omega)), bd_eq, nI_clamp (by omega), hvb9.2, (let_f hvb.1 nL).2, Option.bind_some, if_pos zer0, (dig_f hvb.1 nD).2, Option.bind_some, if_pos zer0, if_neg n59, bd_eq, nI_1]
            exact ⟨_, 1, _, _, rfl, fun h => by omega, Or.inr (Or.inl ⟨rfl, Or.inl rfl⟩)⟩
end
