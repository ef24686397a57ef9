/-! OURS: the starters, the reference's -/
def SymB (m : Nat) (B : List Nat) : Prop := ∀ i, 1 ≤ i → i < m → (i ∈ B ↔ m - i ∈ B)
def StR (m : Nat) (w j : Int32) (E : List (List (Nat × Nat))) (c q : Nat) (L : List Nat) (srow wrow : Nat → Int32) (r : Int32 × Int32 × (Nat → Int32) × (Nat → Int32) × (Nat → Int32)) : Prop := r.1 = nI (c + E.length) ∧ r.2.1 = nI (q + jn m j E) ∧ (∀ x, x ∉ L → r.2.2.2.1 x = srow x) ∧ ((∃ i P', E[i]? = some P' ∧ w = nI (c + i) ∧ RowOk r.2.2.2.2 P') ∨ ((∀ i, i < E.length → w ≠ nI (c + i)) ∧ r.2.2.2.2 = wrow))
theorem StR.app {m : Nat} {w j : Int32} {E E' : List (List (Nat × Nat))} {c q : Nat} {L : List Nat} {srow wrow srow1 wrow1 : Nat → Int32} {r : Int32 × Int32 × (Nat → Int32) × (Nat → Int32) × (Nat → Int32)} (hc : c + (E.length + E'.length) ≤ 1000) (h2 : ∀ x, x ∉ L → srow1 x = srow x) (h3 : (∃ i P', E[i]? = some P' ∧ w = nI (c + i) ∧ RowOk wrow1 P') ∨ ((∀ i, i < E.length → w ≠ nI (c + i)) ∧ wrow1 = wrow)) (h : StR m w j E' (c + E.length) (q + jn m j E) L srow1 wrow1 r) : StR m w j (E ++ E') c q L srow wrow r := by
  obtain ⟨k1, k2, k3, k4⟩ := h
  refine ⟨by rw [k1, List.length_append, Nat.add_assoc], by rw [k2, jn_app, Nat.add_assoc], fun x hx => (k3 x hx).trans (h2 x hx), ?_⟩
  rcases h3 with ⟨i, P', a1, a2, a3⟩ | ⟨a1, a2⟩
  · obtain ⟨hi, -⟩ := List.getElem?_eq_some_iff.mp a1
    rcases k4 with ⟨i', P'', b1, b2, b3⟩ | ⟨b1, b2⟩
    · obtain ⟨hi', -⟩ := List.getElem?_eq_some_iff.mp b1
      rw [a2] at b2
      have := (nI_eq (by omega) (by omega)).mp b2
      omega
    · exact Or.inl ⟨i, P', by rw [List.getElem?_append_left hi]; exact a1, a2, by rw [b2]; exact a3⟩
  · rcases k4 with ⟨i', P'', b1, b2, b3⟩ | ⟨b1, b2⟩
    · exact Or.inl ⟨E.length + i', P'', at_app b1, by rw [b2]; congr 1; omega, b3⟩
    · exact Or.inr ⟨no_app a1 b1, b2.trans a2⟩
theorem x9leaf {m : Nat} (hm : 3 ≤ m ∧ m ≤ 13 ∧ m % 2 = 1) {P : List (Nat × Nat)} {srow : Nat → Int32} (hF : StF m P) (hr : RowOk srow P) (self_ : Int32 × Int32 × (Nat → Int32) × (Nat → Int32) × (Nat → Int32) × Int32 × Int32 × Int32 × Int32 → Option (Int32 × Int32 × (Nat → Int32) × (Nat → Int32) × (Nat → Int32))) (w p2 p3 j : Int32) {c q : Nat} (oth wr : Nat → Int32) : ∃ r : Int32 × Int32 × (Nat → Int32) × (Nat → Int32) × (Nat → Int32), f_X9_starts_J44 self_ w (nI m) p2 p3 j (nI c, nI q, oth, srow, wr) = some r ∧ r.1 = nI (c + 1) ∧ r.2.1 = nI (q + jn m j [P]) ∧ r.2.2.2.1 = srow ∧ r.2.2.2.2 = wr := by
  unfold f_X9_starts_J44
  dsimp only
  rw [bd_eq, nI_1]
  by_cases c2 : j = 0
  · rw [if_pos c2]
    refine ⟨_, rfl, rfl, ?_, rfl, rfl⟩
    unfold jn
    rw [if_pos c2]
    rfl
  · obtain ⟨no', e1, hM⟩ := x9laysBy (hF.ok hm) oth srow (fun a h1 h2 => hF.row hr a h1 h2)
    obtain ⟨r, e2, h2⟩ := x9perf (hF.ok hm) hM
    rw [if_neg c2, e1, Option.bind_some, e2, Option.bind_some]
    have ej : jn m j [P] = if PF m (sOf P) then 1 else 0 := by
      unfold jn
      rw [if_neg c2, List.countP_cons, List.countP_nil, Nat.zero_add]
      simp
    rcases h2 with ⟨rfl, h2⟩ | ⟨rfl, h2⟩
    · rw [if_neg one0, bd_eq, nI_1]
      refine ⟨_, rfl, rfl, ?_, rfl, rfl⟩
      rw [ej, if_pos h2]
    · rw [if_pos zer0]
      refine ⟨_, rfl, rfl, ?_, rfl, rfl⟩
      rw [ej, if_neg h2]
      rfl
theorem been0 {m : Nat} {p : Int32} {B : List Nat} {g : Nat} (hm : m ≤ 13) (hR : Rel p B) (hS : SymB m B) (h1 : 1 ≤ g) (h2 : g < m) : (p &&& (((1 : Int32) <<< (nI g &&& 31)) ||| ((1 : Int32) <<< (nI (m - g) &&& 31)))) = 0 ↔ g ∉ B := by
  rw [b_eq0]
  constructor
  · intro h hg
    have := h g (by omega)
    rw [b_and, b_or, b_sh1 g (by omega) (by omega), hR g (by omega), decide_eq_true hg, decide_eq_true rfl] at this
    cases this
  · intro h i hi
    rw [b_and, b_or, b_sh1 g (by omega) hi, b_sh1 (m - g) (by omega) hi, hR i hi]
    by_cases c1 : i = g
    · rw [c1, decide_eq_false h]; rfl
    · by_cases c2 : i = m - g
      · rw [c2, decide_eq_false (fun h3 => h ((hS g h1 h2).mpr h3))]; rfl
      · rw [decide_eq_false c1, decide_eq_false c2]; cases decide (i ∈ B) <;> rfl
theorem SymB.add {m : Nat} {B : List Nat} {g : Nat} (h : SymB m B) (h1 : 1 ≤ g) (h2 : g < m) : SymB m (g :: (m - g) :: B) := by
  intro i hi1 hi2
  rw [List.mem_cons, List.mem_cons, List.mem_cons, List.mem_cons, h i hi1 hi2]
  constructor
  · rintro (e | e | e)
    · exact Or.inr (Or.inl (by omega))
    · exact Or.inl (by omega)
    · exact Or.inr (Or.inr e)
  · rintro (e | e | e)
    · exact Or.inr (Or.inl (by omega))
    · exact Or.inl (by omega)
    · exact Or.inr (Or.inr e)
theorem x9starts {m : Nat} (hm : 3 ≤ m ∧ m ≤ 13 ∧ m % 2 = 1) (w j : Int32) : ∀ (f : Nat) (L B : List Nat) (P : List (Nat × Nat)) (c q : Nat) (oth srow wrow : Nat → Int32) (p2 p3 : Int32), L.length < 2 * f → L.Pairwise (· < ·) → (∀ i, i ∈ L → 1 ≤ i ∧ i < m) → Rel p2 L → Rel p3 B → SymB m B → RowOk srow P → (∀ ab, ab ∈ P → ab.1 ∉ L ∧ ab.2 ∉ L) → c + (en m f L B P).length ≤ 1000 → q ≤ c → (∀ P', P' ∈ en m f L B P → StF m P') →
    ∃ r, lp (f_X9_starts_B w) f (nI c, nI q, oth, srow, wrow, nI m, p2, p3, j) = some r ∧ StR m w j (en m f L B P) c q L srow wrow r := by
  intro f
  induction f with
  | zero => intros; omega
  | succ f ih =>
    intro L B P c q oth srow wrow p2 p3 hlen hpw hin hR1 hR2 hSy hrow hdis hc hq hF
    show ∃ r, f_X9_starts_B w (lp (f_X9_starts_B w) f) _ = some r ∧ _
    generalize lp (f_X9_starts_B w) f = self_ at ih ⊢
    unfold f_X9_starts_B
    dsimp only
    cases L with
    | nil =>
      have e0 : en m (f + 1) [] B P = [P] := rfl
      rw [e0] at hc hF ⊢
      have hFP := hF P (List.mem_singleton.mpr rfl)
      rw [if_pos hR1.nil]
      by_cases c1 : nI c = w
      · rw [if_pos c1]
        refine lp_ex (I := fun x => ∃ (t : Nat) (f : Nat → Int32), t ≤ m ∧ x = (nI t, f) ∧ ∀ s, s < t → f s = srow s) (ms := fun x => m - x.1.toNatClampNeg) (Post := fun r => StR m w j [P] c q [] srow wrow r) ?_ 20000 _ ⟨0, wrow, by omega, rfl, fun s h => by omega⟩ (by show m - _ < _; omega)
        rintro x ⟨t, fr, ht, rfl, hfr⟩ self hself
        unfold f_X9_starts_L18
        dsimp only
        by_cases c2 : m ≤ t
        · rw [if_pos ((nI_leI (by omega) (by omega)).mpr c2)]
          obtain ⟨r, e1, k1, k2, k3, k4⟩ := x9leaf hm hFP hrow self_ w p2 p3 j (c := c) (q := q) oth fr
          refine ⟨r, e1, k1, k2, fun x _ => by rw [k3], Or.inl ⟨0, P, rfl, c1.symm, ?_⟩⟩
          rw [k4]
          refine hrow.same (fun ab hab => ?_)
          have := hFP.1 ab hab
          exact ⟨hfr _ (by omega), hfr _ (by omega)⟩
        · rw [if_neg (nI_ge (by omega) (by omega)), if_pos (inb_ok (by omega) (by omega)), if_pos (inb_ok (by omega) (by omega)), bd_eq, bd_eq, nI_1, nI_clamp (by omega)]
          refine hself _ ⟨t + 1, _, by omega, rfl, fun s hs => ?_⟩ (by show m - (nI (t + 1)).toNatClampNeg < m - (nI t).toNatClampNeg; rw [nI_clamp (by omega), nI_clamp (by omega)]; omega)
          by_cases e : s = t
          · subst e; rw [upd_at]
          · rw [upd_ne _ _ e]; exact hfr s (by omega)
      · rw [if_neg c1]
        obtain ⟨r, e1, k1, k2, k3, k4⟩ := x9leaf hm hFP hrow self_ w p2 p3 j (c := c) (q := q) oth wrow
        refine ⟨r, e1, k1, k2, fun x _ => by rw [k3], Or.inr ⟨fun i hi => ?_, k4⟩⟩
        have : i = 0 := by
          have : i < 1 := hi
          omega
        subst this
        exact fun h => c1 h.symm
    | cons a L =>
      have ha := hin a (List.mem_cons_self ..)
      have hpa := List.pairwise_cons.mp hpw
      have haL : a ∉ L := fun h => by have := hpa.1 a h; omega
      have hlow : ∀ t, t < a → t ∉ a :: L := fun t ht h => by
        rcases List.mem_cons.mp h with h | h
        · omega
        · have := hpa.1 t h; omega
      have loop : ∀ (n k b : Nat) (c q : Nat) (oth srow wrow : Nat → Int32), b + k = m → k < n → a < b → RowOk srow P → c + (enS (en m f) m a L B P b k).length ≤ 1000 → q ≤ c → (∀ P', P' ∈ enS (en m f) m a L B P b k → StF m P') →
          ∃ r, lp (f_X9_starts_L105 self_ w (nI m) p2 p3 j (nI a)) n (nI b, nI c, nI q, oth, srow, wrow) = some r ∧ StR m w j (enS (en m f) m a L B P b k) c q (a :: L) srow wrow r := by
        intro n
        induction n with
        | zero => intros; omega
        | succ n ihn =>
          intro k b c q oth srow wrow hbk hkn hab hrow hc hq hF
          show ∃ r, f_X9_starts_L105 self_ w (nI m) p2 p3 j (nI a) (lp (f_X9_starts_L105 self_ w (nI m) p2 p3 j (nI a)) n) _ = some r ∧ _
          generalize lp (f_X9_starts_L105 self_ w (nI m) p2 p3 j (nI a)) n = self2 at ihn ⊢
          unfold f_X9_starts_L105
          dsimp only
          cases k with
          | zero =>
            rw [if_pos ((nI_leI (by omega) (by omega)).mpr (by omega))]
            refine ⟨_, rfl, rfl, ?_, fun _ _ => rfl, Or.inr ⟨fun i hi => ?_, rfl⟩⟩
            · show nI q = nI (q + jn m j [])
              rw [jn_nil]; rfl
            · exact absurd hi (Nat.not_lt_zero _)
          | succ k =>
            have hE : enS (en m f) m a L B P b (k + 1) = enB (en m f) m a L B P b ++ enS (en m f) m a L B P (b + 1) k := rfl
            rw [hE] at hc hF ⊢
            rw [List.length_append] at hc
            rw [if_neg (nI_ge (by omega) (by omega)), bd_eq, pk_sub (by omega), nI_sba m b a (by omega), show m + a - b = m - (b - a) by omega]
            have hskip : ¬ (b ∈ L ∧ b - a ∉ B) → ∃ r, self2 (nI (b + 1), nI c, nI q, oth, srow, wrow) = some r ∧ StR m w j (enB (en m f) m a L B P b ++ enS (en m f) m a L B P (b + 1) k) c q (a :: L) srow wrow r := by
              intro hn
              have e0 : enB (en m f) m a L B P b = [] := by unfold enB; rw [if_neg hn]
              rw [e0, List.nil_append]
              exact ihn k (b + 1) c q oth srow wrow (by omega) (by omega) (by omega) hrow (by omega) hq (fun P' h => hF P' (List.mem_append_right _ h))
            by_cases c1 : b ∈ L
            · rw [x9has_t (by omega) (by rw [hR1 b (by omega)]; exact decide_eq_true (List.mem_cons_of_mem _ c1)), Option.bind_some, if_neg one0]
              by_cases c2 : b - a ∈ B
              · rw [if_neg (fun h => (been0 (by omega) hR2 hSy (by omega) (by omega)).mp h c2), bd_eq, nI_1]
                exact hskip (fun h => h.2 c2)
              · have e0 : enB (en m f) m a L B P b = en m f (L.filter (fun x => !decide (x = b))) ((b - a) :: (m - (b - a)) :: B) ((a, b) :: P) := by unfold enB; rw [if_pos ⟨c1, c2⟩]
                rw [e0] at hc hF ⊢
                rw [if_pos ((been0 (by omega) hR2 hSy (by omega) (by omega)).mpr c2), if_pos (inb_ok (by omega) (by omega)), bd_eq, if_pos (inb_ok (by omega) (by omega)), bd_eq, nI_clamp (by omega), nI_clamp (by omega)]
                have hl := flt_len c1
                have hlen2 : (L.filter (fun x => !decide (x = b))).length < 2 * f := by
                  rw [List.length_cons] at hlen
                  omega
                obtain ⟨⟨c1', q1', oth1, srow1, wrow1⟩, e1, h1⟩ := ih (L.filter (fun x => !decide (x = b))) ((b - a) :: (m - (b - a)) :: B) ((a, b) :: P) c q oth (upd (upd srow a (nI b)) b (nI a)) wrow _ _ hlen2 (flt_pw hpa.2) (fun i hi => hin i (List.mem_cons_of_mem _ (flt_mem.mp hi).1)) (hR1.del9 hpw (by omega) (by omega)) (hR2.add (by omega) (by omega)) (hSy.add (by omega) (by omega)) (hrow.cons (by omega) (fun ab h => by
                    have := hdis ab h
                    refine ⟨⟨fun e => this.1 (e ▸ List.mem_cons_self ..), fun e => this.1 (e ▸ List.mem_cons_of_mem _ c1)⟩, fun e => this.2 (e ▸ List.mem_cons_self ..), fun e => this.2 (e ▸ List.mem_cons_of_mem _ c1)⟩)) (fun ab h => by
                    rcases List.mem_cons.mp h with rfl | h
                    · exact ⟨fun h2 => haL (flt_mem.mp h2).1, fun h2 => (flt_mem.mp h2).2 rfl⟩
                    · have := hdis ab h
                      exact ⟨fun h2 => this.1 (List.mem_cons_of_mem _ (flt_mem.mp h2).1), fun h2 => this.2 (List.mem_cons_of_mem _ (flt_mem.mp h2).1)⟩) (by omega) hq (fun P' h => hF P' (List.mem_append_left _ h))
                rw [e1, Option.bind_some]
                unfold StR at h1
                dsimp only at h1 ⊢
                obtain ⟨rfl, rfl, k3, k4⟩ := h1
                have hrow1 : ∀ x, x ∉ a :: L → srow1 x = srow x := by
                  intro x hx
                  rw [k3 x (fun h2 => hx (List.mem_cons_of_mem _ (flt_mem.mp h2).1)), upd_ne _ _ (fun e => hx (by rw [e]; exact List.mem_cons_of_mem _ c1)), upd_ne _ _ (fun e => hx (by rw [e]; exact List.mem_cons_self ..))]
                have hjl := jn_le m j (en m f (L.filter (fun x => !decide (x = b))) ((b - a) :: (m - (b - a)) :: B) ((a, b) :: P))
                obtain ⟨r, e2, h2⟩ := ihn k (b + 1) _ _ oth1 srow1 wrow1 (by omega) (by omega) (by omega) (hrow.same (fun ab h => ⟨hrow1 _ (hdis ab h).1, hrow1 _ (hdis ab h).2⟩)) (show c + (en m f (L.filter (fun x => !decide (x = b))) ((b - a) :: (m - (b - a)) :: B) ((a, b) :: P)).length + _ ≤ 1000 by omega) (show q + jn m j (en m f (L.filter (fun x => !decide (x = b))) ((b - a) :: (m - (b - a)) :: B) ((a, b) :: P)) ≤ _ by omega) (fun P' h => hF P' (List.mem_append_right _ h))
                rw [bd_eq, nI_1, e2]
                exact ⟨_, rfl, StR.app hc hrow1 k4 h2⟩
            · have c1' : b ∉ a :: L := fun h => by
                rcases List.mem_cons.mp h with h | h
                · omega
                · exact c1 h
              rw [x9has_f (by omega) (by rw [hR1 b (by omega)]; exact decide_eq_false c1'), Option.bind_some, if_pos zer0, bd_eq, nI_1]
              exact hskip (fun h => c1 h.1)
      rw [if_neg (hR1.cons (by omega)), x9least p2 (l := a) (by omega) (by rw [hR1 a (by omega)]; exact decide_eq_true (List.mem_cons_self ..)) (fun t ht => by rw [hR1 t (by omega)]; exact decide_eq_false (hlow t ht)), Option.bind_some, bd_eq, nI_1]
      exact loop 20000 (m - (a + 1)) (a + 1) c q oth srow wrow (by omega) (by omega) (by omega) hrow hc hq hF
