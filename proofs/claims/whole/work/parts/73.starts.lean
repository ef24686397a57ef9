/-! OURS: the starters in order -/
def enB (E : List Nat → List Nat → List (Nat × Nat) → List (List (Nat × Nat))) (m a : Nat) (L B : List Nat) (P : List (Nat × Nat)) (b : Nat) : List (List (Nat × Nat)) := if b ∈ L ∧ b - a ∉ B then E (L.filter (fun x => !decide (x = b))) ((b - a) :: (m - (b - a)) :: B) ((a, b) :: P) else []
def enS (E : List Nat → List Nat → List (Nat × Nat) → List (List (Nat × Nat))) (m a : Nat) (L B : List Nat) (P : List (Nat × Nat)) : Nat → Nat → List (List (Nat × Nat))
  | _, 0 => []
  | b, n + 1 => enB E m a L B P b ++ enS E m a L B P (b + 1) n
def en (m : Nat) : Nat → List Nat → List Nat → List (Nat × Nat) → List (List (Nat × Nat))
  | 0, _, _, _ => []
  | _ + 1, [], _, P => [P]
  | f + 1, a :: L, B, P => enS (en m f) m a L B P (a + 1) (m - (a + 1))
def sOf : List (Nat × Nat) → Nat → Nat
  | [], _ => 0
  | ab :: P, a => if ab.1 = a then ab.2 else if ab.2 = a then ab.1 else sOf P a
abbrev StF (m : Nat) (P : List (Nat × Nat)) : Prop := (∀ ab ∈ P, ab.1 < m ∧ ab.2 < m) ∧ (∀ a, a < m → 1 ≤ a → 1 ≤ sOf P a ∧ sOf P a < m ∧ sOf P a ≠ a ∧ sOf P (sOf P a) = a) ∧ ∀ a, a < m → 1 ≤ a → ∀ b, b < m → 1 ≤ b → (sOf P a + m - a) % m = (sOf P b + m - b) % m → a = b
def enA (m : Nat) : List (List (Nat × Nat)) := en m 9 (List.range' 1 (m - 1)) [] []
def stFd1 (m : Nat) (P : List (Nat × Nat)) : Decidable (∀ ab ∈ P, ab.1 < m ∧ ab.2 < m) := inferInstance
def stFd2 (m : Nat) (P : List (Nat × Nat)) : Decidable (∀ a, a < m → 1 ≤ a → 1 ≤ sOf P a ∧ sOf P a < m ∧ sOf P a ≠ a ∧ sOf P (sOf P a) = a) := inferInstance
def stFd3 (m : Nat) (P : List (Nat × Nat)) : Decidable (∀ a, a < m → 1 ≤ a → ∀ b, b < m → 1 ≤ b → (sOf P a + m - a) % m = (sOf P b + m - b) % m → a = b) := inferInstance
def stFb (m : Nat) (P : List (Nat × Nat)) : Bool := @decide _ (stFd1 m P) && (@decide _ (stFd2 m P) && @decide _ (stFd3 m P))
theorem enA_b : ([3, 5, 7, 9, 11, 13].all (fun m => decide ((enA m).length ≤ 1000) && (enA m).all (stFb m))) = true := by decide +kernel
theorem enA_ok (m : Nat) (hm : m ∈ [3, 5, 7, 9, 11, 13]) : (enA m).length ≤ 1000 ∧ ∀ P ∈ enA m, StF m P := by
  have h := List.all_eq_true.mp enA_b m hm
  rw [Bool.and_eq_true, decide_eq_true_iff, List.all_eq_true] at h
  refine ⟨h.1, fun P hP => ?_⟩
  have h2 := h.2 P hP
  unfold stFb at h2
  rw [Bool.and_eq_true, Bool.and_eq_true] at h2
  exact ⟨@of_decide_eq_true _ (stFd1 m P) h2.1, @of_decide_eq_true _ (stFd2 m P) h2.2.1, @of_decide_eq_true _ (stFd3 m P) h2.2.2⟩
def Rel (p : Int32) (L : List Nat) : Prop := ∀ i, i < 32 → bt p i = decide (i ∈ L)
def RowOk (row : Nat → Int32) (P : List (Nat × Nat)) : Prop := ∀ ab, ab ∈ P → row ab.1 = nI ab.2 ∧ row ab.2 = nI ab.1
def jn (m : Nat) (j : Int32) (E : List (List (Nat × Nat))) : Nat := if j = 0 then 0 else E.countP (fun P => decide (PF m (sOf P)))
theorem jn_app (m : Nat) (j : Int32) (E E' : List (List (Nat × Nat))) : jn m j (E ++ E') = jn m j E + jn m j E' := by
  unfold jn
  by_cases c : j = 0
  · rw [if_pos c, if_pos c, if_pos c]
  · rw [if_neg c, if_neg c, if_neg c, List.countP_append]
theorem jn_le (m : Nat) (j : Int32) (E : List (List (Nat × Nat))) : jn m j E ≤ E.length := by
  unfold jn
  by_cases c : j = 0
  · rw [if_pos c]; omega
  · rw [if_neg c]; exact List.countP_le_length
theorem jn_nil (m : Nat) (j : Int32) : jn m j [] = 0 := by
  unfold jn
  by_cases c : j = 0
  · rw [if_pos c]
  · rw [if_neg c]; rfl
theorem StF.ok {m : Nat} {P : List (Nat × Nat)} (hm : 3 ≤ m ∧ m ≤ 13 ∧ m % 2 = 1) (h : StF m P) : StOk m (sOf P) :=
  ⟨hm, fun a h1 h2 => h.2.1 a h2 h1, fun a b a1 a2 b1 b2 e => h.2.2 a a2 a1 b b2 b1 e⟩
theorem RowOk.at {row : Nat → Int32} : ∀ {P : List (Nat × Nat)}, RowOk row P → ∀ a, sOf P a ≠ 0 → row a = nI (sOf P a)
  | [], _, a, h => absurd rfl h
  | ab :: P, hr, a, h => by
    unfold sOf at h ⊢
    by_cases c1 : ab.1 = a
    · rw [if_pos c1, ← c1]; exact (hr ab (List.mem_cons_self ..)).1
    · rw [if_neg c1] at h ⊢
      by_cases c2 : ab.2 = a
      · rw [if_pos c2, ← c2]; exact (hr ab (List.mem_cons_self ..)).2
      · rw [if_neg c2] at h ⊢
        exact RowOk.at (fun xy hxy => hr xy (List.mem_cons_of_mem _ hxy)) a h
theorem StF.row {m : Nat} {P : List (Nat × Nat)} {row : Nat → Int32} (h : StF m P) (hr : RowOk row P) (a : Nat) (h1 : 1 ≤ a) (h2 : a < m) : row a = nI (sOf P a) := hr.at a (by have := (h.2.1 a h2 h1).1; omega)
theorem RowOk.cons {row : Nat → Int32} {P : List (Nat × Nat)} {a b : Nat} (hab : a ≠ b) (h : RowOk row P) (hP : ∀ ab, ab ∈ P → (ab.1 ≠ a ∧ ab.1 ≠ b) ∧ ab.2 ≠ a ∧ ab.2 ≠ b) : RowOk (upd (upd row a (nI b)) b (nI a)) ((a, b) :: P) := by
  intro xy hxy
  rcases List.mem_cons.mp hxy with rfl | hxy
  · exact ⟨by rw [upd_ne _ _ hab, upd_at], upd_at _ _ _⟩
  · have k := hP xy hxy
    rw [upd_ne _ _ k.1.2, upd_ne _ _ k.1.1, upd_ne _ _ k.2.2, upd_ne _ _ k.2.1]
    exact h xy hxy
theorem RowOk.same {row row' : Nat → Int32} {P : List (Nat × Nat)} (h : RowOk row P) (he : ∀ ab, ab ∈ P → row' ab.1 = row ab.1 ∧ row' ab.2 = row ab.2) : RowOk row' P := by
  intro ab hab
  rw [(he ab hab).1, (he ab hab).2]
  exact h ab hab
theorem Rel.nil {p : Int32} (h : Rel p []) : p = 0 := (b_eq0 p).mpr (fun i hi => by rw [h i hi]; rfl)
theorem Rel.cons {p : Int32} {a : Nat} {L : List Nat} (ha : a < 32) (h : Rel p (a :: L)) : ¬ p = 0 := fun h0 => by
  have h1 := h a ha
  rw [h0, b_0, decide_eq_true (List.mem_cons_self ..)] at h1
  cases h1
theorem Rel.t {p : Int32} {L : List Nat} {i : Nat} (h : Rel p L) (hi : i < 32) (hm : i ∈ L) : (p >>> (nI i &&& 31)) &&& 1 = 1 := by
  rw [bitI p i hi, h i hi, decide_eq_true hm]
  rfl
theorem Rel.f {p : Int32} {L : List Nat} {i : Nat} (h : Rel p L) (hi : i < 32) (hm : i ∉ L) : (p >>> (nI i &&& 31)) &&& 1 = 0 := by
  rw [bitI p i hi, h i hi, decide_eq_false hm]
  rfl
theorem Rel.t0 {p : Int32} {L : List Nat} {i : Nat} (h : Rel p L) (hi : i < 32) (hm : i ∈ L) : ¬ (p >>> (nI i &&& 31)) &&& 1 = 0 := by
  rw [h.t hi hm]; decide
theorem Rel.f1 {p : Int32} {L : List Nat} {i : Nat} (h : Rel p L) (hi : i < 32) (hm : i ∉ L) : ¬ (p >>> (nI i &&& 31)) &&& 1 = 1 := by
  rw [h.f hi hm]; decide
theorem Rel.add {p : Int32} {B : List Nat} {g h : Nat} (hB : Rel p B) (hg : g < 32) (hh : h < 32) : Rel (p ||| (((1 : Int32) <<< (nI g &&& 31)) ||| ((1 : Int32) <<< (nI h &&& 31)))) (g :: h :: B) := by
  intro i hi
  rw [bt_add p g h hg hh hi, hB i hi, Bool.eq_iff_iff, Bool.or_eq_true, Bool.or_eq_true, decide_eq_true_iff, decide_eq_true_iff, decide_eq_true_iff, decide_eq_true_iff, List.mem_cons, List.mem_cons]
  constructor
  · rintro (h | h | h)
    · exact Or.inr (Or.inr h)
    · exact Or.inl h
    · exact Or.inr (Or.inl h)
  · rintro (h | h | h)
    · exact Or.inr (Or.inl h)
    · exact Or.inr (Or.inr h)
    · exact Or.inl h
theorem flt_mem {L : List Nat} {b i : Nat} : i ∈ L.filter (fun x => !decide (x = b)) ↔ i ∈ L ∧ i ≠ b := by
  rw [List.mem_filter]
  simp
theorem Rel.del {p : Int32} {L : List Nat} {a b : Nat} (hL : Rel p (a :: L)) (hp : (a :: L).Pairwise (· < ·)) (ha : a < 32) (hb : b < 32) : Rel (p &&& ((((1 : Int32) <<< (nI a &&& 31)) ||| ((1 : Int32) <<< (nI b &&& 31))) ^^^ (-1))) (L.filter (fun x => !decide (x = b))) := by
  intro i hi
  rw [b_and, b_not _ hi, b_or, b_sh1 a ha hi, b_sh1 b hb hi, hL i hi, Bool.eq_iff_iff, decide_eq_true_iff, flt_mem]
  have ha2 : i ∈ L → i ≠ a := fun h e => by
    have := (List.pairwise_cons.mp hp).1 i h
    omega
  simp only [Bool.and_eq_true, decide_eq_true_iff, List.mem_cons, Bool.not_eq_true', Bool.or_eq_false_iff, decide_eq_false_iff_not]
  constructor
  · rintro ⟨h1 | h1, h2, h3⟩
    · exact absurd h1 h2
    · exact ⟨h1, h3⟩
  · rintro ⟨h1, h2⟩
    exact ⟨Or.inr h1, ha2 h1, h2⟩
theorem Rel.del9 {p : Int32} {L : List Nat} {a b : Nat} (hL : Rel p (a :: L)) (hp : (a :: L).Pairwise (· < ·)) (ha : a < 32) (hb : b < 32) : Rel ((p &&& (((1 : Int32) <<< (nI a &&& 31)) ^^^ (-1))) &&& (((1 : Int32) <<< (nI b &&& 31)) ^^^ (-1))) (L.filter (fun x => !decide (x = b))) := by
  intro i hi
  rw [← hL.del hp ha hb i hi, b_and, b_and, b_and, b_not _ hi, b_not _ hi, b_not _ hi, b_or, Bool.not_or, Bool.and_assoc]
theorem flt_pw {L : List Nat} {b : Nat} (h : L.Pairwise (· < ·)) : (L.filter (fun x => !decide (x = b))).Pairwise (· < ·) := h.filter _
theorem flt_len {L : List Nat} {b : Nat} (h : b ∈ L) : (L.filter (fun x => !decide (x = b))).length < L.length := by
  refine List.length_filter_lt_length_iff_exists.mpr ⟨b, h, by simp⟩
/-- the seeking's answer -/
def SkR (m : Nat) (w j : Int32) (E : List (List (Nat × Nat))) (c q : Nat) (L : List Nat) (row : Nat → Int32) (r : Int32 × Int32 × Int32 × (Nat → Int32) × Int32 × Int32 × (Nat → Int32)) : Prop := (∃ i P', E[i]? = some P' ∧ w = nI (c + i) ∧ r.1 = 1 ∧ RowOk r.2.2.2.1 P') ∨ ((∀ i, i < E.length → w ≠ nI (c + i)) ∧ r.1 = 0 ∧ r.2.1 = nI (c + E.length) ∧ r.2.2.1 = nI (q + jn m j E) ∧ ∀ x, x ∉ L → r.2.2.2.1 x = row x)
theorem SkR.hit {m : Nat} {w j : Int32} {E E' : List (List (Nat × Nat))} {c q : Nat} {L : List Nat} {row : Nat → Int32} {r : Int32 × Int32 × Int32 × (Nat → Int32) × Int32 × Int32 × (Nat → Int32)} {i : Nat} {P' : List (Nat × Nat)} (h1 : E[i]? = some P') (h2 : w = nI (c + i)) (h3 : r.1 = 1) (h4 : RowOk r.2.2.2.1 P') : SkR m w j (E ++ E') c q L row r := by
  obtain ⟨hi, -⟩ := List.getElem?_eq_some_iff.mp h1
  exact Or.inl ⟨i, P', by rw [List.getElem?_append_left hi]; exact h1, h2, h3, h4⟩
theorem no_app {w : Int32} {E E' : List (List (Nat × Nat))} {c : Nat} (h1 : ∀ i, i < E.length → w ≠ nI (c + i)) (h2 : ∀ i, i < E'.length → w ≠ nI (c + E.length + i)) : ∀ i, i < (E ++ E').length → w ≠ nI (c + i) := by
  intro i hi
  rw [List.length_append] at hi
  by_cases c1 : i < E.length
  · exact h1 i c1
  · have := h2 (i - E.length) (by omega)
    rw [show c + E.length + (i - E.length) = c + i by omega] at this
    exact this
theorem at_app {E E' : List (List (Nat × Nat))} {i : Nat} {P' : List (Nat × Nat)} (h : E'[i]? = some P') : (E ++ E')[E.length + i]? = some P' := by
  rw [List.getElem?_append_right (by omega), show E.length + i - E.length = i by omega]
  exact h
theorem SkR.app {m : Nat} {w j : Int32} {E E' : List (List (Nat × Nat))} {c q : Nat} {L : List Nat} {row row1 : Nat → Int32} {r : Int32 × Int32 × Int32 × (Nat → Int32) × Int32 × Int32 × (Nat → Int32)} (h1 : ∀ i, i < E.length → w ≠ nI (c + i)) (h2 : ∀ x, x ∉ L → row1 x = row x) (h : SkR m w j E' (c + E.length) (q + jn m j E) L row1 r) : SkR m w j (E ++ E') c q L row r := by
  rcases h with ⟨i, P', k1, k2, k3, k4⟩ | ⟨k1, k2, k3, k4, k5⟩
  · exact Or.inl ⟨E.length + i, P', at_app k1, by rw [k2]; congr 1; omega, k3, k4⟩
  · refine Or.inr ⟨no_app h1 k1, k2, ?_, ?_, fun x hx => (k5 x hx).trans (h2 x hx)⟩
    · rw [k3, List.length_append, Nat.add_assoc]
    · rw [k4, jn_app, Nat.add_assoc]
theorem x6leaf {m : Nat} (hm : 3 ≤ m ∧ m ≤ 13 ∧ m % 2 = 1) {P : List (Nat × Nat)} {row : Nat → Int32} (hF : StF m P) (hr : RowOk row P) (w j : Int32) {c q : Nat} (hc : c < 2000) (hq : q ≤ c) (pt pd : Int32) (pr : Nat → Int32) : ∃ x : Int32 × Int32 × Int32 × Int32 × Int32 × (Nat → Int32), f_X6_isWanted (nI c) (nI q) (nI m) w j row pt pd pr = some x ∧ ((w = nI c ∧ x.1 = 1) ∨ (w ≠ nI c ∧ x.1 = 0 ∧ x.2.1 = nI (c + 1) ∧ x.2.2.1 = nI (q + jn m j [P]))) := by
  unfold f_X6_isWanted
  by_cases c1 : nI c = w
  · rw [if_pos c1]
    exact ⟨_, rfl, Or.inl ⟨c1.symm, rfl⟩⟩
  · rw [if_neg c1, bd_eq, nI_1]
    by_cases c2 : j = 0
    · rw [if_pos c2]
      refine ⟨_, rfl, Or.inr ⟨fun h => c1 h.symm, rfl, rfl, ?_⟩⟩
      unfold jn
      rw [if_pos c2]
      rfl
    · obtain ⟨ro', e1, hX⟩ := x3fillBy (hF.ok hm) pt pd pr row (fun a h1 h2 => hF.row hr a h1 h2)
      obtain ⟨r, e2, h2⟩ := x3first (hF.ok hm) hX
      rw [if_neg c2, e1, Option.bind_some]
      dsimp only
      rw [e2, Option.bind_some]
      have ej : jn m j [P] = if PF m (sOf P) then 1 else 0 := by
        unfold jn
        rw [if_neg c2, List.countP_cons, List.countP_nil, Nat.zero_add]
        simp
      rcases h2 with ⟨rfl, h2⟩ | ⟨rfl, h2⟩
      · rw [if_neg one0, bd_eq, nI_1]
        refine ⟨_, rfl, Or.inr ⟨fun h => c1 h.symm, rfl, rfl, ?_⟩⟩
        rw [ej, if_pos h2]
      · rw [if_pos zer0]
        refine ⟨_, rfl, Or.inr ⟨fun h => c1 h.symm, rfl, rfl, ?_⟩⟩
        rw [ej, if_neg h2]
        rfl
theorem x6seek {m : Nat} (hm : 3 ≤ m ∧ m ≤ 13 ∧ m % 2 = 1) (w j : Int32) : ∀ (f : Nat) (L B : List Nat) (P : List (Nat × Nat)) (c q fr : Nat) (row : Nat → Int32) (pt pd : Int32) (pr : Nat → Int32) (p1 p2 : Int32), L.length < 2 * f → L.Pairwise (· < ·) → (∀ i, i ∈ L → fr ≤ i ∧ i < m) → 1 ≤ fr → fr ≤ m → Rel p1 L → Rel p2 B → RowOk row P → (∀ ab, ab ∈ P → ab.1 ∉ L ∧ ab.2 ∉ L) → c + (en m f L B P).length ≤ 1000 → q ≤ c → (∀ P', P' ∈ en m f L B P → StF m P') →
    ∃ r, lp (f_X6_seek_B (nI m) w j) f (nI c, nI q, row, pt, pd, pr, p1, p2, nI fr) = some r ∧ SkR m w j (en m f L B P) c q L row r := by
  intro f
  induction f with
  | zero => intros; omega
  | succ f ih =>
    intro L B P c q fr row pt pd pr p1 p2 hlen hpw hin hfr hfr2 hR1 hR2 hrow hdis hc hq hF
    show ∃ r, f_X6_seek_B (nI m) w j (lp (f_X6_seek_B (nI m) w j) f) _ = some r ∧ _
    generalize lp (f_X6_seek_B (nI m) w j) f = self_ at ih ⊢
    unfold f_X6_seek_B
    dsimp only
    cases L with
    | nil =>
      have e0 : en m (f + 1) [] B P = [P] := rfl
      rw [e0] at hc hF ⊢
      obtain ⟨⟨x1, x2, x3, x4, x5, x6⟩, e1, h1⟩ := x6leaf hm (hF P (List.mem_singleton.mpr rfl)) hrow w j (show c < 2000 by omega) hq pt pd pr
      rw [if_pos hR1.nil, e1, Option.bind_some]
      dsimp only at h1 ⊢
      rcases h1 with ⟨k1, rfl⟩ | ⟨k1, rfl, rfl, rfl⟩
      · rw [if_pos (Or.inr rfl)]
        exact ⟨_, rfl, Or.inl ⟨0, P, rfl, k1, rfl, hrow⟩⟩
      · rw [if_pos (Or.inl rfl)]
        refine ⟨_, rfl, Or.inr ⟨fun i hi => ?_, rfl, rfl, rfl, fun _ _ => rfl⟩⟩
        have : i = 0 := by
          have : i < 1 := hi
          omega
        subst this
        exact k1
    | cons a L =>
      have ha := hin a (List.mem_cons_self ..)
      have hpa := List.pairwise_cons.mp hpw
      have haL : a ∉ L := fun h => by have := hpa.1 a h; omega
      have loop : ∀ (n k b : Nat) (c q : Nat) (row : Nat → Int32) (pt pd : Int32) (pr : Nat → Int32), b + k = m → k < n → a < b → RowOk row P → c + (enS (en m f) m a L B P b k).length ≤ 1000 → q ≤ c → (∀ P', P' ∈ enS (en m f) m a L B P b k → StF m P') →
          ∃ r, lp (f_X6_seek_L60 self_ (nI m) w j p1 p2 (nI fr) (nI a)) n (nI b, nI c, nI q, row, pt, pd, pr) = some r ∧ SkR m w j (enS (en m f) m a L B P b k) c q (a :: L) row r := by
        intro n
        induction n with
        | zero => intros; omega
        | succ n ihn =>
          intro k b c q row pt pd pr hbk hkn hab hrow hc hq hF
          show ∃ r, f_X6_seek_L60 self_ (nI m) w j p1 p2 (nI fr) (nI a) (lp (f_X6_seek_L60 self_ (nI m) w j p1 p2 (nI fr) (nI a)) n) _ = some r ∧ _
          generalize lp (f_X6_seek_L60 self_ (nI m) w j p1 p2 (nI fr) (nI a)) n = self2 at ihn ⊢
          unfold f_X6_seek_L60
          dsimp only
          cases k with
          | zero =>
            rw [if_pos ((nI_leI (by omega) (by omega)).mpr (by omega))]
            refine ⟨_, rfl, Or.inr ⟨fun i hi => ?_, rfl, rfl, ?_, fun _ _ => rfl⟩⟩
            · exact absurd hi (Nat.not_lt_zero _)
            · show nI q = nI (q + jn m j [])
              rw [jn_nil]; rfl
          | succ k =>
            have hE : enS (en m f) m a L B P b (k + 1) = enB (en m f) m a L B P b ++ enS (en m f) m a L B P (b + 1) k := rfl
            rw [hE] at hc hF ⊢
            rw [List.length_append] at hc
            rw [if_neg (nI_ge (by omega) (by omega)), if_neg (show ¬ (13 : Int32) ≤ nI b from nI_ge (b := 13) (by omega) (by omega)), bd_eq, pk_sub (by omega)]
            have hskip : ¬ (b ∈ L ∧ b - a ∉ B) → ∃ r, self2 (nI (b + 1), nI c, nI q, row, pt, pd, pr) = some r ∧ SkR m w j (enB (en m f) m a L B P b ++ enS (en m f) m a L B P (b + 1) k) c q (a :: L) row r := by
              intro hn
              have e0 : enB (en m f) m a L B P b = [] := by unfold enB; rw [if_neg hn]
              rw [e0, List.nil_append]
              exact ihn k (b + 1) c q row pt pd pr (by omega) (by omega) (by omega) hrow (by omega) hq (fun P' h => hF P' (List.mem_append_right _ h))
            by_cases c1 : b ∈ L
            · have hbm := hin b (List.mem_cons_of_mem _ c1)
              rw [if_pos (hR1.t (by omega) (List.mem_cons_of_mem _ c1))]
              by_cases c2 : b - a ∈ B
              · rw [if_neg (hR2.t0 (by omega) c2), bd_eq, nI_1]
                exact hskip (fun h => h.2 c2)
              · have e0 : enB (en m f) m a L B P b = en m f (L.filter (fun x => !decide (x = b))) ((b - a) :: (m - (b - a)) :: B) ((a, b) :: P) := by unfold enB; rw [if_pos ⟨c1, c2⟩]
                rw [e0] at hc hF ⊢
                rw [if_pos (hR2.f (by omega) c2), if_pos (inb_ok (by omega) (by omega)), bd_eq, if_pos (inb_ok (by omega) (by omega)), bd_eq, bd_eq, nI_clamp (by omega), nI_clamp (by omega), pk_sub (by omega), nI_1, nI_1]
                have hl := flt_len c1
                have hlen2 : (L.filter (fun x => !decide (x = b))).length < 2 * f := by
                  rw [List.length_cons] at hlen
                  omega
                obtain ⟨⟨r0, c1', q1', row1, pt1, pd1, pr1⟩, e1, h1⟩ := ih (L.filter (fun x => !decide (x = b))) ((b - a) :: (m - (b - a)) :: B) ((a, b) :: P) c q (a + 1) (upd (upd row a (nI b)) b (nI a)) pt pd pr _ _ hlen2 (flt_pw hpa.2) (fun i hi => by
                    have hi2 := (flt_mem.mp hi).1
                    have := hpa.1 i hi2
                    exact ⟨by omega, (hin i (List.mem_cons_of_mem _ hi2)).2⟩) (by omega) (by omega) (hR1.del hpw (by omega) (by omega)) (hR2.add (by omega) (by omega)) (hrow.cons (by omega) (fun ab h => by
                    have := hdis ab h
                    refine ⟨⟨fun e => this.1 (e ▸ List.mem_cons_self ..), fun e => this.1 (e ▸ List.mem_cons_of_mem _ c1)⟩, fun e => this.2 (e ▸ List.mem_cons_self ..), fun e => this.2 (e ▸ List.mem_cons_of_mem _ c1)⟩)) (fun ab h => by
                    rcases List.mem_cons.mp h with rfl | h
                    · exact ⟨fun h2 => haL (flt_mem.mp h2).1, fun h2 => (flt_mem.mp h2).2 rfl⟩
                    · have := hdis ab h
                      exact ⟨fun h2 => this.1 (List.mem_cons_of_mem _ (flt_mem.mp h2).1), fun h2 => this.2 (List.mem_cons_of_mem _ (flt_mem.mp h2).1)⟩) (by omega) hq (fun P' h => hF P' (List.mem_append_left _ h))
                rw [e1, Option.bind_some]
                unfold SkR at h1
                dsimp only at h1 ⊢
                rcases h1 with ⟨i, P', k1, k2, rfl, k4⟩ | ⟨k1, rfl, rfl, rfl, k5⟩
                · rw [if_neg one0]
                  exact ⟨_, rfl, SkR.hit k1 k2 rfl k4⟩
                · have hrow1 : ∀ x, x ∉ a :: L → row1 x = row x := by
                    intro x hx
                    rw [k5 x (fun h2 => hx (List.mem_cons_of_mem _ (flt_mem.mp h2).1)), upd_ne _ _ (fun e => hx (by rw [e]; exact List.mem_cons_of_mem _ c1)), upd_ne _ _ (fun e => hx (by rw [e]; exact List.mem_cons_self ..))]
                  have hjl := jn_le m j (en m f (L.filter (fun x => !decide (x = b))) ((b - a) :: (m - (b - a)) :: B) ((a, b) :: P))
                  obtain ⟨r, e2, h2⟩ := ihn k (b + 1) _ _ row1 pt1 pd1 pr1 (by omega) (by omega) (by omega) (hrow.same (fun ab h => ⟨hrow1 _ (hdis ab h).1, hrow1 _ (hdis ab h).2⟩)) (show c + (en m f (L.filter (fun x => !decide (x = b))) ((b - a) :: (m - (b - a)) :: B) ((a, b) :: P)).length + _ ≤ 1000 by omega) (show q + jn m j (en m f (L.filter (fun x => !decide (x = b))) ((b - a) :: (m - (b - a)) :: B) ((a, b) :: P)) ≤ _ by omega) (fun P' h => hF P' (List.mem_append_right _ h))
                  rw [if_pos zer0, bd_eq, e2]
                  exact ⟨_, rfl, SkR.app k1 hrow1 h2⟩
            · have c1' : b ∉ a :: L := fun h => by
                rcases List.mem_cons.mp h with h | h
                · omega
                · exact c1 h
              rw [if_neg (hR1.f1 (by omega) c1'), bd_eq, nI_1]
              exact hskip (fun h => c1 h.1)
      have hgo : ∃ r, f_X6_seek_J36 self_ (nI m) w j p1 p2 (nI fr) (nI a, nI c, nI q, row, pt, pd, pr) = some r ∧ SkR m w j (en m (f + 1) (a :: L) B P) c q (a :: L) row r := by
        unfold f_X6_seek_J36
        dsimp only
        rw [if_neg (nI_ge (by omega) (by omega)), if_pos (show nI a < (13 : Int32) from nI_lt (b := 13) (by omega) (by omega)), bd_eq, nI_1]
        exact loop 20000 (m - (a + 1)) (a + 1) c q row pt pd pr (by omega) (by omega) (by omega) hrow hc hq hF
      rw [if_neg (hR1.cons (by omega))]
      refine lp_ex (I := fun x => ∃ t : Nat, fr ≤ t ∧ t ≤ a ∧ x = nI t) (ms := fun x => a - x.toNatClampNeg) (Post := fun r => SkR m w j (en m (f + 1) (a :: L) B P) c q (a :: L) row r) ?_ 20000 _ ⟨fr, by omega, by omega, rfl⟩ (by show a - _ < _; omega)
      rintro x ⟨t, ht1, ht2, rfl⟩ self hself
      unfold f_X6_seek_L12
      rw [if_neg (nI_ge (by omega) (by omega))]
      by_cases e3 : t = a
      · subst e3
        rw [if_neg (hR1.t0 (by omega) (List.mem_cons_self ..))]
        exact hgo
      · have hn : t ∉ a :: L := fun h => by
          rcases List.mem_cons.mp h with h | h
          · exact e3 h
          · have := hpa.1 t h; omega
        rw [if_pos (hR1.f (by omega) hn), bd_eq, nI_1]
        exact hself _ ⟨t + 1, by omega, by omega, rfl⟩ (by show a - (nI (t + 1)).toNatClampNeg < a - (nI t).toNatClampNeg; rw [nI_clamp (by omega), nI_clamp (by omega)]; omega)
