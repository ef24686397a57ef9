/-! OURS: the first day, the best day: the seeking -/
def bl (h : Nat → Option (List (Nat × Nat))) : Nat → Nat → Option (List (Nat × Nat))
  | _, 0 => none
  | b, k + 1 => match h b with
    | some r => some r
    | none => bl h (b + 1) k
theorem bl_none {h : Nat → Option (List (Nat × Nat))} {b k : Nat} (e : h b = none) : bl h b (k + 1) = bl h (b + 1) k := by
  show (match h b with | some r => some r | none => bl h (b + 1) k) = _
  rw [e]
theorem bl_hit {h : Nat → Option (List (Nat × Nat))} {b k : Nat} {R : List (Nat × Nat)} (e : h b = some R) : bl h b (k + 1) = some R := by
  show (match h b with | some r => some r | none => bl h (b + 1) k) = _
  rw [e]
theorem bl_some {h : Nat → Option (List (Nat × Nat))} {R : List (Nat × Nat)} : ∀ {k b : Nat}, bl h b k = some R → ∃ i, b ≤ i ∧ i < b + k ∧ h i = some R
  | 0, b, e => by cases e
  | k + 1, b, e => by
    cases c : h b with
    | none =>
      rw [bl_none c] at e
      obtain ⟨i, h1, h2, h3⟩ := bl_some e
      exact ⟨i, by omega, by omega, h3⟩
    | some R' =>
      rw [bl_hit c] at e
      cases e
      exact ⟨b, by omega, by omega, c⟩
theorem bl_no {h : Nat → Option (List (Nat × Nat))} : ∀ {k b : Nat}, bl h b k = none → ∀ i, b ≤ i → i < b + k → h i = none
  | 0, b, _, i, h1, h2 => by omega
  | k + 1, b, e, i, h1, h2 => by
    cases c : h b with
    | none =>
      rw [bl_none c] at e
      by_cases c2 : i = b
      · subst c2; exact c
      · exact bl_no e i (by omega) (by omega)
    | some R' =>
      rw [bl_hit c] at e
      cases e
def jE (e : Nat → Nat → Nat) (a b d x : Nat) : Nat := if x = e d a then e d b else if x = e d b then e d a else e d x
def okc (best : Bool) (N : Nat) (S : Int32) (e : Nat → Nat → Nat) (a b : Nat) : Bool := !best || (decide (cd S = 2) || decide (∀ d, d < N → e d a ≠ b))
def bh (best : Bool) (N : Nat) (F : Nat → Nat → Bool) (rec : Int32 → (Nat → Nat → Nat) → Option (List (Nat × Nat))) (S : Int32) (e : Nat → Nat → Nat) (b : Nat) : Option (List (Nat × Nat)) := if bt S b && (F (lo S) b && okc best N S e (lo S) b) then (rec (del S (lo S) b) (jE e (lo S) b)).map (fun R => (lo S, b) :: R) else none
def bs (best : Bool) (N : Nat) (F : Nat → Nat → Bool) : Nat → Int32 → (Nat → Nat → Nat) → Option (List (Nat × Nat))
  | 0, _, _ => none
  | f + 1, S, e => if S = 0 then some [] else bl (bh best N F (bs best N F f) S e) (lo S + 1) (13 - lo S)
section
variable {best : Bool} {N : Nat} {F : Nat → Nat → Bool} {f : Nat} {S : Int32} {e : Nat → Nat → Nat}
theorem bs_0 (h : S = 0) : bs best N F (f + 1) S e = some [] := by
  unfold bs
  rw [if_pos h]
theorem bs_s (h : ¬ S = 0) : bs best N F (f + 1) S e = bl (bh best N F (bs best N F f) S e) (lo S + 1) (13 - lo S) := by
  show (if S = 0 then some [] else bl (bh best N F (bs best N F f) S e) (lo S + 1) (13 - lo S)) = _
  rw [if_neg h]
theorem bh_f {rec : Int32 → (Nat → Nat → Nat) → Option (List (Nat × Nat))} {b : Nat} (h : ¬ (bt S b = true ∧ F (lo S) b = true ∧ okc best N S e (lo S) b = true)) : bh best N F rec S e b = none := by
  unfold bh
  rw [if_neg (by rw [Bool.and_eq_true, Bool.and_eq_true]; exact h)]
theorem bh_t {rec : Int32 → (Nat → Nat → Nat) → Option (List (Nat × Nat))} {b : Nat} (h1 : bt S b = true) (h2 : F (lo S) b = true) (h3 : okc best N S e (lo S) b = true) : bh best N F rec S e b = (rec (del S (lo S) b) (jE e (lo S) b)).map (fun R => (lo S, b) :: R) := by
  unfold bh
  rw [if_pos (by rw [Bool.and_eq_true, Bool.and_eq_true]; exact ⟨h1, h2, h3⟩)]
/-- a found day by its first pair -/
theorem bs_cases {R : List (Nat × Nat)} (hS : In14 14 S) (h : bs best N F (f + 1) S e = some R) : (S = 0 ∧ R = []) ∨ (¬ S = 0 ∧ ∃ b R', lo S < b ∧ b < 14 ∧ lo S < 14 ∧ bt S (lo S) = true ∧ bt S b = true ∧ F (lo S) b = true ∧ bs best N F f (del S (lo S) b) (jE e (lo S) b) = some R' ∧ R = (lo S, b) :: R') := by
  by_cases c : S = 0
  · rw [bs_0 c] at h
    cases h
    exact Or.inl ⟨c, rfl⟩
  · rw [bs_s c] at h
    obtain ⟨k1, k2, k3⟩ := lo_ok c
    have k4 := hS _ k1 k2
    obtain ⟨b, h1, h2, h3⟩ := bl_some h
    refine Or.inr ⟨c, b, ?_⟩
    by_cases c2 : bt S b = true ∧ F (lo S) b = true ∧ okc best N S e (lo S) b = true
    · rw [bh_t c2.1 c2.2.1 c2.2.2] at h3
      cases c3 : bs best N F f (del S (lo S) b) (jE e (lo S) b) with
      | none => rw [c3] at h3; cases h3
      | some R' =>
        rw [c3] at h3
        cases h3
        exact ⟨R', by omega, by omega, k4, k2, c2.1, c2.2.1, rfl, rfl⟩
    · rw [bh_f c2] at h3; cases h3
end
section
variable {best : Bool} {N : Nat} {F : Nat → Nat → Bool}
theorem bs_in : ∀ (f : Nat) {S : Int32} {e : Nat → Nat → Nat} {R : List (Nat × Nat)}, In14 14 S → bs best N F f S e = some R → ∀ ab, ab ∈ R → (bt S ab.1 = true ∧ ab.1 < 14) ∧ bt S ab.2 = true ∧ ab.2 < 14
  | 0, S, e, R, _, h => by cases h
  | f + 1, S, e, R, hS, h => by
    intro ab hab
    rcases bs_cases hS h with ⟨c, rfl⟩ | ⟨c, b, R', hb1, hb2, hl, k1, k2, k3, k4, rfl⟩
    · cases hab
    · rcases List.mem_cons.mp hab with rfl | hab
      · exact ⟨⟨k1, hl⟩, k2, hb2⟩
      · have := bs_in f (hS.del (by omega) (by omega)) k4 ab hab
        rw [bt_del S (by omega) (by omega) (by omega), bt_del S (by omega) (by omega) (by omega), Bool.and_eq_true, Bool.and_eq_true] at this
        exact ⟨⟨this.1.1.1, this.1.2⟩, this.2.1.1, this.2.2⟩
theorem bs_W : ∀ (f : Nat) {S : Int32} {e : Nat → Nat → Nat} {R : List (Nat × Nat)}, In14 14 S → bs best N F f S e = some R → Wn F S ≠ 0
  | 0, S, e, R, _, h => by cases h
  | f + 1, S, e, R, hS, h => by
    rcases bs_cases hS h with ⟨rfl, rfl⟩ | ⟨c, b, R', hb1, hb2, hl, k1, k2, k3, k4, rfl⟩
    · rw [W_0]; omega
    · rw [W_rec F hS c, sfx_pos]
      refine ⟨b, by omega, by omega, ?_⟩
      rw [Wh_t k2 k3]
      exact bs_W f (hS.del (by omega) (by omega)) k4
theorem bs_ex : ∀ (f : Nat) {S : Int32} {e : Nat → Nat → Nat}, In14 14 S → cd S < 2 * f → Wn F S ≠ 0 → ∃ R, bs false N F f S e = some R
  | 0, S, e, _, h, _ => by omega
  | f + 1, S, e, hS, hc, h => by
    by_cases c : S = 0
    · exact ⟨[], bs_0 c⟩
    · obtain ⟨k1, k2, k3⟩ := lo_ok c
      have k4 := hS _ k1 k2
      cases c2 : bs false N F (f + 1) S e with
      | some R => exact ⟨R, rfl⟩
      | none =>
        exfalso
        rw [W_rec F hS c, sfx_pos] at h
        obtain ⟨b, h1, h2, h3⟩ := h
        rw [bs_s c] at c2
        have h4 := bl_no c2 b h1 h2
        by_cases c3 : bt S b = true ∧ F (lo S) b = true
        · rw [Wh_t c3.1 c3.2] at h3
          have hcd := cd_del k4 (show b < 14 by omega) (by omega) k2 c3.1
          obtain ⟨R', hR⟩ := bs_ex f (e := jE e (lo S) b) (hS.del (show lo S < 32 by omega) (show b < 32 by omega)) (by omega) h3
          rw [bh_t c3.1 c3.2 rfl, hR] at h4
          cases h4
        · exact h3 (Wh_f c3)
/-- what a found day is -/
theorem bs_day : ∀ (f : Nat) {S : Int32} {e : Nat → Nat → Nat} {R : List (Nat × Nat)}, In14 14 S → bs best N F f S e = some R → ∀ t, t < 14 → bt S t = true → (∃ ab, ab ∈ R ∧ (ab.1 = t ∨ ab.2 = t)) ∧ bt S (sOf R t) = true ∧ sOf R t < 14 ∧ sOf R t ≠ t ∧ sOf R (sOf R t) = t ∧ (F t (sOf R t) = true ∨ F (sOf R t) t = true)
  | 0, S, e, R, _, h => by cases h
  | f + 1, S, e, R, hS, h => by
    intro t ht hbt
    rcases bs_cases hS h with ⟨rfl, rfl⟩ | ⟨c, b, R', hb1, hb2, hl, k1, k2, k3, k4, rfl⟩
    · rw [b_0] at hbt; cases hbt
    · have ea : sOf ((lo S, b) :: R') (lo S) = b := by
        unfold sOf
        rw [if_pos rfl]
      have eb : sOf ((lo S, b) :: R') b = lo S := by
        unfold sOf
        rw [if_neg (show ¬ lo S = b by omega), if_pos rfl]
      have eo : ∀ x, x ≠ lo S → x ≠ b → sOf ((lo S, b) :: R') x = sOf R' x := fun x h1 h2 => by
        show (if lo S = x then b else if b = x then lo S else sOf R' x) = _
        rw [if_neg (fun h => h1 h.symm), if_neg (fun h => h2 h.symm)]
      by_cases c1 : t = lo S
      · rw [c1, ea, eb]
        exact ⟨⟨_, List.mem_cons_self .., Or.inl rfl⟩, k2, hb2, by omega, rfl, Or.inl k3⟩
      · by_cases c2 : t = b
        · rw [c2, eb, ea]
          exact ⟨⟨_, List.mem_cons_self .., Or.inr rfl⟩, k1, hl, by omega, rfl, Or.inr k3⟩
        · obtain ⟨⟨ab, q1, q2⟩, q3, q4, q5, q6, q7⟩ := bs_day f (hS.del (show lo S < 32 by omega) (show b < 32 by omega)) k4 t ht (by rw [bt_del S (by omega) (by omega) (by omega), hbt, decide_eq_false c1, decide_eq_false c2]; rfl)
          rw [bt_del S (by omega) (by omega) (by omega), Bool.and_eq_true, Bool.not_eq_true', Bool.or_eq_false_iff, decide_eq_false_iff_not, decide_eq_false_iff_not] at q3
          rw [eo t c1 c2, eo _ q3.2.1 q3.2.2]
          exact ⟨⟨ab, List.mem_cons_of_mem _ q1, q2⟩, q3.1, q4, q5, q6, q7⟩
end
theorem RowOk.cov {row : Nat → Int32} : ∀ {P : List (Nat × Nat)}, RowOk row P → ∀ a, (∃ ab, ab ∈ P ∧ (ab.1 = a ∨ ab.2 = a)) → row a = nI (sOf P a)
  | [], _, a, h => by obtain ⟨ab, h1, _⟩ := h; cases h1
  | xy :: P, hr, a, h => by
    unfold sOf
    by_cases c1 : xy.1 = a
    · rw [if_pos c1, ← c1]; exact (hr xy (List.mem_cons_self ..)).1
    · rw [if_neg c1]
      by_cases c2 : xy.2 = a
      · rw [if_pos c2, ← c2]; exact (hr xy (List.mem_cons_self ..)).2
      · rw [if_neg c2]
        obtain ⟨ab, h1, h2⟩ := h
        rcases List.mem_cons.mp h1 with rfl | h1
        · rcases h2 with h2 | h2
          · exact absurd h2 c1
          · exact absurd h2 c2
        · exact RowOk.cov (fun z hz => hr z (List.mem_cons_of_mem _ hz)) a ⟨ab, h1, h2⟩
/-- the seeking's answer: what the row is then -/
def BR (best : Bool) (N : Nat) (F : Nat → Nat → Bool) (f : Nat) (S : Int32) (e : Nat → Nat → Nat) (fo : Nat → Int32) (r : Int32) (fo' : Nat → Int32) : Prop := (bs best N F f S e = none ∧ r = 0 ∧ fo' = fo) ∨ ∃ R, bs best N F f S e = some R ∧ r = 1 ∧ RowOk fo' R ∧ ∀ x, x < 14 → bt S x = false → fo' x = fo x
def MemoZ (q : Nat) (F : Nat → Nat → Bool) (st : Nat → Int32) : Prop := ∀ (S : Int32) (s : Nat), In14 14 S → bt S 0 = false → cd S % 2 = 0 → s < 4096 → (∀ i, i < 12 → bt (nI s) i = bt S (i + 1)) → st s = nI q → Wn F S = 0
section
variable {T N : Nat} {g : Nat → Nat → Nat} {te da : Int32} {ro no : Nat → Int32} {F : Nat → Nat → Bool} {free : Nat → Int32} {q : Nat}
theorem row_pair {best : Bool} {f : Nat} {S : Int32} {e : Nat → Nat → Nat} {R' : List (Nat × Nat)} {fo fo1 : Nat → Int32} {b : Nat} (hS : In14 14 S) (hl : lo S < b) (hb : b < 14) (h1 : bt S (lo S) = true) (h2 : bt S b = true) (hR : bs best N F f (del S (lo S) b) e = some R') (hr : RowOk fo1 R') (ho : ∀ x, x < 14 → bt (del S (lo S) b) x = false → fo1 x = fo x) : RowOk (upd (upd fo1 (lo S) (nI b)) b (nI (lo S))) ((lo S, b) :: R') ∧ ∀ x, x < 14 → bt S x = false → upd (upd fo1 (lo S) (nI b)) b (nI (lo S)) x = fo x := by
  refine ⟨hr.cons (by omega) (fun ab hab => ?_), fun x hx hx2 => ?_⟩
  · have := bs_in f (hS.del (show lo S < 32 by omega) (show b < 32 by omega)) hR ab hab
    rw [bt_del S (by omega) (by omega) (by omega), bt_del S (by omega) (by omega) (by omega), Bool.and_eq_true, Bool.and_eq_true, Bool.not_eq_true', Bool.or_eq_false_iff, decide_eq_false_iff_not, decide_eq_false_iff_not, Bool.not_eq_true', Bool.or_eq_false_iff, decide_eq_false_iff_not, decide_eq_false_iff_not] at this
    exact ⟨this.1.1.2, this.2.1.2⟩
  · rw [upd_ne _ _ (fun h => by rw [h, h2] at hx2; cases hx2), upd_ne _ _ (fun h => by rw [h, h1] at hx2; cases hx2)]
    exact ho x hx (by rw [bt_del S (by omega) (by omega) (by omega), hx2]; rfl)
theorem x2floop (hT : T ≤ 14) (hF : FreeR T F free) (f : Nat) (self_ : (Nat → Int32) × (Nat → Int32) × Int32 × Int32 → Option (Int32 × (Nat → Int32) × (Nat → Int32))) {S : Int32} (hS : In14 T S) (c : ¬ S = 0) (p2 : Int32) (e : Nat → Nat → Nat)
    (ih : ∀ (b : Nat) (fo st : Nat → Int32), lo S < b → b < 14 → bt S b = true → MemoZ q F st → StL q st → ∃ r : Int32 × (Nat → Int32) × (Nat → Int32), self_ (fo, st, del S (lo S) b, nI (lo S + 1)) = some r ∧ StL q r.2.2 ∧ BR false N F f (del S (lo S) b) (jE e (lo S) b) fo r.1 r.2.1 ∧ (r.1 = 0 → MemoZ q F r.2.2)) (fo st : Nat → Int32) (hM : MemoZ q F st) (hL : StL q st) :
    ∃ r : Int32 × (Nat → Int32) × (Nat → Int32), lp (f_X2_firstFrom_L51 self_ (nI q) free S p2 (nI (lo S)) (free (lo S) &&& S)) 20000 (nI (lo S + 1), fo, st) = some r ∧ StL q r.2.2 ∧ BR false N F (f + 1) S e fo r.1 r.2.1 ∧ (r.1 = 0 → ∃ s st', s < 4096 ∧ (∀ i, i < 12 → bt (nI s) i = bt S (i + 1)) ∧ MemoZ q F st' ∧ r.2.2 = upd st' s (nI q)) := by
  obtain ⟨k1, k2, k3⟩ := lo_ok c
  have k4 := hS _ k1 k2
  refine lp_ex (I := fun x => ∃ (b : Nat) (st : Nat → Int32), lo S < b ∧ b ≤ 14 ∧ x = (nI b, fo, st) ∧ bl (bh false N F (bs false N F f) S e) b (14 - b) = bs false N F (f + 1) S e ∧ MemoZ q F st ∧ StL q st) (ms := fun x => 14 - x.1.toNatClampNeg) (Post := fun r : Int32 × (Nat → Int32) × (Nat → Int32) => StL q r.2.2 ∧ BR false N F (f + 1) S e fo r.1 r.2.1 ∧ (r.1 = 0 → ∃ s st', s < 4096 ∧ (∀ i, i < 12 → bt (nI s) i = bt S (i + 1)) ∧ MemoZ q F st' ∧ r.2.2 = upd st' s (nI q))) ?_ 20000 _ ⟨lo S + 1, st, by omega, by omega, rfl, by rw [bs_s c, show 14 - (lo S + 1) = 13 - lo S by omega], hM, hL⟩ (by show 14 - _ < _; omega)
  rintro x ⟨b, st, hb1, hb, rfl, hbl, hM, hL⟩ self hself
  unfold f_X2_firstFrom_L51
  dsimp only
  by_cases c1 : b = 14
  · subst c1
    obtain ⟨s, hs, es, hbs⟩ := x2slot S
    rw [if_pos (by decide), es, Option.bind_some, if_pos (inb_ok hs (by omega)), bd_eq, nI_clamp (by omega)]
    exact ⟨_, rfl, hL.up s, Or.inl ⟨hbl.symm, rfl, rfl⟩, fun _ => ⟨s, st, hs, hbs, hM, rfl⟩⟩
  · have hb14 : b < 14 := by omega
    have hms : 14 - (nI (b + 1)).toNatClampNeg < 14 - (nI b).toNatClampNeg := by rw [nI_clamp (by omega), nI_clamp (by omega)]; omega
    rw [show 14 - b = (14 - (b + 1)) + 1 by omega] at hbl
    rw [if_neg (show ¬ (14 : Int32) ≤ nI b from nI_ge (b := 14) (by omega) (by omega)), bitI _ b (by omega), b_and, hF (lo S) b k4 hb14]
    by_cases c2 : bt S b = true ∧ F (lo S) b = true
    · obtain ⟨⟨r0, fo1, st1⟩, e1, h1, h2, h3⟩ := ih b fo st hb1 hb14 c2.1 hM hL
      dsimp only at h1 h2 h3
      rw [c2.1, c2.2, if_pos (show (if (true && true) = true then (1 : Int32) else 0) = 1 from rfl)]
      unfold del at e1
      rw [nI_1, e1, Option.bind_some]
      dsimp only
      have eh := bh_t (best := false) (N := N) (F := F) (rec := bs false N F f) (e := e) c2.1 c2.2 rfl
      rcases h2 with ⟨j1, rfl, rfl⟩ | ⟨R', j1, rfl, j3, j4⟩
      · rw [if_pos zer0, bd_eq, nI_1]
        refine hself _ ⟨b + 1, st1, by omega, by omega, rfl, ?_, h3 rfl, h1⟩ hms
        rw [← hbl, bl_none (by rw [eh, j1]; rfl)]
      · obtain ⟨w1, w2⟩ := row_pair (hS.mono hT) hb1 hb14 k2 c2.1 j1 j3 j4
        rw [if_neg one0, if_pos (inb_ok (by omega) (by omega)), bd_eq, if_pos (inb_ok (by omega) (by omega)), bd_eq, nI_clamp (by omega), nI_clamp (by omega)]
        refine ⟨_, rfl, h1, Or.inr ⟨(lo S, b) :: R', ?_, rfl, w1, w2⟩, fun h => absurd h one0⟩
        rw [← hbl, bl_hit (by rw [eh, j1]; rfl)]
    · rw [if_neg (by
        cases h1 : bt S b <;> cases h2 : F (lo S) b
        · decide
        · decide
        · decide
        · exact absurd ⟨h1, h2⟩ c2), bd_eq, nI_1]
      refine hself _ ⟨b + 1, st, by omega, by omega, rfl, ?_, hM, hL⟩ hms
      rw [← hbl, bl_none (bh_f (fun h => c2 ⟨h.1, h.2.1⟩))]
theorem BR.nay {f : Nat} {S : Int32} {e : Nat → Nat → Nat} {fo fo' : Nat → Int32} {r : Int32} (hS : In14 14 S) (hc : cd S < 2 * f) (h : BR false N F f S e fo r fo') (h0 : r = 0) : Wn F S = 0 := by
  rcases h with ⟨h1, h2, h3⟩ | ⟨R, h1, h2, h3⟩
  · by_cases c : Wn F S = 0
    · exact c
    · obtain ⟨R, hR⟩ := bs_ex (N := N) f (e := e) hS hc c
      rw [h1] at hR; cases hR
  · rw [h2] at h0; exact absurd h0 one0
theorem x2first (hT : T ≤ 14) (hF : FreeR T F free) : ∀ (f : Nat) (S : Int32) (fr : Nat) (fo st : Nat → Int32) (e : Nat → Nat → Nat), cd S < 2 * f → In14 T S → cd S % 2 = 0 → 1 ≤ fr → (∀ j, j < fr → bt S j = false) → MemoZ q F st → StL q st →
    ∃ r : Int32 × (Nat → Int32) × (Nat → Int32), lp (f_X2_firstFrom_B (nI q) free) f (fo, st, S, nI fr) = some r ∧ StL q r.2.2 ∧ BR false N F f S e fo r.1 r.2.1 ∧ (r.1 = 0 → MemoZ q F r.2.2) := by
  intro f
  induction f with
  | zero => intros; omega
  | succ f ih =>
    intro S fr fo st e hlen hS he hfr hlow hM hL
    show ∃ r, f_X2_firstFrom_B (nI q) free (lp (f_X2_firstFrom_B (nI q) free) f) _ = some r ∧ _
    generalize lp (f_X2_firstFrom_B (nI q) free) f = self_ at ih ⊢
    unfold f_X2_firstFrom_B
    dsimp only
    by_cases c : S = 0
    · rw [if_pos c]
      exact ⟨_, rfl, hL, Or.inr ⟨[], bs_0 c, rfl, fun ab h => absurd h List.not_mem_nil, fun _ _ _ => rfl⟩, fun h => absurd h one0⟩
    · obtain ⟨k1, k2, k3⟩ := lo_ok c
      have k4 := hS _ k1 k2
      have hfl : fr ≤ lo S := by
        rcases Nat.lt_or_ge (lo S) fr with h | h
        · rw [hlow _ h] at k2; cases k2
        · exact h
      obtain ⟨s, hs, es, hb⟩ := x2slot S
      rw [if_neg c, x2low c (hS.mono hT) hfl, Option.bind_some, if_neg (show ¬ (14 : Int32) ≤ nI (lo S) from nI_ge (b := 14) (by omega) (by omega)), es, Option.bind_some, if_pos (inb_ok hs (by omega))]
      have ec : (nI s).toNatClampNeg = s := nI_clamp (by omega)
      by_cases c1 : st s = nI q
      · rw [if_pos (by rw [ec]; exact c1)]
        have hz := hM S s (hS.mono hT) (hlow 0 (by omega)) he hs hb c1
        refine ⟨_, rfl, hL, Or.inl ⟨?_, rfl, rfl⟩, fun _ => hM⟩
        cases cb : bs false N F (f + 1) S e with
        | none => rfl
        | some R => exact absurd hz (bs_W (f + 1) (hS.mono hT) cb)
      · rw [if_neg (by rw [ec]; exact c1), if_pos (inb_ok (by omega) (by omega)), bd_eq, bd_eq, nI_1, nI_clamp (by omega)]
        obtain ⟨r, e1, h1, h2, h3⟩ := x2floop (N := N) hT hF f self_ hS c (nI fr) e (fun b fo st hb1 hb2 hb3 hM hL => by
          have hcd := cd_del (show lo S < 14 by omega) hb2 (by omega) k2 hb3
          refine ih (del S (lo S) b) (lo S + 1) fo st _ (by omega) (hS.del (by omega) (by omega)) (by omega) (by omega) (fun j hj => ?_) hM hL
          rw [bt_del S (by omega) (by omega) (by omega)]
          by_cases c3 : j = lo S
          · rw [decide_eq_true c3]
            cases bt S j <;> rfl
          · rw [k3 j (by omega)]
            rfl) fo st hM hL
        refine ⟨r, e1, h1, h2, fun h0 => ?_⟩
        obtain ⟨s', st', hs', hb', hM', e2⟩ := h3 h0
        rw [e2]
        intro S' s2 hS' h0' he' hs2 hb2 hst
        by_cases c3 : s2 = s'
        · subst c3
          rw [← slot_inj (hS.mono hT) hS' (hlow 0 (by omega)) h0' he he' (fun i hi => by rw [← hb' i hi, hb2 i hi])]
          exact h2.nay (hS.mono hT) hlen h0
        · rw [upd_ne _ _ c3] at hst
          exact hM' S' s2 hS' h0' he' hs2 hb2 hst
theorem x2first0 (hT : T ≤ 14) (h0 : 0 < T) (he : T % 2 = 0) (hq : q + 1 < 2 ^ 31) (hF : FreeR T F free) (fo st : Nat → Int32) (e : Nat → Nat → Nat) (hL : StL q st) : ∃ r : Int32 × (Nat → Int32) × (Nat → Int32), f_X2_firstFrom (nI (q + 1)) free 9 (fo, st, ((1 : Int32) <<< (nI T &&& 31)) - 1, 0) = some r ∧ StL (q + 1) r.2.2 ∧ BR false N F 9 (((1 : Int32) <<< (nI T &&& 31)) - 1) e fo r.1 r.2.1 := by
  have hne := all_ne hT h0
  have hin := all_in hT
  have hlo := all_lo hT h0
  have hcd := all_cd hT
  generalize ((1 : Int32) <<< (nI T &&& 31)) - 1 = S at hne hin hlo hcd ⊢
  have hL1 : StL (q + 1) st := fun i hi => by
    obtain ⟨j, h1, h2⟩ := hL i hi
    exact ⟨j, by omega, h2⟩
  have hno : ∀ s, s < 4096 → ¬ st s = nI (q + 1) := fun s hs h => by
    obtain ⟨j, h1, h2⟩ := hL s hs
    rw [h2] at h
    have := (nI_eq (by omega) (by omega)).mp h
    omega
  have hM0 : MemoZ (q + 1) F st := fun S s _ _ _ hs _ h => absurd h (hno s hs)
  obtain ⟨k1, k2, k3⟩ := lo_ok hne
  unfold f_X2_firstFrom
  show ∃ r, f_X2_firstFrom_B (nI (q + 1)) free (lp (f_X2_firstFrom_B (nI (q + 1)) free) 8) _ = some r ∧ _
  have ih := x2first (N := N) (q := q + 1) hT hF 8
  generalize lp (f_X2_firstFrom_B (nI (q + 1)) free) 8 = self_ at ih ⊢
  unfold f_X2_firstFrom_B
  dsimp only
  obtain ⟨s, hs, es, hb⟩ := x2slot S
  have ec : (nI s).toNatClampNeg = s := nI_clamp (by omega)
  have el : f_X2_lowest S 0 = some (nI (lo S)) := x2low (fr := 0) hne (hin.mono hT) (by omega)
  rw [if_neg hne, el, Option.bind_some, if_neg (show ¬ (14 : Int32) ≤ nI (lo S) from nI_ge (b := 14) (by omega) (by omega)), es, Option.bind_some, if_pos (inb_ok hs (by omega)), if_neg (by rw [ec]; exact hno s hs), if_pos (inb_ok (by omega) (by omega)), bd_eq, bd_eq, nI_1, nI_clamp (by omega)]
  obtain ⟨r, e1, h1, h2, h3⟩ := x2floop (N := N) hT hF 8 self_ hin hne 0 e (fun b fo st hb1 hb2 hb3 hM hL => by
    have hcd2 := cd_del (show lo S < 14 by omega) hb2 (by omega) k2 hb3
    refine ih (del S (lo S) b) (lo S + 1) fo st _ (by omega) (hin.del (by omega) (by omega)) (by omega) (by omega) (fun j hj => ?_) hM hL
    rw [bt_del S (by omega) (by omega) (by omega), show j = lo S by omega, decide_eq_true rfl]
    cases bt S (lo S) <;> rfl) fo st hM0 hL1
  exact ⟨r, e1, h1, h2⟩
end
