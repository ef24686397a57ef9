/-! OURS: sure -/
def Fx (F : Nat → Nat → Bool) (t o a b : Nat) : Bool := F a b && !((decide (a = t) && decide (b = o)) || (decide (a = o) && decide (b = t)))
theorem Fx_t {F : Nat → Nat → Bool} {t o a b : Nat} (h1 : ¬ (a = t ∧ b = o)) (h2 : ¬ (a = o ∧ b = t)) : Fx F t o a b = F a b := by
  unfold Fx
  have e1 : (decide (a = t) && decide (b = o)) = false := by
    rw [← Bool.not_eq_true, Bool.and_eq_true, decide_eq_true_iff, decide_eq_true_iff]; exact h1
  have e2 : (decide (a = o) && decide (b = t)) = false := by
    rw [← Bool.not_eq_true, Bool.and_eq_true, decide_eq_true_iff, decide_eq_true_iff]; exact h2
  rw [e1, e2]
  cases F a b <;> rfl
theorem Fx_f {F : Nat → Nat → Bool} {t o a b : Nat} (h : (a = t ∧ b = o) ∨ (a = o ∧ b = t)) : Fx F t o a b = false := by
  unfold Fx
  rcases h with ⟨rfl, rfl⟩ | ⟨rfl, rfl⟩
  · rw [decide_eq_true rfl, decide_eq_true rfl]; cases F a b <;> rfl
  · rw [decide_eq_true (rfl : a = a), decide_eq_true (rfl : b = b)]; cases F a b <;> cases decide (a = b) <;> cases decide (b = a) <;> rfl
theorem wy_agree (F F' : Nat → Nat → Bool) : ∀ (f : Nat) (S : Int32), In14 14 S → (∀ a b, a < 14 → b < 14 → bt S a = true → bt S b = true → F a b = F' a b) → wy F f S = wy F' f S
  | 0, _, _, _ => rfl
  | f + 1, S, hS, h => by
    rw [wy_s, wy_s]
    by_cases c : S = 0
    · rw [if_pos c, if_pos c]
    · rw [if_neg c, if_neg c]
      obtain ⟨k1, k2, k3⟩ := lo_ok c
      have k4 := hS _ k1 k2
      refine sfx_congr _ _ _ _ (fun b hb1 hb2 => ?_)
      by_cases cb : bt S b = true
      · rw [h (lo S) b k4 (by omega) k2 cb]
        by_cases cc : (bt S b && F' (lo S) b) = true
        · rw [if_pos cc, if_pos cc]
          refine wy_agree F F' f _ (hS.del (by omega) (by omega)) (fun x y hx hy hx2 hy2 => ?_)
          exact h x y hx hy (bt_del_in k4 (by omega) hx hx2).1 (bt_del_in k4 (by omega) hy hy2).1
        · rw [if_neg cc, if_neg cc]
      · rw [if_neg (by rw [Bool.and_eq_true]; exact fun h => cb h.1), if_neg (by rw [Bool.and_eq_true]; exact fun h => cb h.1)]
theorem W_agree {F F' : Nat → Nat → Bool} {S : Int32} (hS : In14 14 S) (h : ∀ a b, a < 14 → b < 14 → bt S a = true → bt S b = true → F a b = F' a b) : Wn F S = Wn F' S := by
  rw [Wn_eq, Wn_eq]
  exact wy_agree F F' _ S hS h
theorem sfx_add (h h' : Nat → Nat) : ∀ (k b : Nat), sfx (fun i => h i + h' i) b k = sfx h b k + sfx h' b k
  | 0, _ => rfl
  | k + 1, b => by
    show (h b + h' b) + sfx (fun i => h i + h' i) (b + 1) k = (h b + sfx h (b + 1) k) + (h' b + sfx h' (b + 1) k)
    rw [sfx_add h h' k (b + 1)]; omega
theorem sfx_one (c o : Nat) : ∀ (k b : Nat), b ≤ o → o < b + k → sfx (fun i => if i = o then c else 0) b k = c
  | 0, b, _, _ => by omega
  | k + 1, b, h1, h2 => by
    show (if b = o then c else 0) + sfx (fun i => if i = o then c else 0) (b + 1) k = c
    by_cases e : b = o
    · rw [if_pos e, sfx_0 _ k (b + 1) (fun i h3 h4 => if_neg (by omega))]
      rfl
    · rw [if_neg e, sfx_one c o k (b + 1) (by omega) (by omega)]; omega
theorem del_swap (S : Int32) {a b : Nat} : del S a b = del S b a := by
  unfold del
  rw [Int32.or_comm]
theorem del_comm (S : Int32) {a b t o : Nat} (ha : a < 32) (hb : b < 32) (ht : t < 32) (ho : o < 32) : del (del S a b) t o = del (del S t o) a b := by
  refine b_ext (fun i hi => ?_)
  rw [bt_del _ ht ho hi, bt_del _ ha hb hi, bt_del _ ha hb hi, bt_del _ ht ho hi]
  cases bt S i <;> cases (decide (i = a) || decide (i = b)) <;> cases (decide (i = t) || decide (i = o)) <;> rfl
theorem W_edge (F : Nat → Nat → Bool) {t o : Nat} (ht : t < 14) (ho : o < 14) (hto : t ≠ o) (h1 : F t o = true) (h2 : F o t = true) : ∀ (n : Nat) (S : Int32), cd S ≤ n → In14 14 S → bt S t = true → bt S o = true → Wn F S = Wn (Fx F t o) S + Wn F (del S t o) := by
  intro n
  induction n with
  | zero =>
    intro S hn hS hbt hbo
    have := cd_del ht ho hto hbt hbo
    omega
  | succ n ih =>
    intro S hn hS hbt hbo
    have c : ¬ S = 0 := fun h => by rw [h, b_0] at hbt; cases hbt
    obtain ⟨k1, k2, k3⟩ := lo_ok c
    have k4 := hS _ k1 k2
    have hlt : lo S ≤ t := by
      rcases Nat.lt_or_ge t (lo S) with h | h
      · rw [k3 t h] at hbt; cases hbt
      · exact h
    have hlo : lo S ≤ o := by
      rcases Nat.lt_or_ge o (lo S) with h | h
      · rw [k3 o h] at hbo; cases hbo
      · exact h
    have hag : ∀ x y, x < 14 → y < 14 → (x = t ∨ x = o ∨ y = t ∨ y = o) → x ≠ y → Wn F (del S x y) = Wn (Fx F t o) (del S x y) := by
      intro x y hx hy hxy hne
      refine W_agree (hS.del (by omega) (by omega)) (fun a b ha hb ha2 hb2 => (Fx_t (fun h => ?_) (fun h => ?_)).symm)
      · have q1 := bt_del_in hx hy ha ha2
        have q2 := bt_del_in hx hy hb hb2
        rcases hxy with e | e | e | e
        · exact q1.2.1 (h.1.trans e.symm)
        · exact q2.2.1 (h.2.trans e.symm)
        · exact q1.2.2 (h.1.trans e.symm)
        · exact q2.2.2 (h.2.trans e.symm)
      · have q1 := bt_del_in hx hy ha ha2
        have q2 := bt_del_in hx hy hb hb2
        rcases hxy with e | e | e | e
        · exact q2.2.1 (h.2.trans e.symm)
        · exact q1.2.1 (h.1.trans e.symm)
        · exact q2.2.2 (h.2.trans e.symm)
        · exact q1.2.2 (h.1.trans e.symm)
    rw [W_rec F hS c, W_rec (Fx F t o) hS c]
    by_cases ca : lo S = t ∨ lo S = o
    · -- the least is one of the pair: x is the other one
      obtain ⟨x, hx14, hx1, hx2, hx3, hx4, hx5⟩ : ∃ x, x < 14 ∧ lo S < x ∧ bt S x = true ∧ F (lo S) x = true ∧ ((lo S = t ∧ x = o) ∨ (lo S = o ∧ x = t)) ∧ del S (lo S) x = del S t o := by
        rcases ca with e | e
        · exact ⟨o, ho, by omega, hbo, by rw [e]; exact h1, Or.inl ⟨e, rfl⟩, by rw [e]⟩
        · exact ⟨t, ht, by omega, hbt, by rw [e]; exact h2, Or.inr ⟨e, rfl⟩, by rw [e, del_swap]⟩
      rw [← sfx_one (Wn F (del S t o)) x (13 - lo S) (lo S + 1) (by omega) (by omega), ← sfx_add]
      refine sfx_congr _ _ _ _ (fun b hb1 hb2 => ?_)
      by_cases cb : b = x
      · subst cb
        rw [if_pos rfl, Wh_t hx2 hx3, Wh_f (fun h => by rw [Fx_f hx4] at h; cases h.2), hx5, Nat.zero_add]
      · rw [if_neg cb, Nat.add_zero]
        have hFx : Fx F t o (lo S) b = F (lo S) b := Fx_t (fun h => by rcases hx4 with e | e <;> omega) (fun h => by rcases hx4 with e | e <;> omega)
        by_cases cc : bt S b = true ∧ F (lo S) b = true
        · rw [Wh_t cc.1 cc.2, Wh_t cc.1 (by rw [hFx]; exact cc.2)]
          exact hag (lo S) b k4 (by omega) (by rcases ca with e | e <;> omega) (by omega)
        · rw [Wh_f cc, Wh_f (by rw [hFx]; exact cc)]
    · have hla : lo S ≠ t := fun h => ca (Or.inl h)
      have hlb : lo S ≠ o := fun h => ca (Or.inr h)
      have hbl : bt (del S t o) (lo S) = true := bt_del_mk ht ho k4 k2 hla hlb
      have c' : ¬ del S t o = 0 := fun h => by rw [h, b_0] at hbl; cases hbl
      have hlo' : lo (del S t o) = lo S := lo_eq k1 hbl (fun j hj => by rw [bt_del S (by omega) (by omega) (by omega), k3 j hj]; rfl)
      rw [W_rec F (hS.del (by omega) (by omega)) c', hlo', ← sfx_add]
      refine sfx_congr _ _ _ _ (fun b hb1 hb2 => ?_)
      have hFx : Fx F t o (lo S) b = F (lo S) b := Fx_t (fun h => hla h.1) (fun h => hlb h.1)
      by_cases cc : bt S b = true ∧ F (lo S) b = true
      · rw [Wh_t cc.1 cc.2, Wh_t cc.1 (by rw [hFx]; exact cc.2)]
        by_cases cb : b = t ∨ b = o
        · rw [Wh_f (fun h => by rw [bt_del_no ht ho (by omega) (Or.inr cb)] at h; cases h.1), Nat.add_zero]
          exact hag (lo S) b k4 (by omega) (by rcases cb with e | e <;> omega) (by omega)
        · have hcd := cd_del k4 (show b < 14 by omega) (by omega) k2 cc.1
          rw [Wh_t (by exact bt_del_mk ht ho (by omega) cc.1 (fun h => cb (Or.inl h)) (fun h => cb (Or.inr h))) (by rw [hlo']; exact cc.2), hlo', del_comm S (show t < 32 by omega) (show o < 32 by omega) (show lo S < 32 by omega) (show b < 32 by omega)]
          exact ih (del S (lo S) b) (by omega) (hS.del (by omega) (by omega)) (bt_del_mk k4 (by omega) ht hbt (fun h => hla h.symm) (fun h => cb (Or.inl h.symm))) (bt_del_mk k4 (by omega) ho hbo (fun h => hlb h.symm) (fun h => cb (Or.inr h.symm)))
      · rw [Wh_f cc, Wh_f (by rw [hFx]; exact cc), Wh_f (fun h => cc ⟨(bt_del_in ht ho (by omega) h.1).1, by rw [← hlo']; exact h.2⟩)]
/-- a found day without a pair is a way without it -/
theorem bs_Fx {best : Bool} {N : Nat} {F : Nat → Nat → Bool} {t o : Nat} (ht : t < 14) (ho : o < 14) (hto : t ≠ o) : ∀ (f : Nat) {S : Int32} {e : Nat → Nat → Nat} {R : List (Nat × Nat)}, In14 14 S → bs best N F f S e = some R → (bt S t = true → sOf R t ≠ o) → Wn (Fx F t o) S ≠ 0
  | 0, S, e, R, _, h, _ => by cases h
  | f + 1, S, e, R, hS, h, hn => by
    rcases bs_cases hS h with ⟨rfl, rfl⟩ | ⟨c, b, R', hb1, hb2, hl, k1, k2, k3, k4, rfl⟩
    · rw [W_0]; omega
    · have ea : sOf ((lo S, b) :: R') (lo S) = b := by
        unfold sOf
        rw [if_pos rfl]
      have eb : sOf ((lo S, b) :: R') b = lo S := by
        unfold sOf
        rw [if_neg (show ¬ lo S = b by omega), if_pos rfl]
      have eo : ∀ x, x ≠ lo S → x ≠ b → sOf ((lo S, b) :: R') x = sOf R' x := fun x h1 h2 => by
        show (if lo S = x then b else if b = x then lo S else sOf R' x) = _
        rw [if_neg (fun h => h1 h.symm), if_neg (fun h => h2 h.symm)]
      have hF : Fx F t o (lo S) b = true := by
        rw [Fx_t, k3]
        · rintro ⟨h1, h2⟩
          refine hn (by rw [← h1]; exact k1) ?_
          rw [← h1, ea, h2]
        · rintro ⟨h1, h2⟩
          refine hn (by rw [← h2]; exact k2) ?_
          rw [← h2, eb, h1]
      rw [W_rec _ hS c, sfx_pos]
      refine ⟨b, by omega, by omega, ?_⟩
      rw [Wh_t k2 hF]
      refine bs_Fx ht ho hto f (hS.del (by omega) (by omega)) k4 (fun hbt => ?_)
      obtain ⟨q1, q2, q3⟩ := bt_del_in hl hb2 ht hbt
      have := hn q1
      rw [eo t q2 q3] at this
      exact this
