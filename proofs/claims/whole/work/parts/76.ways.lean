/-! OURS: how many days of a set of teams: the sum over the partners of the least -/
def sfx (h : Nat → Nat) : Nat → Nat → Nat
  | _, 0 => 0
  | b, k + 1 => h b + sfx h (b + 1) k
theorem sfx_congr (h h' : Nat → Nat) : ∀ (k b : Nat), (∀ i, b ≤ i → i < b + k → h i = h' i) → sfx h b k = sfx h' b k
  | 0, _, _ => rfl
  | k + 1, b, e => by
    show h b + sfx h (b + 1) k = h' b + sfx h' (b + 1) k
    rw [e b (by omega) (by omega), sfx_congr h h' k (b + 1) (fun i h1 h2 => e i (by omega) (by omega))]
theorem sfx_0 (h : Nat → Nat) : ∀ (k b : Nat), (∀ i, b ≤ i → i < b + k → h i = 0) → sfx h b k = 0
  | 0, _, _ => rfl
  | k + 1, b, e => by
    show h b + sfx h (b + 1) k = 0
    rw [e b (by omega) (by omega), sfx_0 h k (b + 1) (fun i h1 h2 => e i (by omega) (by omega))]
theorem sfx_le (h : Nat → Nat) (M : Nat) : ∀ (k b : Nat), (∀ i, b ≤ i → i < b + k → h i ≤ M) → sfx h b k ≤ k * M
  | 0, _, _ => by show 0 ≤ 0 * M; omega
  | k + 1, b, e => by
    have h1 := e b (by omega) (by omega)
    have h2 := sfx_le h M k (b + 1) (fun i h1 h2 => e i (by omega) (by omega))
    show h b + sfx h (b + 1) k ≤ (k + 1) * M
    rw [Nat.add_mul, Nat.one_mul]
    omega
theorem sfx_pos (h : Nat → Nat) : ∀ (k b : Nat), sfx h b k ≠ 0 ↔ ∃ i, b ≤ i ∧ i < b + k ∧ h i ≠ 0
  | 0, b => ⟨fun h => absurd rfl h, fun ⟨i, h1, h2, _⟩ => by omega⟩
  | k + 1, b => by
    have ih := sfx_pos h k (b + 1)
    have e : sfx h b (k + 1) = h b + sfx h (b + 1) k := rfl
    rw [e]
    constructor
    · intro h1
      by_cases c : h b = 0
      · obtain ⟨i, h2, h3, h4⟩ := ih.mp (by omega)
        exact ⟨i, by omega, by omega, h4⟩
      · exact ⟨b, by omega, by omega, c⟩
    · rintro ⟨i, h2, h3, h4⟩
      by_cases c : i = b
      · subst c; omega
      · have := ih.mpr ⟨i, by omega, by omega, h4⟩
        omega
def loF (S : Int32) : Nat → Nat → Nat
  | 0, i => i
  | n + 1, i => if bt S i then i else loF S n (i + 1)
def lo (S : Int32) : Nat := loF S 32 0
theorem loF_spec (S : Int32) {l : Nat} (h1 : bt S l = true) (h2 : ∀ j, j < l → bt S j = false) : ∀ n i, i ≤ l → l < i + n → loF S n i = l
  | 0, i, _, h => by omega
  | n + 1, i, hi, h => by
    unfold loF
    by_cases c : i = l
    · subst c; rw [if_pos h1]
    · rw [h2 i (by omega), if_neg (by decide), loF_spec S h1 h2 n (i + 1) (by omega) (by omega)]
theorem lo_eq {S : Int32} {l : Nat} (hl : l < 32) (h1 : bt S l = true) (h2 : ∀ j, j < l → bt S j = false) : lo S = l := loF_spec S h1 h2 32 0 (by omega) (by omega)
theorem lo_ok {S : Int32} (h : ¬ S = 0) : lo S < 32 ∧ bt S (lo S) = true ∧ ∀ j, j < lo S → bt S j = false := by
  obtain ⟨l, h1, h2, h3⟩ := least_ex S h
  rw [lo_eq h1 h2 h3]
  exact ⟨h1, h2, h3⟩
def del (S : Int32) (a b : Nat) : Int32 := S &&& ((((1 : Int32) <<< (nI a &&& 31)) ||| ((1 : Int32) <<< (nI b &&& 31))) ^^^ (-1))
theorem bt_del (S : Int32) {a b i : Nat} (ha : a < 32) (hb : b < 32) (hi : i < 32) : bt (del S a b) i = (bt S i && !(decide (i = a) || decide (i = b))) := by
  unfold del
  rw [b_and, b_not _ hi, b_or, b_sh1 a ha hi, b_sh1 b hb hi]
/-- a set of teams below n -/
def In14 (n : Nat) (S : Int32) : Prop := ∀ i, i < 32 → bt S i = true → i < n
theorem In14.del {n : Nat} {S : Int32} (h : In14 n S) {a b : Nat} (ha : a < 32) (hb : b < 32) : In14 n (del S a b) := by
  intro i hi h2
  rw [bt_del S ha hb hi, Bool.and_eq_true] at h2
  exact h i hi h2.1
def cd (S : Int32) : Nat := pct 14 (bt S)
theorem cd_del {S : Int32} {a b : Nat} (ha : a < 14) (hb : b < 14) (hab : a ≠ b) (h1 : bt S a = true) (h2 : bt S b = true) : cd (del S a b) + 2 = cd S := by
  unfold cd
  rw [pct_del 14 (bt S) a ha h1, pct_del 14 (fun i => bt S i && !decide (i = a)) b hb (by rw [h2, decide_eq_false (fun h => hab h.symm)]; rfl)]
  rw [pct_congr 14 (bt (del S a b)) (fun i => (bt S i && !decide (i = a)) && !decide (i = b)) (fun i hi => by rw [bt_del S (by omega) (by omega) (by omega), Bool.not_or, Bool.and_assoc])]
theorem cd_max (S : Int32) : cd S ≤ 14 := pct_max _ _
def wy (F : Nat → Nat → Bool) : Nat → Int32 → Nat
  | 0, _ => 0
  | f + 1, S => if S = 0 then 1 else sfx (fun b => if bt S b && F (lo S) b then wy F f (del S (lo S) b) else 0) (lo S + 1) (13 - lo S)
theorem wy_st (F : Nat → Nat → Bool) : ∀ (f f' : Nat) (S : Int32), In14 14 S → cd S < 2 * f → cd S < 2 * f' → wy F f S = wy F f' S
  | 0, _, S, _, h, _ => by omega
  | _ + 1, 0, S, _, _, h => by omega
  | f + 1, f' + 1, S, hS, h1, h2 => by
    unfold wy
    by_cases c : S = 0
    · rw [if_pos c, if_pos c]
    · rw [if_neg c, if_neg c]
      obtain ⟨k1, k2, k3⟩ := lo_ok c
      have k4 := hS _ k1 k2
      refine sfx_congr _ _ _ _ (fun b hb1 hb2 => ?_)
      cases hb : bt S b && F (lo S) b with
      | false => rfl
      | true =>
        rw [Bool.and_eq_true] at hb
        have hc := cd_del k4 (show b < 14 by omega) (by omega) k2 hb.1
        exact wy_st F f f' _ (hS.del (by omega) (by omega)) (by omega) (by omega)
def Wn (F : Nat → Nat → Bool) (S : Int32) : Nat := wy F 8 S
def Wh (F : Nat → Nat → Bool) (S : Int32) (b : Nat) : Nat := if bt S b && F (lo S) b then Wn F (del S (lo S) b) else 0
theorem wy_s (F : Nat → Nat → Bool) (f : Nat) (S : Int32) : wy F (f + 1) S = if S = 0 then 1 else sfx (fun b => if bt S b && F (lo S) b then wy F f (del S (lo S) b) else 0) (lo S + 1) (13 - lo S) := rfl
theorem Wn_eq (F : Nat → Nat → Bool) (S : Int32) : Wn F S = wy F (7 + 1) S := rfl
theorem W_0 (F : Nat → Nat → Bool) : Wn F 0 = 1 := by
  rw [Wn_eq, wy_s, if_pos rfl]
theorem W_rec (F : Nat → Nat → Bool) {S : Int32} (hS : In14 14 S) (c : ¬ S = 0) : Wn F S = sfx (Wh F S) (lo S + 1) (13 - lo S) := by
  obtain ⟨k1, k2, k3⟩ := lo_ok c
  have k4 := hS _ k1 k2
  rw [Wn_eq, wy_s, if_neg c]
  refine sfx_congr _ _ _ _ (fun b hb1 hb2 => ?_)
  unfold Wh
  by_cases hb : (bt S b && F (lo S) b) = true
  · rw [if_pos hb, if_pos hb, Wn_eq]
    rw [Bool.and_eq_true] at hb
    have hc := cd_del k4 (show b < 14 by omega) (by omega) k2 hb.1
    have hm := cd_max S
    exact wy_st F 7 (7 + 1) _ (hS.del (by omega) (by omega)) (by omega) (by omega)
  · rw [if_neg hb, if_neg hb]
theorem wy_le (F : Nat → Nat → Bool) : ∀ (f : Nat) (S : Int32), wy F f S ≤ 14 ^ f
  | 0, _ => by show 0 ≤ 1; omega
  | f + 1, S => by
    unfold wy
    by_cases c : S = 0
    · rw [if_pos c]; exact Nat.one_le_pow _ _ (by omega)
    · rw [if_neg c]
      refine Nat.le_trans (sfx_le _ (14 ^ f) _ _ (fun b _ _ => ?_)) ?_
      · cases bt S b && F (lo S) b with
        | false => exact Nat.zero_le _
        | true => exact wy_le F f _
      · rw [Nat.pow_succ, Nat.mul_comm]
        exact Nat.mul_le_mul_left _ (by omega)
theorem W_lt (F : Nat → Nat → Bool) (S : Int32) : Wn F S < 2 ^ 31 := by
  rw [Wn_eq]
  exact Nat.lt_of_le_of_lt (wy_le F (7 + 1) S) (by decide)
theorem mask_and (n : Nat) (y : Int32) : ∃ k, k ≤ n ∧ nI n &&& y = nI k := by
  refine ⟨n &&& y.toBitVec.toNat, Nat.and_le_left, ?_⟩
  rw [← nx_and]
  congr 1
  show y = Int32.ofNat y.toBitVec.toNat
  apply Int32.toBitVec_inj.1
  show _ = BitVec.ofNat 32 y.toBitVec.toNat
  rw [BitVec.ofNat_toNat, BitVec.setWidth_eq]
theorem b_4095 : ∀ i, i < 32 → bt 4095 i = decide (i < 12) := by decide +kernel
theorem x2slot (S : Int32) : ∃ s, s < 4096 ∧ f_X2_slot S = some (nI s) ∧ ∀ i, i < 12 → bt (nI s) i = bt S (i + 1) := by
  unfold f_X2_slot
  obtain ⟨k, hk, e⟩ := mask_and 4095 (S >>> ((1 : Int32) &&& 31))
  refine ⟨k, by omega, ?_, fun i hi => ?_⟩
  · rw [← e, Int32.and_comm]; rfl
  · rw [← e, b_and, show nI 4095 = 4095 from rfl, b_4095 i (by omega), decide_eq_true hi, show (1 : Int32) = nI 1 from rfl, b_sshr 1 (by omega) S (by omega), if_pos (by omega), Nat.add_comm]
    rfl
/-- even sets without team 0 have places of their own -/
theorem slot_inj {S S' : Int32} (hS : In14 14 S) (hS' : In14 14 S') (h0 : bt S 0 = false) (h0' : bt S' 0 = false) (he : cd S % 2 = 0) (he' : cd S' % 2 = 0) (h : ∀ i, i < 12 → bt S (i + 1) = bt S' (i + 1)) : S = S' := by
  have h1 : ∀ i, i < 13 → bt S i = bt S' i := by
    intro i hi
    cases i with
    | zero => rw [h0, h0']
    | succ i => exact h i (by omega)
  have h2 := pct_congr 13 (bt S) (bt S') h1
  have e1 : cd S = pct 13 (bt S) + if bt S 13 then 1 else 0 := rfl
  have e2 : cd S' = pct 13 (bt S') + if bt S' 13 then 1 else 0 := rfl
  have h3 : bt S 13 = bt S' 13 := by
    cases c : bt S 13 <;> cases c' : bt S' 13
    · rfl
    · rw [c] at e1; rw [c'] at e2
      rw [if_neg (by decide)] at e1; rw [if_pos rfl] at e2; omega
    · rw [c] at e1; rw [c'] at e2
      rw [if_pos rfl] at e1; rw [if_neg (by decide)] at e2; omega
    · rfl
  refine b_ext (fun i hi => ?_)
  by_cases c : i < 13
  · exact h1 i c
  · by_cases c2 : i = 13
    · rw [c2]; exact h3
    · cases b1 : bt S i with
      | true => exact absurd (hS i hi b1) (by omega)
      | false =>
        cases b2 : bt S' i with
        | true => exact absurd (hS' i hi b2) (by omega)
        | false => rfl
theorem x2low {S : Int32} (c : ¬ S = 0) (hS : In14 14 S) {fr : Nat} (h : fr ≤ lo S) : f_X2_lowest S (nI fr) = some (nI (lo S)) := by
  obtain ⟨k1, k2, k3⟩ := lo_ok c
  have k4 := hS _ k1 k2
  unfold f_X2_lowest
  refine lp_spec (I := fun x => ∃ t, t ≤ lo S ∧ x = nI t) (ms := fun x => 14 - x.toNatClampNeg) (res := fun _ => some (nI (lo S))) ?_ 20000 _ ⟨fr, h, rfl⟩ (by show 14 - _ < _; omega)
  rintro x ⟨t, ht, rfl⟩ self hself
  show (if (14 : Int32) ≤ nI t then _ else _) = _
  rw [if_neg (show ¬ (14 : Int32) ≤ nI t from nI_ge (b := 14) (by omega) (by omega))]
  by_cases e : t = lo S
  · rw [if_neg (by rw [bitI S t (by omega), e, k2]; decide), e]
  · rw [if_pos (by rw [bitI S t (by omega), k3 t (by omega)]; rfl), bd_eq, nI_1]
    exact hself _ ⟨t + 1, by omega, rfl⟩ (by show 14 - (nI (t + 1)).toNatClampNeg < 14 - (nI t).toNatClampNeg; rw [nI_clamp (by omega), nI_clamp (by omega)]; omega)
