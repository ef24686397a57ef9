/-! OURS: counts of pairs of days, signs -/
theorem lp_ex {σ ρ : Type} {b : (σ → Option ρ) → σ → Option ρ} (I : σ → Prop) (ms : σ → Nat) (Post : ρ → Prop) (step : ∀ x, I x → ∀ self : σ → Option ρ, (∀ y, I y → ms y < ms x → ∃ r, self y = some r ∧ Post r) → ∃ r, b self x = some r ∧ Post r) : ∀ (n : Nat) (x : σ), I x → ms x < n → ∃ r, lp b n x = some r ∧ Post r := by
  intro n
  induction n with
  | zero => intro x _ h; omega
  | succ n ih =>
    intro x hI h
    exact step x hI (lp b n) (fun y hy hlt => ih y hy (by omega))
/-- pairs a < b < n with q b a -/
def tri : Nat → (Nat → Nat → Bool) → Nat
  | 0, _ => 0
  | n + 1, q => tri n q + pct n (q n)
theorem tri_congr : ∀ (n : Nat) (p q : Nat → Nat → Bool), (∀ b a, a < b → b < n → p b a = q b a) → tri n p = tri n q
  | 0, _, _, _ => rfl
  | n + 1, p, q, h => by
    show tri n p + pct n (p n) = tri n q + pct n (q n)
    rw [tri_congr n p q (fun b a h1 h2 => h b a h1 (by omega)), pct_congr n (p n) (q n) (fun i hi => h n i hi (by omega))]
theorem pct_add (n : Nat) (p p' : Nat → Bool) (a : Nat) (ha : a < n) (h0 : p a = false) (h : ∀ i, i < n → p' i = (p i || decide (i = a))) : pct n p' = pct n p + 1 := by
  rw [pct_del n p' a ha (by rw [h a ha]; simp), pct_congr n (fun i => p' i && !decide (i = a)) p (fun i hi => ?_)]
  show (p' i && !decide (i = a)) = p i
  rw [h i hi]
  by_cases e : i = a
  · subst e; rw [h0]; simp
  · rw [decide_eq_false e]; simp
theorem tri_add : ∀ (n : Nat) (p p' : Nat → Nat → Bool) (b0 a0 : Nat), a0 < b0 → b0 < n → p b0 a0 = false → (∀ b a, a < b → b < n → p' b a = (p b a || (decide (b = b0) && decide (a = a0)))) → tri n p' = tri n p + 1
  | 0, _, _, _, _, _, h, _, _ => by omega
  | n + 1, p, p', b0, a0, h1, h2, h3, h4 => by
    show tri n p' + pct n (p' n) = tri n p + pct n (p n) + 1
    by_cases e : b0 = n
    · subst e
      rw [tri_congr b0 p' p (fun b a k1 k2 => by rw [h4 b a k1 (by omega), decide_eq_false (by omega : ¬ b = b0)]; simp), pct_add b0 (p b0) (p' b0) a0 h1 h3 (fun i hi => by rw [h4 b0 i hi (by omega)]; simp)]
      omega
    · rw [tri_add n p p' b0 a0 h1 (by omega) h3 (fun b a k1 k2 => h4 b a k1 (by omega)), pct_congr n (p' n) (p n) (fun i hi => by rw [h4 n i hi (by omega), decide_eq_false (fun h => e h.symm : ¬ n = b0)]; simp)]
      omega
theorem tri_le : ∀ (n : Nat) (p : Nat → Nat → Bool), tri n p ≤ n * n
  | 0, _ => Nat.le_refl _
  | n + 1, p => by
    show tri n p + pct n (p n) ≤ (n + 1) * (n + 1)
    have h1 := tri_le n p
    have h2 := pct_max n (p n)
    have h3 : (n + 1) * (n + 1) = n * n + 2 * n + 1 := by
      rw [Nat.add_mul, Nat.mul_add]; omega
    omega
section
variable {T N : Nat} {g : Nat → Nat → Nat} {te da : Int32} {ro no : Nat → Int32} {o : Nat}
/-- how many pairs of days make p rings -/
def mkN (T N : Nat) (g : Nat → Nat → Nat) (p : Int32) : Nat := tri N (fun b a => decide (nI (rc T g b a) = p))
theorem x9makes (hs : Sok T N g) (hX : PX te da ro T N g) (n0 : Nat) (hn0 : n0 < 2 ^ 31) (h184 : 184 ≤ n0) (hM : PM no 0 T N g) (p : Int32) : f_X9_makes n0 no p = some (nI (mkN T N g p)) := by
  have hN := hs.N13
  unfold f_X9_makes
  refine lp_spec (I := fun x => ∃ d, d ≤ N ∧ x = (nI (tri d (fun b a => decide (nI (rc T g b a) = p))), nI d)) (ms := fun x => N - x.2.toNatClampNeg) (res := fun _ => some (nI (mkN T N g p))) ?_ 20000 _ ⟨0, by omega, rfl⟩ (by show N - _ < _; omega)
  rintro x ⟨d, hd, rfl⟩ self hself
  show (if inb (1 : Int32) n0 then if no (1 : Int32).toNatClampNeg ≤ nI d then _ else _ else none) = _
  rw [if_pos (show inb 1 n0 from inb_ok (a := 1) (by omega) hn0), show no (1 : Int32).toNatClampNeg = nI N from hM.2.1]
  by_cases c : N ≤ d
  · rw [if_pos ((nI_leI (by omega) (by omega)).mpr c), show d = N by omega]
    rfl
  · rw [if_neg (nI_ge (by omega) (by omega))]
    refine lp_spec (I := fun x => ∃ e, e ≤ d ∧ x = (nI (tri d (fun b a => decide (nI (rc T g b a) = p)) + pct e (fun a => decide (nI (rc T g d a) = p))), nI e)) (ms := fun x => d - x.2.toNatClampNeg) (res := fun _ => some (nI (mkN T N g p))) ?_ 20000 _ ⟨0, by omega, rfl⟩ (by show d - _ < _; omega)
    rintro y ⟨e, he, rfl⟩ self2 hself2
    show (if nI d ≤ nI e then _ else _) = _
    by_cases c2 : d ≤ e
    · rw [if_pos ((nI_leI (by omega) (by omega)).mpr c2), bd_eq, nI_1, show e = d by omega]
      refine hself _ ⟨d + 1, by omega, rfl⟩ ?_
      show N - (nI (d + 1)).toNatClampNeg < N - (nI d).toNatClampNeg
      rw [nI_clamp (by omega), nI_clamp (by omega)]; omega
    · have hms : d - (nI (e + 1)).toNatClampNeg < d - (nI e).toNatClampNeg := by rw [nI_clamp (by omega), nI_clamp (by omega)]; omega
      rw [if_neg (nI_ge (by omega) (by omega)), x9ringMany hs hX n0 hn0 h184 hM (by omega) (by omega), Option.bind_some]
      by_cases c3 : nI (rc T g d e) = p
      · rw [if_pos c3, bd_eq, bd_eq, nI_1, nI_1]
        refine hself2 _ ⟨e + 1, by omega, ?_⟩ hms
        show _ = (nI (_ + (pct e _ + (if decide (nI (rc T g d e) = p) then 1 else 0))), _)
        rw [decide_eq_true c3]
        rfl
      · rw [if_neg c3, bd_eq, nI_1]
        refine hself2 _ ⟨e + 1, by omega, ?_⟩ hms
        show _ = (nI (_ + (pct e _ + (if decide (nI (rc T g d e) = p) then 1 else 0))), _)
        rw [decide_eq_false c3]
        rfl
theorem x9isOne (hs : Sok T N g) (hX : PX te da ro T N g) (n0 : Nat) (hn0 : n0 < 2 ^ 31) (h184 : 184 ≤ n0) (hM : PM no 0 T N g) {d e : Nat} (hd : d < N) (he : e < N) : f_X9_isOne n0 no (nI d) (nI e) = some (if rc T g d e = 1 then 1 else 0) := by
  have hT0 : 0 < T := by have := hs.1; omega
  unfold f_X9_isOne
  rw [show f_X9_ringOf n0 no (nI d) (nI e) (0 : Int32) = _ from x9ringOf hs hX n0 hn0 h184 hM hd he hT0, Option.bind_some, if_pos (show inb 0 n0 from inb_ok (a := 0) (by omega) hn0), show no (0 : Int32).toNatClampNeg = nI T from hM.1]
  by_cases c : rc T g d e = 1
  · rw [if_pos ((rc_one hs hd he).mpr c), if_pos c]
  · rw [if_neg (fun h => c ((rc_one hs hd he).mp h)), if_neg c]
/-- the sign of a day -/
def sg (T N : Nat) (g : Nat → Nat → Nat) (d : Nat) : Nat := pct N (fun e => decide (e ≠ d) && decide (rc T g d e = 1))
theorem sg_lt {d : Nat} (hd : d < N) : sg T N g d < N := by
  have h1 := pct_lt N (fun e => decide (e ≠ d) && decide (rc T g d e = 1)) (fun _ => true) d (fun _ _ _ => rfl) hd (by simp) rfl
  exact Nat.lt_of_lt_of_le h1 (pct_max _ _)
theorem x9signOf (hs : Sok T N g) (hX : PX te da ro T N g) (n0 : Nat) (hn0 : n0 < 2 ^ 31) (h184 : 184 ≤ n0) (hM : PM no 0 T N g) {d : Nat} (hd : d < N) : f_X9_signOf n0 no (nI d) = some (nI (sg T N g d)) := by
  have hN := hs.N13
  unfold f_X9_signOf
  refine lp_spec (I := fun x => ∃ e, e ≤ N ∧ x = (nI (pct e (fun e => decide (e ≠ d) && decide (rc T g d e = 1))), nI e)) (ms := fun x => N - x.2.toNatClampNeg) (res := fun _ => some (nI (sg T N g d))) ?_ 20000 _ ⟨0, by omega, rfl⟩ (by show N - _ < _; omega)
  rintro x ⟨e, he, rfl⟩ self hself
  show (if inb (1 : Int32) n0 then if no (1 : Int32).toNatClampNeg ≤ nI e then _ else _ else none) = _
  rw [if_pos (show inb 1 n0 from inb_ok (a := 1) (by omega) hn0), show no (1 : Int32).toNatClampNeg = nI N from hM.2.1]
  by_cases c : N ≤ e
  · rw [if_pos ((nI_leI (by omega) (by omega)).mpr c), show e = N by omega]
    rfl
  · have hms : N - (nI (e + 1)).toNatClampNeg < N - (nI e).toNatClampNeg := by rw [nI_clamp (by omega), nI_clamp (by omega)]; omega
    rw [if_neg (nI_ge (by omega) (by omega))]
    by_cases c2 : e = d
    · rw [if_pos (congrArg nI c2), bd_eq, nI_1]
      refine hself _ ⟨e + 1, by omega, ?_⟩ hms
      show _ = (nI (pct e _ + (if (decide (e ≠ d) && decide (rc T g d e = 1)) then 1 else 0)), _)
      rw [decide_eq_false (fun h => h c2 : ¬ e ≠ d)]
      rfl
    · rw [if_neg (fun h => c2 ((nI_eq (by omega) (by omega)).mp h)), x9isOne hs hX n0 hn0 h184 hM hd (by omega), Option.bind_some]
      by_cases c3 : rc T g d e = 1
      · rw [if_pos c3, if_neg one0, bd_eq, bd_eq, nI_1, nI_1]
        refine hself _ ⟨e + 1, by omega, ?_⟩ hms
        show _ = (nI (pct e _ + (if (decide (e ≠ d) && decide (rc T g d e = 1)) then 1 else 0)), _)
        rw [decide_eq_true c2, decide_eq_true c3]
        rfl
      · rw [if_neg c3, if_pos zer0, bd_eq, nI_1]
        refine hself _ ⟨e + 1, by omega, ?_⟩ hms
        show _ = (nI (pct e _ + (if (decide (e ≠ d) && decide (rc T g d e = 1)) then 1 else 0)), _)
        rw [decide_eq_false c3, Bool.and_false]
        rfl
/-- how many days have the sign p -/
def sgN (T N : Nat) (g : Nat → Nat → Nat) (p : Int32) : Nat := pct N (fun d => decide (nI (sg T N g d) = p))
theorem x9signed (hs : Sok T N g) (hX : PX te da ro T N g) (n0 : Nat) (hn0 : n0 < 2 ^ 31) (h184 : 184 ≤ n0) (hM : PM no 0 T N g) (p : Int32) : f_X9_signed n0 no p = some (nI (sgN T N g p)) := by
  have hN := hs.N13
  unfold f_X9_signed
  refine lp_spec (I := fun x => ∃ d, d ≤ N ∧ x = (nI (pct d (fun d => decide (nI (sg T N g d) = p))), nI d)) (ms := fun x => N - x.2.toNatClampNeg) (res := fun _ => some (nI (sgN T N g p))) ?_ 20000 _ ⟨0, by omega, rfl⟩ (by show N - _ < _; omega)
  rintro x ⟨e, he, rfl⟩ self hself
  show (if inb (1 : Int32) n0 then if no (1 : Int32).toNatClampNeg ≤ nI e then _ else _ else none) = _
  rw [if_pos (show inb 1 n0 from inb_ok (a := 1) (by omega) hn0), show no (1 : Int32).toNatClampNeg = nI N from hM.2.1]
  by_cases c : N ≤ e
  · rw [if_pos ((nI_leI (by omega) (by omega)).mpr c), show e = N by omega]
    rfl
  · have hms : N - (nI (e + 1)).toNatClampNeg < N - (nI e).toNatClampNeg := by rw [nI_clamp (by omega), nI_clamp (by omega)]; omega
    rw [if_neg (nI_ge (by omega) (by omega)), x9signOf hs hX n0 hn0 h184 hM (by omega), Option.bind_some]
    by_cases c3 : nI (sg T N g e) = p
    · rw [if_pos c3, bd_eq, bd_eq, nI_1, nI_1]
      refine hself _ ⟨e + 1, by omega, ?_⟩ hms
      show _ = (nI (pct e _ + (if decide (nI (sg T N g e) = p) then 1 else 0)), _)
      rw [decide_eq_true c3]
      rfl
    · rw [if_neg c3, bd_eq, nI_1]
      refine hself _ ⟨e + 1, by omega, ?_⟩ hms
      show _ = (nI (pct e _ + (if decide (nI (sg T N g e) = p) then 1 else 0)), _)
      rw [decide_eq_false c3]
      rfl
end
