/-! OURS: bits counted -/
def cdN : Nat → Nat → Nat
  | 0, _ => 0
  | k + 1, n => n % 2 + cdN k (n / 2)
def bcOk (n : Nat) : Bool := f_J6_bitCount_0f7a4 (nI n) == some (nI (cdN 14 n))
def bcR (i : Nat) : Nat → Bool
  | 0 => true
  | j + 1 => bcOk (128 * i + j) && bcR i j
def bcA (i : Nat) : Nat → Bool
  | 0 => true
  | j + 1 => bcR (i + j) 128 && bcA i j
theorem bc_0 : bcA 0 16 = true := by decide +kernel
theorem bc_1 : bcA 16 16 = true := by decide +kernel
theorem bc_2 : bcA 32 16 = true := by decide +kernel
theorem bc_3 : bcA 48 16 = true := by decide +kernel
theorem bc_4 : bcA 64 16 = true := by decide +kernel
theorem bc_5 : bcA 80 16 = true := by decide +kernel
theorem bc_6 : bcA 96 16 = true := by decide +kernel
theorem bc_7 : bcA 112 16 = true := by decide +kernel
theorem bcR_at (i : Nat) : ∀ (m j : Nat), bcR i m = true → j < m → bcOk (128 * i + j) = true
  | 0, j, _, h => by omega
  | m + 1, j, h, hj => by
    have h1 : (bcOk (128 * i + m) && bcR i m) = true := h
    rw [Bool.and_eq_true] at h1
    by_cases c : j = m
    · subst c; exact h1.1
    · exact bcR_at i m j h1.2 (by omega)
theorem bcA_at (i : Nat) : ∀ (m j : Nat), bcA i m = true → j < m → bcR (i + j) 128 = true
  | 0, j, _, h => by omega
  | m + 1, j, h, hj => by
    have h1 : (bcR (i + m) 128 && bcA i m) = true := h
    rw [Bool.and_eq_true] at h1
    by_cases c : j = m
    · subst c; exact h1.1
    · exact bcA_at i m j h1.2 (by omega)
theorem bc_all (n : Nat) (hn : n < 16384) : f_J6_bitCount_0f7a4 (nI n) = some (nI (cdN 14 n)) := by
  have h : bcOk (128 * (n / 128) + n % 128) = true := by
    refine bcR_at (n / 128) 128 (n % 128) ?_ (by omega)
    have e : ∀ q k, n / 128 = 16 * q + k → bcA (16 * q) 16 = true → k < 16 → bcR (n / 128) 128 = true := fun q k e h hk => by
      rw [e]; exact bcA_at _ 16 k h hk
    have hq : n / 128 / 16 = 0 ∨ n / 128 / 16 = 1 ∨ n / 128 / 16 = 2 ∨ n / 128 / 16 = 3 ∨ n / 128 / 16 = 4 ∨ n / 128 / 16 = 5 ∨ n / 128 / 16 = 6 ∨ n / 128 / 16 = 7 := by omega
    rcases hq with h | h | h | h | h | h | h | h
    · exact e 0 (n / 128 % 16) (by omega) bc_0 (by omega)
    · exact e 1 (n / 128 % 16) (by omega) bc_1 (by omega)
    · exact e 2 (n / 128 % 16) (by omega) bc_2 (by omega)
    · exact e 3 (n / 128 % 16) (by omega) bc_3 (by omega)
    · exact e 4 (n / 128 % 16) (by omega) bc_4 (by omega)
    · exact e 5 (n / 128 % 16) (by omega) bc_5 (by omega)
    · exact e 6 (n / 128 % 16) (by omega) bc_6 (by omega)
    · exact e 7 (n / 128 % 16) (by omega) bc_7 (by omega)
  rw [show 128 * (n / 128) + n % 128 = n by omega] at h
  unfold bcOk at h
  exact eq_of_beq h
theorem pct_low : ∀ (k : Nat) (p : Nat → Bool), pct (k + 1) p = (if p 0 then 1 else 0) + pct k (fun i => p (i + 1))
  | 0, p => by show 0 + (if p 0 then 1 else 0) = _ + 0; omega
  | k + 1, p => by
    have ih := pct_low k p
    show pct (k + 1) p + (if p (k + 1) then 1 else 0) = _ + (pct k (fun i => p (i + 1)) + (if p (k + 1) then 1 else 0))
    rw [ih]; omega
theorem cdN_pct : ∀ (k n : Nat), pct k (fun i => n.testBit i) = cdN k n
  | 0, _ => rfl
  | k + 1, n => by
    rw [pct_low]
    have ih := cdN_pct k (n / 2)
    have e : pct k (fun i => n.testBit (i + 1)) = pct k (fun i => (n / 2).testBit i) := pct_congr k _ _ (fun i _ => Nat.testBit_succ n i)
    rw [e, ih]
    show _ = n % 2 + cdN k (n / 2)
    rw [Nat.testBit_zero]
    by_cases c : n % 2 = 1
    · rw [c]; rfl
    · rw [show n % 2 = 0 by omega]; rfl
theorem cd_nI (n : Nat) : cd (nI n) = cdN 14 n := by
  unfold cd
  rw [← cdN_pct 14 n]
  exact pct_congr 14 _ _ (fun i hi => bt_nI n (by omega))
theorem in_nI {S : Int32} (h : In14 14 S) : ∃ n, n < 16384 ∧ S = nI n := by
  obtain ⟨k, hk, e⟩ := mask_and 16383 S
  refine ⟨k, by omega, ?_⟩
  rw [← e]
  refine b_ext (fun i hi => ?_)
  rw [b_and, show nI 16383 = ((1 : Int32) <<< (nI 14 &&& 31)) - 1 by decide, b_all 14 (by omega) i hi]
  cases c : bt S i with
  | false => cases decide (i < 14) <;> rfl
  | true => rw [decide_eq_true (h i hi c)]; rfl
theorem x_bitCount {S : Int32} (h : In14 14 S) : f_J6_bitCount_0f7a4 S = some (nI (cd S)) := by
  obtain ⟨n, hn, rfl⟩ := in_nI h
  rw [bc_all n hn, cd_nI]
