/-! OURS: may: the reference's ways -/
theorem bt_nI (n : Nat) {i : Nat} (hi : i < 32) : bt (nI n) i = n.testBit i := by
  show (BitVec.ofNat 32 n).getLsbD i = _
  rw [BitVec.getLsbD_ofNat, decide_eq_true hi, Bool.true_and]
theorem nI_in14 {T n : Nat} (h : n < 2 ^ T) : In14 T (nI n) := by
  intro i hi hb
  rw [bt_nI n hi] at hb
  rcases Nat.lt_or_ge i T with c | c
  · exact c
  · have := Nat.testBit_lt_two_pow (Nat.lt_of_lt_of_le h (Nat.pow_le_pow_right (by omega) c))
    rw [this] at hb; cases hb
theorem sh_pow : ∀ T, T < 15 → (1 : Int32) <<< (nI T &&& 31) = nI (2 ^ T) := by decide +kernel
theorem all_nI : ∀ T, T < 15 → ((1 : Int32) <<< (nI T &&& 31)) - 1 = nI (2 ^ T - 1) := by decide +kernel
theorem pow_le {T : Nat} (hT : T ≤ 14) : 2 ^ T ≤ 16384 := Nat.le_trans (Nat.pow_le_pow_right (by omega) hT) (by decide)
theorem del_nI {n a b : Nat} (ha : a < 32) (hb : b < 32) (h : bt (nI n) a = true) : ∃ k, k < n ∧ del (nI n) a b = nI k := by
  obtain ⟨k, hk, e⟩ := mask_and n ((((1 : Int32) <<< (nI a &&& 31)) ||| ((1 : Int32) <<< (nI b &&& 31))) ^^^ (-1))
  have e' : del (nI n) a b = nI k := e
  refine ⟨k, ?_, e'⟩
  rcases Nat.lt_or_ge k n with c | c
  · exact c
  · have : k = n := by omega
    rw [this] at e'
    have h2 := bt_del (nI n) ha hb ha
    rw [e', h, decide_eq_true rfl] at h2
    cases h2
theorem del9 (S : Int32) {a b : Nat} (ha : a < 32) (hb : b < 32) : (S &&& (((1 : Int32) <<< (nI a &&& 31)) ^^^ (-1))) &&& (((1 : Int32) <<< (nI b &&& 31)) ^^^ (-1)) = del S a b := by
  refine b_ext (fun i hi => ?_)
  rw [bt_del S ha hb hi, b_and, b_and, b_not _ hi, b_not _ hi, b_sh1 a ha hi, b_sh1 b hb hi, Bool.not_or, Bool.and_assoc]
section
variable {T N : Nat} {g : Nat → Nat → Nat} {te da : Int32} {ro no : Nat → Int32}
/-- the reference's table of ways -/
def WayT (T N : Nat) (g : Nat → Nat → Nat) (w : Nat → Int32) (n : Nat) : Prop := ∀ k, k < n → w k = nI (Wn (Fg T N g) (nI k))
theorem x9ways (hs : Sok T N g) (hT0 : 0 < T) (hM : PM no 0 T N g) (w0 : Nat → Int32) : ∃ w', f_X9_laysWays no w0 = some w' ∧ WayT T N g w' (2 ^ T) := by
  have hT := hs.T14
  have hN := hs.N13
  have hp := pow_le hT
  have hp1 : 1 < 2 ^ T := Nat.one_lt_two_pow (by omega)
  unfold f_X9_laysWays
  rw [if_pos (show inb 0 16384 from inb_ok (a := 0) (by omega) (by omega)), bd_eq]
  refine lp_ex (I := fun x => ∃ (n : Nat) (f : Nat → Int32), 1 ≤ n ∧ n ≤ 2 ^ T ∧ x = (nI n, f) ∧ WayT T N g f n) (ms := fun x => 2 ^ T - x.1.toNatClampNeg) (Post := fun w' => WayT T N g w' (2 ^ T)) ?_ 20000 _ ⟨1, _, by omega, by omega, rfl, fun k hk => ?_⟩ (by show 2 ^ T - _ < _; omega)
  · rintro x ⟨n, f, hn1, hn, rfl, hf⟩ self hself
    unfold f_X9_laysWays_L9
    dsimp only
    rw [x9teams hM, Option.bind_some, sh_pow T (by omega)]
    by_cases c : 2 ^ T ≤ n
    · rw [if_pos ((nI_leI (by omega) (by omega)).mpr c)]
      rw [show n = 2 ^ T by omega] at hf
      exact ⟨_, rfl, hf⟩
    · have hms : 2 ^ T - (nI (n + 1)).toNatClampNeg < 2 ^ T - (nI n).toNatClampNeg := by rw [nI_clamp (by omega), nI_clamp (by omega)]; omega
      have hne : ¬ nI n = 0 := nI_ne0 (by omega) (by omega)
      have hin := nI_in14 (T := T) (n := n) (by omega)
      obtain ⟨k1, k2, k3⟩ := lo_ok hne
      have k4 := hin _ k1 k2
      rw [if_neg (nI_ge (by omega) (by omega)), x9least (nI n) k1 k2 k3, Option.bind_some, bd_eq, if_pos (inb_ok (by omega) (by omega)), bd_eq, bd_eq, nI_1, nI_clamp (by omega)]
      refine lp_ex (I := fun x => ∃ (b acc : Nat) (f : Nat → Int32), lo (nI n) < b ∧ b ≤ T ∧ x = (nI b, f) ∧ f n = nI acc ∧ acc + sfx (Wh (Fg T N g) (nI n)) b (14 - b) = Wn (Fg T N g) (nI n) ∧ WayT T N g f n) (ms := fun x => T - x.1.toNatClampNeg) (Post := fun w' => WayT T N g w' (2 ^ T)) ?_ 20000 _ ⟨lo (nI n) + 1, 0, _, by omega, by omega, rfl, upd_at _ _ _, by rw [W_rec _ (hin.mono hT) hne, Nat.zero_add, show 14 - (lo (nI n) + 1) = 13 - lo (nI n) by omega], fun k hk => by rw [upd_ne _ _ (by omega)]; exact hf k hk⟩ (by show T - _ < _; omega)
      rintro y ⟨b, acc, f, hb1, hb, rfl, hfn, hacc, hf⟩ self2 hself2
      unfold f_X9_laysWays_L44
      dsimp only
      rw [x9teams hM, Option.bind_some]
      by_cases c2 : T ≤ b
      · rw [if_pos ((nI_leI (by omega) (by omega)).mpr c2), bd_eq, nI_1]
        refine hself _ ⟨n + 1, f, by omega, by omega, rfl, fun k hk => ?_⟩ hms
        by_cases e1 : k = n
        · subst e1
          rw [hfn]
          have h0 := sfx_0 (Wh (Fg T N g) (nI k)) (14 - b) b (fun i h1 h2 => Wh_f (fun h => by have := hin i (by omega) h.1; omega))
          rw [h0] at hacc
          rw [← hacc]; rfl
        · exact hf k (by omega)
      · have hms2 : T - (nI (b + 1)).toNatClampNeg < T - (nI b).toNatClampNeg := by rw [nI_clamp (by omega), nI_clamp (by omega)]; omega
        have hsx : sfx (Wh (Fg T N g) (nI n)) b (14 - b) = Wh (Fg T N g) (nI n) b + sfx (Wh (Fg T N g) (nI n)) (b + 1) (14 - (b + 1)) := by
          rw [show 14 - b = (14 - (b + 1)) + 1 by omega]; rfl
        have hskip : ¬ (bt (nI n) b = true ∧ Fg T N g (lo (nI n)) b = true) → ∃ r, self2 (nI (b + 1), f) = some r ∧ WayT T N g r (2 ^ T) := fun h =>
          hself2 _ ⟨b + 1, acc, f, by omega, by omega, rfl, hfn, by rw [Wh_f h] at hsx; omega, hf⟩ hms2
        rw [if_neg (nI_ge (by omega) (by omega)), del9 (nI n) (by omega) (by omega)]
        cases hbt : bt (nI n) b with
        | false =>
          rw [x9has_f (by omega) (by rw [b_and, hbt]; rfl), Option.bind_some, if_pos zer0, bd_eq, nI_1]
          exact hskip (fun h => by rw [hbt] at h; cases h.1)
        | true =>
          rw [x9has_t (by omega) (by rw [b_and, hbt, b_not _ (by omega), b_sh1 _ (by omega) (by omega), decide_eq_false (by omega)]; rfl), Option.bind_some, if_neg one0, x9metOn hs 184 (by omega) (by omega) hM k4 (by omega), Option.bind_some]
          rcases mo_cases hs (lo (nI n)) b k4 with ⟨d, hd, e1, e2⟩ | ⟨h1, e2⟩
          · rw [e2, if_neg (fun h => by have h9 := nI_nm1 (a := d) (by omega); rw [h] at h9; exact h9.mp rfl), bd_eq, nI_1]
            refine hskip (fun h => ?_)
            have h2 := h.2
            unfold Fg at h2
            rw [Bool.and_eq_true, Bool.and_eq_true, decide_eq_true_iff, decide_eq_true_iff, decide_eq_true_iff] at h2
            exact h2.2.2 d hd e1
          · have hFt : Fg T N g (lo (nI n)) b = true := by
              unfold Fg
              rw [decide_eq_true (show b < T by omega), decide_eq_true (show b ≠ lo (nI n) by omega), decide_eq_true h1]
              rfl
            obtain ⟨k, hk, ek⟩ := del_nI (n := n) (a := lo (nI n)) (b := b) (by omega) (by omega) k2
            rw [e2, if_pos rfl, if_pos (inb_ok (by omega) (by omega)), ek, if_pos (inb_ok (by omega) (by omega)), if_pos (inb_ok (by omega) (by omega)), bd_eq, bd_eq, nI_1, nI_clamp (by omega), nI_clamp (by omega), hfn, hf k hk, nI_add]
            refine hself2 _ ⟨b + 1, _, _, by omega, by omega, rfl, upd_at _ _ _, ?_, fun j hj => by rw [upd_ne _ _ (by omega)]; exact hf j hj⟩ hms2
            rw [Wh_t hbt hFt, ek] at hsx
            omega
  · have : k = 0 := by omega
    subst this
    show upd w0 0 1 0 = _
    rw [upd_at, show nI 0 = 0 from rfl, W_0]
    rfl
end
theorem FinR.stl {k : Nat} {fs : Int32} {fst : Nat → Int32} (h : FinR k fs fst) : ∃ q : Nat, q ≤ 64 * k ∧ fs = nI q ∧ StL q fst := h
theorem st_11 : St_11 rd_Inv := by
  intro k
  intros
  rename_i hk hI
  have hI' := st_m k _ _ _ _ _ _ _ _ _ _ _ _ _ _ _ _ _ _ _ _ _ _ _ _ _ hI
  obtain ⟨hS, hA, h3, h4, h5, h7⟩ := hI
  have hS' := hS
  obtain ⟨T, N, g, hs, hX, hM⟩ := hS
  have hT := hs.T14
  have eT := hX.1
  unfold f_X8_may f_X2_countAll f_X9_may
  rw [x9teams hM, Option.bind_some]
  by_cases c0 : T = 0
  · rw [if_pos (by rw [eT, c0]; rfl), if_pos (by rw [c0]; rfl), Option.bind_some]
    exact ⟨_, _, _, _, _, _, _, _, _, _, _, rfl, rfl, rfl, hI'⟩
  · have hne : ¬ nI T = 0 := nI_ne0 (by omega) (by omega)
    obtain ⟨q, hq, eq, hL⟩ := h5.stl
    subst eq
    obtain ⟨fo', fr', e1, hF⟩ := x2look hs hX _ _ q _ _
    rw [if_neg (by rw [eT]; exact hne), if_neg hne, e1, Option.bind_some]
    dsimp only
    have he : T % 2 = 0 := by have := hs.1; omega
    obtain ⟨⟨r0, st1, wy1⟩, e2, h2, h6⟩ := x2countAll0 hT (by omega) he (by omega) hF _ _ hL
    obtain ⟨w', e3, hW⟩ := x9ways hs (by omega) hM _
    have hp := pow_le hT
    have hp1 : 1 < 2 ^ T := Nat.one_lt_two_pow (by omega)
    unfold f_X9_all
    rw [x9teams hM, Option.bind_some]
    rw [e2, Option.bind_some, Option.bind_some, e3, Option.bind_some, Option.bind_some, all_nI T (by omega), if_pos (inb_ok (by omega) (by omega)), nI_clamp (by omega), hW _ (by omega)]
    dsimp only at h2 h6 ⊢
    rw [h2, all_nI T (by omega)]
    exact ⟨_, _, _, _, _, _, _, _, _, _, _, rfl, rfl, rfl, hS', hA, h3, h4, ⟨q + 1, by omega, rfl, h6⟩, h7⟩
