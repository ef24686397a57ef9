/-! OURS: feed -/
theorem lp_s {σ ρ : Type} (b : (σ → Option ρ) → σ → Option ρ) (n : Nat) (x : σ) : lp b (n + 1) x = b (lp b n) x := rfl
theorem byte_eq (w : Int32) (s : Nat) (hs : s ≤ 24) : (w.toUInt32 >>> ((nI s).toUInt32 &&& Int32.toUInt32 31)).toInt32 &&& 255 = (w >>> (nI s &&& 31)) &&& 255 := by
  refine b_ext (fun i hi => ?_)
  rw [b_and, b_and, b_255, b_ushr s (by omega), b_sshr s (by omega) w hi]
  by_cases h : i < 8
  · rw [if_pos (by omega)]
  · rw [decide_eq_false h, Bool.and_false, Bool.and_false]
theorem byte_in (x : Int32) : ∃ v : Nat, v < 256 ∧ x &&& 255 = nI v := pk_andE x (m := 255) 8 (by decide)
theorem tapeR.up {n : Nat} {tb tape : Nat → Int32} (h : tapeR n tb tape) {x y : Int32} (e : y = x) (hb : ∃ v : Nat, v < 256 ∧ x = nI v) : tapeR (n + 1) (upd tb n x) (upd tape n y) := by
  subst e
  intro i hi
  rcases Nat.lt_or_ge i n with h1 | h1
  · rw [upd_ne _ _ (by omega), upd_ne _ _ (by omega)]
    exact h i h1
  · rw [show i = n by omega, upd_at, upd_at]
    exact ⟨rfl, hb⟩
theorem push_step (w : Int32) (s n : Nat) (hs : s ≤ 24) (hn : n < 740) (tb tape : Nat → Int32) (h : tapeR n tb tape) (self : Int32 × Int32 × (Nat → Int32) → Option (Int32 × (Nat → Int32))) (self2 : Int32 × Int32 × (Nat → Int32) → Option (Int32 × (Nat → Int32))) : ∃ tb' tape', tapeR (n + 1) tb' tape' ∧ f_X7_push_L3 w self (nI s, nI n, tb) = self (nI s + (-8), nI (n + 1), tb') ∧ f_X9_lay_L3 w self2 (nI s, nI n, tape) = self2 (nI s + (-8), nI (n + 1), tape') := by
  refine ⟨_, _, h.up (byte_eq w s hs) (byte_in _), ?_, ?_⟩
  · show (if nI s < 0 then _ else _) = _
    rw [if_neg (nI_pos (by omega)), if_neg (show ¬ (740 : Int32) ≤ nI n from nI_ge (b := 740) (by omega) (by omega)), if_pos (inb_ok hn (by omega)), nI_clamp (by omega), bd_eq, bd_eq, bd_eq, nI_1]
  · show (if nI s < 0 then _ else _) = _
    rw [if_neg (nI_pos (by omega)), if_pos (inb_ok hn (by omega)), nI_clamp (by omega), bd_eq, bd_eq, bd_eq, nI_1]
theorem push_lay (w : Int32) (n : Nat) (hn : n + 4 ≤ 740) (tb tape : Nat → Int32) (h : tapeR n tb tape) : ∃ tb' tape', tapeR (n + 4) tb' tape' ∧ f_X7_push (nI n) tb w = some (nI (n + 4), tb') ∧ f_X9_lay (nI n) tape w = some (nI (n + 4), tape') := by
  obtain ⟨t1, u1, h1, a1, b1⟩ := push_step w 24 n (by omega) (by omega) tb tape h (lp (f_X7_push_L3 w) 19999) (lp (f_X9_lay_L3 w) 19999)
  obtain ⟨t2, u2, h2, a2, b2⟩ := push_step w 16 (n + 1) (by omega) (by omega) t1 u1 h1 (lp (f_X7_push_L3 w) 19998) (lp (f_X9_lay_L3 w) 19998)
  obtain ⟨t3, u3, h3, a3, b3⟩ := push_step w 8 (n + 2) (by omega) (by omega) t2 u2 h2 (lp (f_X7_push_L3 w) 19997) (lp (f_X9_lay_L3 w) 19997)
  obtain ⟨t4, u4, h4, a4, b4⟩ := push_step w 0 (n + 3) (by omega) (by omega) t3 u3 h3 (lp (f_X7_push_L3 w) 19996) (lp (f_X9_lay_L3 w) 19996)
  refine ⟨t4, u4, h4, ?_, ?_⟩
  · unfold f_X7_push
    rw [lp_s _ 19999, show (24 : Int32) = nI 24 from rfl, a1, show nI 24 + (-8) = nI 16 from by decide, lp_s _ 19998, a2, show nI 16 + (-8) = nI 8 from by decide, lp_s _ 19997, a3, show nI 8 + (-8) = nI 0 from by decide, lp_s _ 19996, a4, lp_s _ 19995]
    unfold f_X7_push_L3
    dsimp only
    rw [if_pos (show nI 0 + (-8) < 0 by decide)]
  · unfold f_X9_lay
    rw [lp_s _ 19999, show (24 : Int32) = nI 24 from rfl, b1, show nI 24 + (-8) = nI 16 from by decide, lp_s _ 19998, b2, show nI 16 + (-8) = nI 8 from by decide, lp_s _ 19997, b3, show nI 8 + (-8) = nI 0 from by decide, lp_s _ 19996, b4, lp_s _ 19995]
    unfold f_X9_lay_L3
    dsimp only
    rw [if_pos (show nI 0 + (-8) < 0 by decide)]
theorem st_0 : St_0 rd_Inv := by
  intro k
  intros
  rename_i p1 p2 p3 p4 p5 hk hI
  obtain ⟨h1, h2, h3, ⟨n, n1, rfl, rfl, n4⟩, h5, h7⟩ := hI
  have h5' := h5.s
  unfold f_X8_feed f_X9_feed
  rw [show nI n + (20 : Int32) = nI (n + 20) from nI_add n 20]
  by_cases c : n + 20 ≤ 740
  · have c' : nI (n + 20) ≤ 740 := nI_le (b := 740) c (by omega)
    obtain ⟨t1, u1, r1, a1, b1⟩ := push_lay p1 n (by omega) _ _ n4
    obtain ⟨t2, u2, r2, a2, b2⟩ := push_lay p2 (n + 4) (by omega) _ _ r1
    obtain ⟨t3, u3, r3, a3, b3⟩ := push_lay p3 (n + 8) (by omega) _ _ r2
    obtain ⟨t4, u4, r4, a4, b4⟩ := push_lay p4 (n + 12) (by omega) _ _ r3
    obtain ⟨t5, u5, r5, a5, b5⟩ := push_lay p5 (n + 16) (by omega) _ _ r4
    simp only [if_pos c', a1, a2, a3, a4, a5, b1, b2, b3, b4, b5, Option.bind_some]
    exact ⟨_, _, _, _, _, _, _, rfl, rfl, rfl, h1, h2, h3, ⟨n + 20, c, rfl, rfl, r5⟩, h5', h7⟩
  · have c' : ¬ nI (n + 20) ≤ 740 := nI_ge (a := 740) (by omega) (by omega)
    simp only [if_neg c']
    exact ⟨_, _, _, _, _, _, _, rfl, rfl, rfl, h1, h2, h3, ⟨n, n1, rfl, rfl, n4⟩, h5', h7⟩
