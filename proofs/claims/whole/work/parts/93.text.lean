/-! OURS: text -/
section
variable {n : Nat} {v : Nat → Nat} {tb tape : Nat → Int32}
theorem day_loop (hn : n ≤ 740) (hv : ∀ i, i < n → v i < 256 ∧ tb i = nI (v i)) (hv9 : ∀ i, i < n → v i < 256 ∧ tape i = nI (v i)) {T N : Nat} {g : Nat → Nat → Nat} {ro : Nat → Int32} (hs : Sok T N g) (h4 : 4 ≤ T) (hN : N + 1 < T) (hX : PX (nI T) (nI N) ro T N g) (ln fk fp fa pl : Int32) : ∀ (k i : Nat), i ≤ T → T - i ≤ k → ∀ (p c s p' x : Nat) (to fr kd9 nu : Int32) (w : Int64), Cur9 n tb tape p c s p' x to fr kd9 nu w → ∀ (u : Nat → Nat) (S fi la : Int32) (row rd : Nat → Int32), DL T N i g u S fi la row rd → ∀ (st kd vl : Int32) (m8 m9 : Nat), k < m8 → k < m9 →
    DayLR n T N tb tape ln fk fp fa pl (lp (f_X5_readDay_L46 (nI T) (nI n) tb ln (nI N) ro) m8 (S, fi, nI i, fk, fp, nI p, st, kd, vl, row)) (lp (f_X9_readDay_L33 (nI n) tape fa pl) m9 (S, la, nI i, to, fr, kd9, nu, w, rd))
  | k, i, hi, hk, p, c, s, p', x, to, fr, kd9, nu, w, hC, u, S, fi, la, row, rd, hD, st, kd, vl, 0, m9, h8, h9 => by omega
  | k, i, hi, hk, p, c, s, p', x, to, fr, kd9, nu, w, hC, u, S, fi, la, row, rd, hD, st, kd, vl, m8 + 1, 0, h8, h9 => by omega
  | 0, i, hi, hk, p, c, s, p', x, to, fr, kd9, nu, w, hC, u, S, fi, la, row, rd, hD, st, kd, vl, m8 + 1, m9 + 1, h8, h9 => by
    rw [lp_s, lp_s]
    exact day_step hn hv hv9 hs h4 hN hX ln fk fp fa pl hi hC hD st kd vl _ _ (fun h => by omega)
  | k + 1, i, hi, hk, p, c, s, p', x, to, fr, kd9, nu, w, hC, u, S, fi, la, row, rd, hD, st, kd, vl, m8 + 1, m9 + 1, h8, h9 => by
    rw [lp_s, lp_s]
    exact day_step hn hv hv9 hs h4 hN hX ln fk fp fa pl hi hC hD st kd vl _ _ (fun h p c s p' x to fr kd9 nu w hC u S fi la row rd hD st kd vl => day_loop hn hv hv9 hs h4 hN hX ln fk fp fa pl k (i + 1) (by omega) (by omega) p c s p' x to fr kd9 nu w hC u S fi la row rd hD st kd vl m8 m9 (by omega) (by omega))
theorem line_day (hn : n ≤ 740) (hv : ∀ i, i < n → v i < 256 ∧ tb i = nI (v i)) (hv9 : ∀ i, i < n → v i < 256 ∧ tape i = nI (v i)) {p c s p' x : Nat} {nx st kd vl to fr kd9 nu : Int32} {w : Int64} (hC : Cur n tb tape p c s p' x nx st kd vl to fr kd9 nu w) {T N : Nat} {g : Nat → Nat → Nat} {ro rd : Nat → Int32} (hs : Sok T N g) (h4 : 4 ≤ T) (hX : PX (nI T) (nI N) ro T N g) (hM : PM rd 0 T N g) (ln fk fp th ta sm x1 fa pl : Int32) (now row : Nat → Int32) (self : Int32 × Int32 × Int32 × Int32 × Int32 × Int32 × Int32 × Int64 × (Nat → Int32) → Option (Int32 × Int32 × Int32 × Int32 × Int32 × Int32 × Int32 × Int32 × Int32 × Int32 × Int64 × Int32 × (Nat → Int32) × (Nat → Int32))) (h0 : c ≠ 0) :
    (∃ f s ln' a1 a2 a3 a4 a5 a6 a7, f_X5_readDay ln fk fp nx st kd vl (nI T) (nI N) ro row (nI n) tb = some (0, ln', f, s, a1, a2, a3, a4, a5, a6, a7) ∧ ∃ a b d e w' rd', f_X9_text_L56 tape th ta (nI n) sm now self (x1, to, fr, kd9, nu, fa, pl, w, rd) = some (-1 - s, th, ta, nI n, a, b, d, e, f, s, w', sm, now, rd')) ∨
    (∃ (q c2 s2 q' x2 : Nat) (nx2 st2 kd2 vl2 to2 fr2 kd92 nu2 : Int32) (w2 : Int64) (ro2 row2 rd2 : Nat → Int32) (g' : Nat → Nat → Nat), f_X5_readDay ln fk fp nx st kd vl (nI T) (nI N) ro row (nI n) tb = some (1, ln + 1, fk, fp, nx2, st2, kd2, vl2, nI (N + 1), ro2, row2) ∧ f_X9_text_L56 tape th ta (nI n) sm now self (x1, to, fr, kd9, nu, fa, pl, w, rd) = self (x1 + 1, to2, fr2, kd92, nu2, fa, pl, w2, rd2) ∧ Cur n tb tape q c2 s2 q' x2 nx2 st2 kd2 vl2 to2 fr2 kd92 nu2 w2 ∧ Sok T (N + 1) g' ∧ PX (nI T) (nI (N + 1)) ro2 T (N + 1) g' ∧ PM rd2 0 T (N + 1) g') := by
  have hT14 := hs.T14
  have hN13 := hs.N13
  have hNT : N < T := by have := hs.1; omega
  obtain ⟨hp, hT, est, ekd, hvl, hnx, efr, k9, ek9, hto, hK⟩ := hC
  have hc5 := hT.2.2.1
  have er0 : rd (0 : Int32).toNatClampNeg = nI T := hM.1
  have er1 : rd (1 : Int32).toNatClampNeg = nI N := hM.2.1
  have eT1 : nI T - 1 = nI (T - 1) := pk_sub (b := 1) (by omega)
  unfold f_X5_readDay f_X9_text_L56 f_X9_readLine
  dsimp only
  rw [if_neg (show ¬ kd9 = 0 by rw [ek9]; exact fun h => h0 (hK.k0.mp h)), if_pos inb0, er0, if_neg (show ¬ nI T = 0 from fun h => by have := (nI_eq (b := 0) (by omega) (by omega)).mp h; omega), dC_eq, Option.bind_some]
  obtain ⟨r, er, hr⟩ := hK.isD
  rw [ek9, er, Option.bind_some]
  rcases hr with ⟨rfl, rfl⟩ | ⟨rfl, hc⟩
  · have hpp := hT.1 (by omega)
    have hp'n := hT.2.1
    have en : nx = nI p' := hnx (by omega)
    have et : to = nI p' := hto (by omega)
    have hbad2 : ¬ nI k9 = 1 := hK.k1 (by omega)
    unfold f_X9_readDay
    rw [if_neg one0, if_pos (show kd = 5 from ekd), if_pos inb1, if_pos inb0, er0, er1, eT1]
    by_cases cN : N = T - 1
    · unfold f_X5_refuse
      rw [if_pos (congrArg nI cN), if_neg (show ¬ nI N < nI (T - 1) from nI_nlt (by omega) (by omega)), bad_n hbad2, Option.bind_some, Option.bind_some]
      dsimp only
      rw [if_pos (Or.inl rfl), if_pos (Or.inl rfl), Option.bind_some]
      dsimp only
      rw [if_pos (Or.inl rfl), Option.bind_some]
      dsimp only
      rw [if_pos zer0, efr, est]
      exact Or.inl ⟨_, _, _, _, _, _, _, _, _, _, rfl, _, _, _, _, _, _, rfl⟩
    · obtain ⟨c4, s4, p4, x4', to4, fr4, kd94, nu4, w4, e94, hC4⟩ := next9 hn hv hv9 hp'n fr (nI k9) nu w
      rw [if_neg (show ¬ nI N = nI (T - 1) from fun h => cN ((nI_eq (by omega) (by omega)).mp h)), if_pos (show nI N < nI (T - 1) from nI_lt (by omega) (by omega)), et, e94, Option.bind_some, en]
      dsimp only
      have hDL : DL T N 0 g (fun _ => 0) 0 0 (-1) row rd := ⟨by omega, hM, Or.inl ⟨by omega, fun t ht h => by
        have h' : bt 0 t = true := h
        rw [b_0] at h'
        exact absurd h' (by decide)⟩⟩
      rcases day_loop hn hv hv9 hs h4 (by omega) hX ln fk fp fa pl T 0 (by omega) (by omega) p' c4 s4 p4 x4' to4 fr4 kd94 nu4 w4 hC4 _ 0 0 (-1) row rd hDL st kd vl 20000 20000 (by omega) (by omega) with ⟨f, s', ln', a1, a2, a3, a4, a5, a6, a7, r8, b1, b2, b3, b4, w', rd', r9⟩ | ⟨q, c2, s2, q', x2, nx2, st2, kd2, vl2, to2, fr2, kd92, nu2, w2, ro2, row2, e, fr3, nu3, w3, rd3, g', r8, r9, r10, r11, r12, r13, r14⟩
      · refine Or.inl ⟨f, s', ln', a1, a2, a3, a4, a5, a6, a7, r8, b1, b2, b3, b4, w', rd', ?_⟩
        rw [show lp (f_X9_readDay_L33 (nI n) tape fa pl) 20000 ((0 : Int32), (-1 : Int32), (0 : Int32), to4, fr4, kd94, nu4, w4, rd) = _ from r9, Option.bind_some]
        dsimp only
        rw [if_pos (Or.inl rfl), Option.bind_some]
        dsimp only
        rw [if_pos zer0]
      · refine Or.inr ⟨q, c2, s2, q', x2, nx2, st2, kd2, vl2, to2, fr2, kd92, nu2, w2, ro2, row2, rd3, g', r8, ?_, r11, r12, r13, r14⟩
        rw [show lp (f_X9_readDay_L33 (nI n) tape fa pl) 20000 ((0 : Int32), (-1 : Int32), (0 : Int32), to4, fr4, kd94, nu4, w4, rd) = _ from r9, Option.bind_some]
        dsimp only
        rw [if_pos (Or.inr rfl), Option.bind_some]
        unfold f_X9_readEnd
        dsimp only
        rw [if_neg one0, if_pos rfl, r10, Option.bind_some]
        dsimp only
        rw [Option.bind_some]
        dsimp only
        rw [if_neg one0, bd_eq]
  · unfold f_X5_refuse
    rw [if_pos zer0, if_neg (show ¬ kd = 5 by rw [ekd]; exact fun h => hc ((nI_eq (b := 5) (by omega) (by omega)).mp h)), bad_1, Option.bind_some, Option.bind_some]
    dsimp only
    rw [if_pos (Or.inl rfl), if_pos (Or.inl rfl), Option.bind_some]
    dsimp only
    rw [if_pos zer0, efr, est]
    exact Or.inl ⟨_, _, _, _, _, _, _, _, _, _, rfl, _, _, _, _, _, _, rfl⟩
/-- both have read the text alike -/
def TextR (n : Nat) (th ta sm : Int32) (now : Nat → Int32) (r8 : Option (Int32 × Int32 × Int32 × Int32 × Int32 × Int32 × Int32 × Int32 × Int32 × Int32 × (Nat → Int32) × (Nat → Int32))) (r9 : Option (Int32 × Int32 × Int32 × Int32 × Int32 × Int32 × Int32 × Int32 × Int32 × Int32 × Int64 × Int32 × (Nat → Int32) × (Nat → Int32))) : Prop :=
  (∃ f s ln a1 a2 a3 a4 a5 a6 a7 a8, r8 = some (0, ln, f, s, a1, a2, a3, a4, a5, a6, a7, a8) ∧ ∃ a b d e w' rd', r9 = some (-1 - s, th, ta, nI n, a, b, d, e, f, s, w', sm, now, rd')) ∨
  (∃ (L fp a1 a2 a3 a4 te da : Int32) (ro row : Nat → Int32), r8 = some (1, L, 0, fp, a1, a2, a3, a4, te, da, ro, row) ∧ ∃ (a b d e pl : Int32) (w' : Int64) (rd : Nat → Int32), r9 = some (L, th, ta, nI n, a, b, d, e, 0, pl, w', 0, va_cpy rd now 0 0 184, rd) ∧ Same te da ro rd 0)
theorem text_end {p c s p' x : Nat} {nx st kd vl to fr kd9 nu : Int32} {w : Int64} (hC : Cur n tb tape p c s p' x nx st kd vl to fr kd9 nu w) {T N L : Nat} {g : Nat → Nat → Nat} {ro rd : Nat → Int32} (hs : Sok T N g) (hX : PX (nI T) (nI N) ro T N g) (hM : PM rd 0 T N g) (fp th ta sm pl : Int32) (now row : Nat → Int32) (self8 : Int32 × Int32 × Int32 × Int32 × Int32 × Int32 × Int32 × Int32 × Int32 × Int32 × (Nat → Int32) × (Nat → Int32) → Option (Int32 × Int32 × Int32 × Int32 × Int32 × Int32 × Int32 × Int32 × Int32 × Int32 × (Nat → Int32) × (Nat → Int32))) (self9 : Int32 × Int32 × Int32 × Int32 × Int32 × Int32 × Int32 × Int64 × (Nat → Int32) → Option (Int32 × Int32 × Int32 × Int32 × Int32 × Int32 × Int32 × Int32 × Int32 × Int32 × Int64 × Int32 × (Nat → Int32) × (Nat → Int32))) (hL : L < 700) (h0 : c = 0) :
    TextR n th ta sm now (f_X5_read_L35 (nI n) tb self8 (nI L, nI L, 0, fp, nx, st, kd, vl, nI T, nI N, ro, row)) (f_X9_text_L56 tape th ta (nI n) sm now self9 (nI L, to, fr, kd9, nu, 0, pl, w, rd)) := by
  obtain ⟨hp, hT, est, ekd, hvl, hnx, efr, k9, ek9, hto, hK⟩ := hC
  unfold f_X5_read_L35 f_X9_text_L56
  dsimp only
  have ec : f_X9_copy 184 184 rd now 0 0 = some (va_cpy rd now 0 0 184) := x9copy 184 184 0 0 (by omega) (by omega) (by omega) (by omega) rd now
  rw [if_neg (show ¬ (700 : Int32) ≤ nI L from nI_ge (b := 700) hL (by omega)), if_pos (show kd = 0 by rw [ekd, h0]; rfl), if_pos (show kd9 = 0 by rw [ek9]; exact hK.k0.mpr h0), ec, Option.bind_some]
  exact Or.inr ⟨_, _, _, _, _, _, _, _, _, _, rfl, _, _, _, _, _, _, _, rfl, T, N, g, hs, hX, hM⟩
theorem text_days (hn : n ≤ 740) (hv : ∀ i, i < n → v i < 256 ∧ tb i = nI (v i)) (hv9 : ∀ i, i < n → v i < 256 ∧ tape i = nI (v i)) {T : Nat} (h4 : 4 ≤ T) (fp th ta sm pl : Int32) (now : Nat → Int32) : ∀ (k N : Nat), N ≤ 13 → 13 - N ≤ k → ∀ (g : Nat → Nat → Nat) (ro rd : Nat → Int32), Sok T N g → PX (nI T) (nI N) ro T N g → PM rd 0 T N g → ∀ (p c s p' x : Nat) (nx st kd vl to fr kd9 nu : Int32) (w : Int64), Cur n tb tape p c s p' x nx st kd vl to fr kd9 nu w → ∀ (row : Nat → Int32) (m8 m9 : Nat), k < m8 → k < m9 →
    TextR n th ta sm now (lp (f_X5_read_L35 (nI n) tb) m8 (nI (N + 1), nI (N + 1), 0, fp, nx, st, kd, vl, nI T, nI N, ro, row)) (lp (f_X9_text_L56 tape th ta (nI n) sm now) m9 (nI (N + 1), to, fr, kd9, nu, 0, pl, w, rd))
  | k, N, hN, hk, g, ro, rd, hs, hX, hM, p, c, s, p', x, nx, st, kd, vl, to, fr, kd9, nu, w, hC, row, 0, m9, h8, h9 => by omega
  | k, N, hN, hk, g, ro, rd, hs, hX, hM, p, c, s, p', x, nx, st, kd, vl, to, fr, kd9, nu, w, hC, row, m8 + 1, 0, h8, h9 => by omega
  | k, N, hN, hk, g, ro, rd, hs, hX, hM, p, c, s, p', x, nx, st, kd, vl, to, fr, kd9, nu, w, hC, row, m8 + 1, m9 + 1, h8, h9 => by
    rw [lp_s, lp_s]
    by_cases h0 : c = 0
    · exact text_end hC hs hX hM fp th ta sm pl now row _ _ (by omega) h0
    · have ih : ∀ (g : Nat → Nat → Nat) (ro rd : Nat → Int32), Sok T (N + 1) g → PX (nI T) (nI (N + 1)) ro T (N + 1) g → PM rd 0 T (N + 1) g → ∀ (p c s p' x : Nat) (nx st kd vl to fr kd9 nu : Int32) (w : Int64), Cur n tb tape p c s p' x nx st kd vl to fr kd9 nu w → ∀ (row : Nat → Int32), TextR n th ta sm now (lp (f_X5_read_L35 (nI n) tb) m8 (nI (N + 1 + 1), nI (N + 1 + 1), 0, fp, nx, st, kd, vl, nI T, nI (N + 1), ro, row)) (lp (f_X9_text_L56 tape th ta (nI n) sm now) m9 (nI (N + 1 + 1), to, fr, kd9, nu, 0, pl, w, rd)) := by
        intro g ro rd hs1 hX1 hM1 p c s p' x nx st kd vl to fr kd9 nu w hC1 row
        have := hs1.N13
        match k, hk, h8, h9 with
        | 0, hk, h8, h9 => omega
        | k + 1, hk, h8, h9 => exact text_days hn hv hv9 h4 fp th ta sm pl now k (N + 1) (by omega) (by omega) g ro rd hs1 hX1 hM1 p c s p' x nx st kd vl to fr kd9 nu w hC1 row m8 m9 (by omega) (by omega)
      generalize lp (f_X5_read_L35 (nI n) tb) m8 = self8 at ih ⊢
      generalize lp (f_X9_text_L56 tape th ta (nI n) sm now) m9 = self9 at ih ⊢
      have ekd : kd = nI c := hC.2.2.2.1
      have hc5 := hC.2.1.2.2.1
      unfold f_X5_read_L35
      dsimp only
      rw [if_neg (show ¬ (700 : Int32) ≤ nI (N + 1) from nI_ge (b := 700) (by omega) (by omega)), if_neg (show ¬ kd = 0 by rw [ekd]; exact fun h => h0 ((nI_eq (b := 0) (by omega) (by omega)).mp h)), if_neg (show ¬ nI (N + 1) = 0 from fun h => by have := (nI_eq (b := 0) (by omega) (by omega)).mp h; omega)]
      rcases line_day hn hv hv9 hC hs h4 hX hM (nI (N + 1)) 0 fp th ta sm (nI (N + 1)) 0 pl now row self9 h0 with ⟨f, s', ln', a1, a2, a3, a4, a5, a6, a7, r8, r9⟩ | ⟨q, c2, s2, q', x2, nx2, st2, kd2, vl2, to2, fr2, kd92, nu2, w2, ro2, row2, rd2, g', r8, r9, r11, r12, r13, r14⟩
      · rw [r8, Option.bind_some]
        unfold f_X5_read_J66
        dsimp only
        rw [if_pos zer0]
        exact Or.inl ⟨_, _, _, _, _, _, _, _, _, _, _, rfl, r9⟩
      · rw [r8, Option.bind_some, r9]
        unfold f_X5_read_J66
        dsimp only
        rw [if_neg one0, bd_eq, nI_1]
        exact ih g' ro2 rd2 r12 r13 r14 q c2 s2 q' x2 nx2 st2 kd2 vl2 to2 fr2 kd92 nu2 w2 r11 row2
/-- the reference begins with an empty schedule -/
theorem x9text0 (tape : Nat → Int32) (x1 th ta si to fr kd nu fa pl : Int32) (w : Int64) (sm : Int32) (now rd : Nat → Int32) : ∃ rd0 : Nat → Int32, (∀ j, j < 184 → rd0 j = 0) ∧ lp (f_X9_text_L32 tape x1 th ta si to fr kd nu fa pl w sm now) 20000 (0, rd) = (f_X9_next si to fr kd nu w tape).bind (fun t => match t with | (a, b, c, d, e) => lp (f_X9_text_L56 tape th ta si sm now) 20000 (x1, a, b, c, d, fa, pl, e, rd0)) := by
  refine ⟨fun j => if j < 184 then 0 else rd j, fun j hj => if_pos hj, ?_⟩
  refine lp_spec (I := fun y => ∃ i, i ≤ 184 ∧ y = (nI i, fun j => if j < i then 0 else rd j)) (ms := fun y => 184 - y.1.toNatClampNeg) (res := fun _ => (f_X9_next si to fr kd nu w tape).bind (fun t => match t with | (a, b, c, d, e) => lp (f_X9_text_L56 tape th ta si sm now) 20000 (x1, a, b, c, d, fa, pl, e, fun j => if j < 184 then 0 else rd j))) ?_ 20000 _ ⟨0, by omega, ?_⟩ (by show 184 - _ < _; omega)
  · rintro y ⟨i, hi, rfl⟩ self hself
    unfold f_X9_text_L32
    dsimp only
    by_cases c : 184 ≤ i
    · rw [if_pos (show (184 : Int32) ≤ nI i from (nI_leI (a := 184) (by omega) (by omega)).mpr c), show i = 184 by omega]
    · rw [if_neg (show ¬ (184 : Int32) ≤ nI i from fun h => c ((nI_leI (a := 184) (by omega) (by omega)).mp h)), if_pos (inb_ok (by omega) (by omega)), bd_eq, bd_eq, nI_1, nI_clamp (by omega)]
      refine hself _ ⟨i + 1, by omega, ?_⟩ ?_
      · refine congrArg (Prod.mk _) (funext fun j => ?_)
        unfold upd
        by_cases cj : j = i
        · rw [if_pos cj, if_pos (by omega)]
        · rw [if_neg cj]
          show (if j < i then (0 : Int32) else rd j) = _
          by_cases cj2 : j < i
          · rw [if_pos cj2, if_pos (by omega)]
          · rw [if_neg cj2, if_neg (by omega)]
      · show 184 - (nI (i + 1)).toNatClampNeg < 184 - (nI i).toNatClampNeg
        rw [nI_clamp (by omega), nI_clamp (by omega)]
        omega
  · refine congrArg (Prod.mk _) (funext fun j => ?_)
    rw [if_neg (by omega)]
theorem text_both (hn : n ≤ 740) (hv : ∀ i, i < n → v i < 256 ∧ tb i = nI (v i)) (hv9 : ∀ i, i < n → v i < 256 ∧ tape i = nI (v i)) (ln fk fp nx st kd vl te da : Int32) (ro row : Nat → Int32) (th si to fr kd9 nu fa pl : Int32) (w : Int64) (sm : Int32) (now rd : Nat → Int32) :
    TextR n 0 0 sm now (f_X5_read ln fk fp nx st kd vl te da ro row (nI n) tb) (f_X9_text th (nI n) si to fr kd9 nu fa pl w sm tape now rd) := by
  obtain ⟨rd0, hz, e⟩ := x9text0 tape 0 0 0 (nI n) 0 fr kd9 nu 0 pl w sm now rd
  unfold f_X9_text
  rw [e]
  obtain ⟨c, s, p', x, nx', st', kd', vl', to', fr', kd9', nu', w', e8, e9, hC⟩ := step_both hn hv hv9 (Nat.zero_le n) st kd vl fr kd9 nu w
  have e8' : f_X5_step 0 st kd vl (nI n) tb = some (nx', st', kd', vl') := e8
  have e9' : f_X9_next (nI n) 0 fr kd9 nu w tape = some (to', fr', kd9', nu', w') := e9
  unfold f_X5_read f_X3_clear
  rw [e9', Option.bind_some, Option.bind_some]
  dsimp only
  rw [e8', Option.bind_some]
  dsimp only
  have hs0 : Sok 0 0 (fun _ _ => 0) := ⟨Or.inl ⟨rfl, rfl⟩, fun d t h => by omega, fun d e t h => by omega⟩
  have hX0 : PX (nI 0) (nI 0) ro 0 0 (fun _ _ => 0) := ⟨rfl, rfl, fun d t h => by omega⟩
  have hM0 : PM rd0 0 0 0 (fun _ _ => 0) := ⟨hz 0 (by omega), hz 1 (by omega), fun d t h => by omega⟩
  rw [show (20000 : Nat) = 19999 + 1 from rfl, lp_s, lp_s]
  by_cases h0 : c = 0
  · exact text_end hC (L := 0) hs0 hX0 hM0 0 0 0 sm pl now row _ _ (by omega) h0
  · have ekd : kd' = nI c := hC.2.2.2.1
    have hc5 := hC.2.1.2.2.1
    have ih : ∀ (T : Nat), 4 ≤ T → ∀ (g : Nat → Nat → Nat) (ro rd : Nat → Int32), Sok T 0 g → PX (nI T) (nI 0) ro T 0 g → PM rd 0 T 0 g → ∀ (p c s p' x : Nat) (nx st kd vl to fr kd9 nu : Int32) (w : Int64), Cur n tb tape p c s p' x nx st kd vl to fr kd9 nu w → ∀ (row : Nat → Int32), TextR n 0 0 sm now (lp (f_X5_read_L35 (nI n) tb) 19999 (nI (0 + 1), nI (0 + 1), 0, 0, nx, st, kd, vl, nI T, nI 0, ro, row)) (lp (f_X9_text_L56 tape 0 0 (nI n) sm now) 19999 (nI (0 + 1), to, fr, kd9, nu, 0, pl, w, rd)) := fun T h4 g ro rd h1 h2 h3 p c s p' x nx st kd vl to fr kd9 nu w hC row => text_days hn hv hv9 h4 0 0 0 sm pl now 13 0 (by omega) (by omega) g ro rd h1 h2 h3 p c s p' x nx st kd vl to fr kd9 nu w hC row 19999 19999 (by omega) (by omega)
    generalize lp (f_X5_read_L35 (nI n) tb) 19999 = self8 at ih ⊢
    generalize lp (f_X9_text_L56 tape 0 0 (nI n) sm now) 19999 = self9 at ih ⊢
    unfold f_X5_read_L35
    dsimp only
    rw [if_neg (show ¬ (700 : Int32) ≤ 0 by decide), if_neg (show ¬ kd' = 0 by rw [ekd]; exact fun h => h0 ((nI_eq (b := 0) (by omega) (by omega)).mp h)), if_pos zer0]
    rcases line_teams hn hv hv9 hC hM0 0 0 0 0 0 0 0 sm 0 0 pl now self9 h0 with ⟨f, s', ln', a1, a2, a3, a4, a5, a6, r8, r9⟩ | ⟨T, q, c2, s2, q', x2, nx2, st2, kd2, vl2, to2, fr2, kd92, nu2, w2, rd2, r8, r9, r10, _, r12, r13⟩
    · rw [r8, Option.bind_some]
      unfold f_X5_read_J66
      dsimp only
      rw [if_pos zer0]
      exact Or.inl ⟨_, _, _, _, _, _, _, _, _, _, _, rfl, r9⟩
    · rw [r8, Option.bind_some, r9]
      unfold f_X5_read_J66
      dsimp only
      rw [if_neg one0, bd_eq]
      exact ih T r12.1 (fun _ _ => 0) ro rd2 ⟨Or.inr ⟨r12.1, r12.2.1, r12.2.2, by omega⟩, fun d t h => by omega, fun d e t h => by omega⟩ ⟨rfl, rfl, fun d t h => by omega⟩ r13 q c2 s2 q' x2 nx2 st2 kd2 vl2 to2 fr2 kd92 nu2 w2 r10 row
end
theorem tape_v {n : Nat} {tb tape : Nat → Int32} (h : tapeR n tb tape) : ∃ v : Nat → Nat, (∀ i, i < n → v i < 256 ∧ tb i = nI (v i)) ∧ ∀ i, i < n → v i < 256 ∧ tape i = nI (v i) := by
  have h9 : ∀ i, i < n → (tape i).toNatClampNeg < 256 ∧ tape i = nI (tape i).toNatClampNeg := by
    intro i hi
    obtain ⟨_, v, hv, e⟩ := h i hi
    rw [e, nI_clamp (by omega)]
    exact ⟨hv, rfl⟩
  exact ⟨fun i => (tape i).toNatClampNeg, fun i hi => ⟨(h9 i hi).1, (h i hi).1.trans (h9 i hi).2⟩, h9⟩
theorem st_2 : St_2 rd_Inv := by
  intro k xfk xtl xtb rln rfk rfp rnx rst rkd rvl rpt rpd rpr rrow pt pd pr kt kd kr fi ah an abt abd abr fs fst th ta si to fr mkd nu fa pl w sm tape now rd kept snaps isk hk hI
  obtain ⟨h1, h2, h3, ⟨n, hn, e1, e2, hR⟩, h5, h7⟩ := hI
  subst e1
  subst e2
  obtain ⟨v, hv, hv9⟩ := tape_v hR
  rcases text_both hn hv hv9 rln rfk rfp rnx rst rkd rvl rpt rpd rpr rrow th si to fr mkd nu fa pl w sm now rd with ⟨f, s, ln, a1, a2, a3, a4, a5, a6, a7, a8, r8, a, b, d, e, w', rd', r9⟩ | ⟨L, fp, a1, a2, a3, a4, te, da, ro, row, r8, a, b, d, e, pl', w', rd', r9, hS⟩
  · have e8 : f_X8_text xfk (nI n) xtb rln rfk rfp rnx rst rkd rvl rpt rpd rpr rrow pt pd pr ah = some (-1 - s, f, 0, ln, f, s, a1, a2, a3, a4, a5, a6, a7, a8, pt, pd, pr, ah) := by
      unfold f_X8_text
      rw [r8, Option.bind_some]
      dsimp only
      rw [if_pos zer0]
    exact ⟨_, _, _, _, _, _, _, _, _, _, _, _, _, _, _, _, _, _, _, _, _, _, _, _, _, _, _, _, _, _, _, _, e8, r9, rfl, h1, h2, h3, ⟨0, by omega, rfl, rfl, fun i h => by omega⟩, h5.s, rfl⟩
  · have e8 : f_X8_text xfk (nI n) xtb rln rfk rfp rnx rst rkd rvl rpt rpd rpr rrow pt pd pr ah = some (L, 0, 0, L, 0, fp, a1, a2, a3, a4, te, da, ro, row, te, da, va_cpy ro pr 0 0 182, 0) := by
      unfold f_X8_text f_X0_forget
      rw [r8, Option.bind_some]
      dsimp only
      rw [if_neg one0, x3copy, Option.bind_some]
      dsimp only
      rw [Option.bind_some]
    obtain ⟨_, nx, _, hnx, _, _, e, _⟩ := h2
    exact ⟨_, _, _, _, _, _, _, _, _, _, _, _, _, _, _, _, _, _, _, _, _, _, _, _, _, _, _, _, _, _, _, _, e8, r9, rfl, hS.cpX.cpM, ⟨0, nx, by omega, hnx, rfl, rfl, e, fun j hj => by omega⟩, h3, ⟨0, by omega, rfl, rfl, fun i h => by omega⟩, h5.s, rfl⟩
