/-! OURS: the text's lines: the first -/
section
variable {c k9 x : Nat} {nu : Int32} {w : Int64}
theorem K9.lt (h : K9 c k9 nu w x) : k9 ≤ 4 := by
  rcases h with ⟨_, h⟩ | ⟨_, h | ⟨h, _⟩⟩ | ⟨_, h⟩ | ⟨_, h, _⟩ | ⟨_, h, _⟩ | ⟨_, h, _⟩ <;> omega
theorem K9.k3 (h : K9 c k9 nu w x) : nI k9 = 3 ↔ c = 3 := by
  have hl := h.lt
  have e : nI k9 = 3 ↔ k9 = 3 := nI_eq (b := 3) (by omega) (by omega)
  rw [e]
  rcases h with ⟨h1, h⟩ | ⟨h1, h | ⟨h, _⟩⟩ | ⟨h1, h⟩ | ⟨h1, h, _⟩ | ⟨h1, h, _⟩ | ⟨h1, h, _⟩ <;> omega
theorem K9.k4 (h : K9 c k9 nu w x) : nI k9 = 4 ↔ c = 2 := by
  have hl := h.lt
  have e : nI k9 = 4 ↔ k9 = 4 := nI_eq (b := 4) (by omega) (by omega)
  rw [e]
  rcases h with ⟨h1, h⟩ | ⟨h1, h | ⟨h, _⟩⟩ | ⟨h1, h⟩ | ⟨h1, h, _⟩ | ⟨h1, h, _⟩ | ⟨h1, h, _⟩ <;> omega
theorem K9.k0 (h : K9 c k9 nu w x) : nI k9 = 0 ↔ c = 0 := by
  have hl := h.lt
  have e : nI k9 = 0 ↔ k9 = 0 := nI_eq (b := 0) (by omega) (by omega)
  rw [e]
  rcases h with ⟨h1, h⟩ | ⟨h1, h | ⟨h, _⟩⟩ | ⟨h1, h⟩ | ⟨h1, h, _⟩ | ⟨h1, h, _⟩ | ⟨h1, h, _⟩ <;> omega
theorem K9.k1 (h : K9 c k9 nu w x) (h1 : c ≠ 1) : ¬ nI k9 = 1 := by
  have hl := h.lt
  have e : nI k9 = 1 ↔ k9 = 1 := nI_eq (b := 1) (by omega) (by omega)
  rw [e]
  rcases h with ⟨_, h⟩ | ⟨h2, _⟩ | ⟨_, h⟩ | ⟨_, h, _⟩ | ⟨_, h, _⟩ | ⟨_, h, _⟩ <;> omega
theorem K9.num (h : K9 c k9 nu w x) (h3 : c = 3) : nu = nI x ∧ x < 100 := by
  rcases h with ⟨h1, h⟩ | ⟨h1, h⟩ | ⟨h1, h⟩ | ⟨h1, h, h2⟩ | ⟨h1, h, _⟩ | ⟨h1, h, _⟩
  · omega
  · omega
  · omega
  · exact h2
  · omega
  · omega
theorem tdC : lN tC ≠ lN dC := by decide +kernel
theorem K9.isT (h : K9 c k9 nu w x) : ∃ r, f_X9_isWord (nI k9) w (lN tC) = some r ∧ ((r = 1 ∧ c = 4) ∨ (r = 0 ∧ c ≠ 4)) := by
  unfold f_X9_isWord
  have hl := h.lt
  have e : nI k9 = 2 ↔ k9 = 2 := nI_eq (b := 2) (by omega) (by omega)
  by_cases c2 : k9 = 2
  · rw [if_pos (e.mpr c2)]
    by_cases c3 : w = lN tC
    · rw [if_pos ((lg_cmp_eq _ _).mpr c3)]
      refine ⟨_, rfl, Or.inl ⟨rfl, ?_⟩⟩
      rcases h with ⟨h1, h⟩ | ⟨h1, h | ⟨h, h2, _⟩⟩ | ⟨h1, h⟩ | ⟨h1, h, _⟩ | ⟨h1, h, _⟩ | ⟨h1, h, h2⟩
      · omega
      · omega
      · exact absurd c3 h2
      · omega
      · omega
      · exact h1
      · exact absurd (c3.symm.trans h2) tdC
    · rw [if_neg (fun h2 => c3 ((lg_cmp_eq _ _).mp h2))]
      refine ⟨_, rfl, Or.inr ⟨rfl, fun hc => ?_⟩⟩
      rcases h with ⟨h1, h⟩ | ⟨h1, h⟩ | ⟨h1, h⟩ | ⟨h1, h, _⟩ | ⟨h1, h, h2⟩ | ⟨h1, h, _⟩
      · omega
      · omega
      · omega
      · omega
      · exact c3 h2
      · omega
  · rw [if_neg (fun h2 => c2 (e.mp h2))]
    refine ⟨_, rfl, Or.inr ⟨rfl, fun hc => ?_⟩⟩
    rcases h with ⟨h1, h⟩ | ⟨h1, h⟩ | ⟨h1, h⟩ | ⟨h1, h, _⟩ | ⟨h1, h, h2⟩ | ⟨h1, h, _⟩ <;> omega
theorem K9.isD (h : K9 c k9 nu w x) : ∃ r, f_X9_isWord (nI k9) w (lN dC) = some r ∧ ((r = 1 ∧ c = 5) ∨ (r = 0 ∧ c ≠ 5)) := by
  unfold f_X9_isWord
  have hl := h.lt
  have e : nI k9 = 2 ↔ k9 = 2 := nI_eq (b := 2) (by omega) (by omega)
  by_cases c2 : k9 = 2
  · rw [if_pos (e.mpr c2)]
    by_cases c3 : w = lN dC
    · rw [if_pos ((lg_cmp_eq _ _).mpr c3)]
      refine ⟨_, rfl, Or.inl ⟨rfl, ?_⟩⟩
      rcases h with ⟨h1, h⟩ | ⟨h1, h | ⟨h, _, h2⟩⟩ | ⟨h1, h⟩ | ⟨h1, h, _⟩ | ⟨h1, h, h2⟩ | ⟨h1, h, h2⟩
      · omega
      · omega
      · exact absurd c3 h2
      · omega
      · omega
      · exact absurd (h2.symm.trans c3) tdC
      · exact h1
    · rw [if_neg (fun h2 => c3 ((lg_cmp_eq _ _).mp h2))]
      refine ⟨_, rfl, Or.inr ⟨rfl, fun hc => ?_⟩⟩
      rcases h with ⟨h1, h⟩ | ⟨h1, h⟩ | ⟨h1, h⟩ | ⟨h1, h, _⟩ | ⟨h1, h, _⟩ | ⟨h1, h, h2⟩
      · omega
      · omega
      · omega
      · omega
      · omega
      · exact c3 h2
  · rw [if_neg (fun h2 => c2 (e.mp h2))]
    refine ⟨_, rfl, Or.inr ⟨rfl, fun hc => ?_⟩⟩
    rcases h with ⟨h1, h⟩ | ⟨h1, h⟩ | ⟨h1, h⟩ | ⟨h1, h, _⟩ | ⟨h1, h, h2⟩ | ⟨h1, h, _⟩ <;> omega
end
theorem bad_1 (fr k f pl : Int32) : f_X9_bad fr k f pl 1 = some (0, 1, fr) := by
  unfold f_X9_bad f_X9_bad_J14
  by_cases c : k = 1
  · rw [if_pos c]
  · rw [if_neg c]
theorem bad_n {fr k f pl a : Int32} (h : ¬ k = 1) : f_X9_bad fr k f pl a = some (0, a, fr) := by
  unfold f_X9_bad f_X9_bad_J14
  rw [if_neg h]
/-- where both stand: a token read from the place p -/
def Cur (n : Nat) (tb tape : Nat → Int32) (p c s p' x : Nat) (nx st kd vl to fr kd9 nu : Int32) (w : Int64) : Prop := p ≤ n ∧ TokE n tb tape p c s p' x ∧ st = nI s ∧ kd = nI c ∧ (c = 3 → vl = nI x) ∧ (2 ≤ c → nx = nI p') ∧ fr = nI s ∧ ∃ k9 : Nat, kd9 = nI k9 ∧ (2 ≤ c → to = nI p') ∧ K9 c k9 nu w x
section
variable {n : Nat} {v : Nat → Nat} {tb tape : Nat → Int32}
theorem step_both (hn : n ≤ 740) (hv : ∀ i, i < n → v i < 256 ∧ tb i = nI (v i)) (hv9 : ∀ i, i < n → v i < 256 ∧ tape i = nI (v i)) {p : Nat} (hp : p ≤ n) (st k vl fr k0 nu : Int32) (w : Int64) : ∃ c s p' x nx' st' kd' vl' to' fr' kd9' nu' w', f_X5_step (nI p) st k vl (nI n) tb = some (nx', st', kd', vl') ∧ f_X9_next (nI n) (nI p) fr k0 nu w tape = some (to', fr', kd9', nu', w') ∧ Cur n tb tape p c s p' x nx' st' kd' vl' to' fr' kd9' nu' w' := by
  obtain ⟨c, s, p', x, h⟩ := tok_ex hn hv hv9 hp
  obtain ⟨nx, vl', e8, h1, h2⟩ := h.2.2.2.2.1 st k vl
  obtain ⟨to', k9, nu', w', e9, h3, h4⟩ := h.2.2.2.2.2 fr k0 nu w
  exact ⟨c, s, p', x, _, _, _, _, _, _, _, _, _, e8, e9, hp, h, rfl, rfl, h1, h2, rfl, k9, rfl, h3, h4⟩
/-- a line goes wrong, in both alike -/
def LineNo (n : Nat) (tb tape : Nat → Int32) (r8 : Option (Int32 × Int32 × Int32 × Int32)) (r9 : Option (Int32 × Int32 × Int32 × Int32 × Int32 × Int32 × Int32 × Int32 × Int32 × Int32 × Int64 × Int32 × (Nat → Int32) × (Nat → Int32))) (th ta sm : Int32) (now : Nat → Int32) : Prop := ∃ (f s : Int32) (ln : Int32), r8 = some (0, ln, f, s) ∧ ∃ a b d e w' rd, r9 = some (-1 - s, th, ta, nI n, a, b, d, e, f, s, w', sm, now, rd)
theorem par2 : ∀ n, n < 15 → (n % 2 = 0 ∧ (nI n &&& 1) = 0 ∧ ¬ (nI n - nI n / 2 * 2) = 1) ∨ (n % 2 = 1 ∧ ¬ (nI n &&& 1) = 0 ∧ (nI n - nI n / 2 * 2) = 1) := by decide +kernel
theorem line_teams (hn : n ≤ 740) (hv : ∀ i, i < n → v i < 256 ∧ tb i = nI (v i)) (hv9 : ∀ i, i < n → v i < 256 ∧ tape i = nI (v i)) {p c s p' x : Nat} {nx st kd vl to fr kd9 nu : Int32} {w : Int64} (hC : Cur n tb tape p c s p' x nx st kd vl to fr kd9 nu w) {rd : Nat → Int32} {g : Nat → Nat → Nat} (hM : PM rd 0 0 0 g) (ln fk fp pt pd th ta sm x1 fa pl : Int32) (now : Nat → Int32) (self : Int32 × Int32 × Int32 × Int32 × Int32 × Int32 × Int32 × Int64 × (Nat → Int32) → Option (Int32 × Int32 × Int32 × Int32 × Int32 × Int32 × Int32 × Int32 × Int32 × Int32 × Int64 × Int32 × (Nat → Int32) × (Nat → Int32))) (h0 : c ≠ 0) :
    (∃ f s ln' a1 a2 a3 a4 a5 a6, f_X5_readTeams ln fk fp nx st kd vl pt pd (nI n) tb = some (0, ln', f, s, a1, a2, a3, a4, a5, a6) ∧ ∃ a b d e w' rd', f_X9_text_L56 tape th ta (nI n) sm now self (x1, to, fr, kd9, nu, fa, pl, w, rd) = some (-1 - s, th, ta, nI n, a, b, d, e, f, s, w', sm, now, rd')) ∨
    (∃ T q c2 s2 q' x2 nx2 st2 kd2 vl2 to2 fr2 kd92 nu2 w2 rd2, f_X5_readTeams ln fk fp nx st kd vl pt pd (nI n) tb = some (1, ln + 1, fk, fp, nx2, st2, kd2, vl2, nI T, 0) ∧ f_X9_text_L56 tape th ta (nI n) sm now self (x1, to, fr, kd9, nu, fa, pl, w, rd) = self (x1 + 1, to2, fr2, kd92, nu2, fa, pl, w2, rd2) ∧ Cur n tb tape q c2 s2 q' x2 nx2 st2 kd2 vl2 to2 fr2 kd92 nu2 w2 ∧ p + 2 ≤ q ∧ (4 ≤ T ∧ T ≤ 14 ∧ T % 2 = 0) ∧ PM rd2 0 T 0 g) := by
  obtain ⟨hp, hT, est, ekd, hvl, hnx, efr, k9, ek9, hto, hK⟩ := hC
  have hc5 := hT.2.2.1
  have er0 : rd (0 : Int32).toNatClampNeg = 0 := hM.1
  unfold f_X5_readTeams f_X9_text_L56 f_X9_readLine
  dsimp only
  rw [if_neg (show ¬ kd9 = 0 by rw [ek9]; exact fun h => h0 (hK.k0.mp h)), if_pos inb0, if_pos er0, tC_eq, Option.bind_some]
  obtain ⟨r, er, hr⟩ := hK.isT
  rw [ek9, er, Option.bind_some]
  rcases hr with ⟨rfl, rfl⟩ | ⟨rfl, hc⟩
  · -- the word teams
    have hpp := hT.1 (by omega)
    have hp'n := hT.2.1
    rw [if_neg one0, if_pos (show kd = 4 from ekd)]
    have en : nx = nI p' := hnx (by omega)
    have et : to = nI p' := hto (by omega)
    obtain ⟨c1, s1, p1, x1', nx1, st1, kd1, vl1, to1, fr1, kd91, nu1, w1, e8, e9, hC1⟩ := step_both hn hv hv9 hp'n st kd vl fr (nI k9) nu w
    obtain ⟨_, hT1, est1, ekd1, hvl1, hnx1, efr1, k91, ek91, hto1, hK1⟩ := hC1
    unfold f_X9_readTeams
    rw [en, et, e8, e9, Option.bind_some, Option.bind_some]
    dsimp only
    have hc15 := hT1.2.2.1
    by_cases c13 : c1 = 3
    · obtain ⟨enu, hx⟩ := hK1.num c13
      have evl := hvl1 c13
      rw [if_pos (show kd1 = 3 by rw [ekd1, c13]; rfl), if_pos (show kd91 = 3 by rw [ek91]; exact hK1.k3.mpr c13), enu, evl]
      have hbad2 : ¬ kd91 = 1 := by rw [ek91]; exact hK1.k1 (by omega)
      by_cases c4 : x1' < 4
      · have h4 : nI x1' < 4 := show nI x1' < nI 4 from nI_lt c4 (by omega)
        rw [if_pos h4, x9isIn414_n (Or.inl h4), Option.bind_some, if_pos zer0, bad_n hbad2, Option.bind_some]
        unfold f_X5_refuse
        rw [Option.bind_some]
        dsimp only
        rw [if_pos (Or.inl rfl), if_pos (Or.inl rfl), Option.bind_some]
        dsimp only
        rw [if_pos (Or.inl rfl), Option.bind_some]
        dsimp only
        rw [if_pos zer0, efr1, est1]
        exact Or.inl ⟨_, _, _, _, _, _, _, _, _, rfl, _, _, _, _, _, _, rfl⟩
      · have h4 : ¬ nI x1' < 4 := show ¬ nI x1' < nI 4 from nI_nlt (by omega) (by omega)
        by_cases c14 : 14 < x1'
        · have h14 : 14 < nI x1' := show nI 14 < nI x1' from nI_lt c14 (by omega)
          rw [if_neg h4, if_pos h14, x9isIn414_n (Or.inr ⟨h14, h4⟩), Option.bind_some, if_pos zer0, bad_n hbad2, Option.bind_some]
          unfold f_X5_refuse
          rw [Option.bind_some]
          dsimp only
          rw [if_pos (Or.inl rfl), if_pos (Or.inl rfl), Option.bind_some]
          dsimp only
          rw [if_pos (Or.inl rfl), Option.bind_some]
          dsimp only
          rw [if_pos zer0, efr1, est1]
          exact Or.inl ⟨_, _, _, _, _, _, _, _, _, rfl, _, _, _, _, _, _, rfl⟩
        · have h14 : ¬ 14 < nI x1' := show ¬ nI 14 < nI x1' from nI_nlt (by omega) (by omega)
          rw [if_neg h4, if_neg h14, x9isIn414_y h4 h14, Option.bind_some, if_neg one0]
          rcases par2 x1' (by omega) with ⟨q1, q2, q3⟩ | ⟨q1, q2, q3⟩
          · have hp1n := hT1.2.1
            have hp1 := hT1.1 (by omega)
            have en1 : nx1 = nI p1 := hnx1 (by omega)
            have et1 : to1 = nI p1 := hto1 (by omega)
            obtain ⟨c2, s2, p2, x2', nx2, st2, kd2, vl2, to2, fr2, kd92, nu2, w2, e82, e92, hC2⟩ := step_both hn hv hv9 hp1n st1 kd1 (nI x1') fr1 kd91 (nI x1') w1
            obtain ⟨_, hT2, est2, ekd2, hvl2, hnx2, efr2, k92, ek92, hto2, hK2⟩ := hC2
            unfold f_X3_clear f_X5_readLineEnd f_X9_readEnd
            rw [if_pos q2, if_neg q3, if_pos inb0, bd_eq, en1, et1, Option.bind_some, e82, e92, Option.bind_some, Option.bind_some]
            dsimp only
            rw [Option.bind_some]
            dsimp only
            rw [if_pos (Or.inr rfl), Option.bind_some]
            dsimp only
            rw [if_neg one0]
            by_cases c22 : c2 = 2
            · have hp2n := hT2.2.1
              have hp2 := hT2.1 (by omega)
              have en2 : nx2 = nI p2 := hnx2 (by omega)
              have et2 : to2 = nI p2 := hto2 (by omega)
              obtain ⟨c3, s3, p3, x3', nx3, st3, kd3, vl3, to3, fr3, kd93, nu3, w3, e83, e93, hC3⟩ := step_both hn hv hv9 hp2n st2 kd2 vl2 fr2 kd92 nu2 w2
              rw [if_pos (show kd2 = 2 by rw [ekd2, c22]; rfl), if_pos (show kd92 = 4 by rw [ek92]; exact hK2.k4.mpr c22), bd_eq, en2, et2, e83, e93, Option.bind_some, Option.bind_some]
              dsimp only
              rw [Option.bind_some, Option.bind_some]
              dsimp only
              rw [if_pos (Or.inr rfl), if_neg one0, bd_eq]
              refine Or.inr ⟨x1', p2, c3, s3, p3, x3', _, _, _, _, _, _, _, _, _, _, rfl, rfl, hC3, by omega, ⟨by omega, by omega, q1⟩, ?_⟩
              refine ⟨upd_at _ _ _, ?_, fun d t hd => by omega⟩
              show upd rd 0 (nI x1') 1 = nI 0
              rw [upd_ne _ _ (by omega)]
              exact hM.2.1
            · unfold f_X5_refuse
              rw [if_neg (show ¬ kd2 = 2 by rw [ekd2]; exact fun h => c22 ((nI_eq (b := 2) (by have := hT2.2.2.1; omega) (by omega)).mp h)), if_neg (show ¬ kd92 = 4 by rw [ek92]; exact fun h => c22 (hK2.k4.mp h)), bad_1, Option.bind_some, Option.bind_some]
              dsimp only
              rw [if_pos (Or.inl rfl), if_pos (Or.inl rfl), Option.bind_some, Option.bind_some]
              dsimp only
              rw [if_pos (Or.inl rfl), if_pos zer0, efr2, est2]
              exact Or.inl ⟨_, _, _, _, _, _, _, _, _, rfl, _, _, _, _, _, _, rfl⟩
          · rw [if_neg q2, if_pos q3, bad_n hbad2, Option.bind_some]
            unfold f_X5_refuse
            rw [Option.bind_some]
            dsimp only
            rw [if_pos (Or.inl rfl), if_pos (Or.inl rfl), Option.bind_some]
            dsimp only
            rw [if_pos (Or.inl rfl), Option.bind_some]
            dsimp only
            rw [if_pos zer0, efr1, est1]
            exact Or.inl ⟨_, _, _, _, _, _, _, _, _, rfl, _, _, _, _, _, _, rfl⟩
    · unfold f_X5_refuse
      rw [if_neg (show ¬ kd1 = 3 by rw [ekd1]; exact fun h => c13 ((nI_eq (b := 3) (by omega) (by omega)).mp h)), if_neg (show ¬ kd91 = 3 by rw [ek91]; exact fun h => c13 (hK1.k3.mp h)), bad_1, Option.bind_some, Option.bind_some]
      dsimp only
      rw [if_pos (Or.inl rfl), if_pos (Or.inl rfl), Option.bind_some]
      dsimp only
      rw [if_pos (Or.inl rfl), Option.bind_some]
      dsimp only
      rw [if_pos zer0, efr1, est1]
      exact Or.inl ⟨_, _, _, _, _, _, _, _, _, rfl, _, _, _, _, _, _, rfl⟩
  · unfold f_X5_refuse
    rw [if_pos zer0, if_neg (show ¬ kd = 4 by rw [ekd]; exact fun h => hc ((nI_eq (b := 4) (by omega) (by omega)).mp h)), bad_1, Option.bind_some, Option.bind_some]
    dsimp only
    rw [if_pos (Or.inl rfl), if_pos (Or.inl rfl), Option.bind_some]
    dsimp only
    rw [if_pos zer0, efr, est]
    exact Or.inl ⟨_, _, _, _, _, _, _, _, _, rfl, _, _, _, _, _, _, rfl⟩
end
