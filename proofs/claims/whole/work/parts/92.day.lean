/-! OURS: the text's lines: a day -/
/-- what the reference holds of the token read from the place p -/
def Cur9 (n : Nat) (tb tape : Nat → Int32) (p c s p' x : Nat) (to fr kd9 nu : Int32) (w : Int64) : Prop := p ≤ n ∧ TokE n tb tape p c s p' x ∧ fr = nI s ∧ ∃ k9 : Nat, kd9 = nI k9 ∧ (2 ≤ c → to = nI p') ∧ K9 c k9 nu w x
/-- the pairs told so far -/
def Dn (T N : Nat) (g : Nat → Nat → Nat) (u : Nat → Nat) (row rd : Nat → Int32) (P : Nat → Prop) : Prop := ∀ t, t < T → P t → P (u t) ∧ u t < T ∧ u t ≠ t ∧ u (u t) = t ∧ (∀ d, d < N → g d t ≠ u t) ∧ row t = nI (u t) ∧ rd (2 + 14 * N + t) = nI (u t)
def DL (T N i : Nat) (g : Nat → Nat → Nat) (u : Nat → Nat) (S fi la : Int32) (row rd : Nat → Int32) : Prop := i ≤ pct T (bt S) ∧ PM rd 0 T N g ∧ ((i % 2 = 0 ∧ Dn T N g u row rd (fun t => bt S t = true)) ∨ (i % 2 = 1 ∧ ∃ a, a < T ∧ bt S a = true ∧ fi = nI a ∧ la = nI a ∧ Dn T N g u row rd (fun t => bt S t = true ∧ t ≠ a)))
/-- a team more is told: the set -/
theorem bs_new (S : Int32) {b : Nat} (hb : b < 32) {t : Nat} (ht : t < 32) : bt (S ||| ((1 : Int32) <<< (nI b &&& 31))) t = (bt S t || decide (t = b)) := by
  rw [b_or, b_sh1 b hb ht]
theorem bs_pct {T i b : Nat} {S : Int32} (hT : T ≤ 14) (hb : b < T) (h0 : bt S b = false) (h : i ≤ pct T (bt S)) : i + 1 ≤ pct T (bt (S ||| ((1 : Int32) <<< (nI b &&& 31)))) := by
  rw [pct_add T (bt S) _ b hb h0 (fun j hj => bs_new S (by omega) (by omega))]
  omega
/-- a first team -/
theorem DL.even {T N i b : Nat} {g : Nat → Nat → Nat} {u : Nat → Nat} {S fi la : Int32} {row rd : Nat → Int32} (hT : T ≤ 14) (h : DL T N i g u S fi la row rd) (h2 : i % 2 = 0) (hb : b < T) (h0 : bt S b = false) : DL T N (i + 1) g u (S ||| ((1 : Int32) <<< (nI b &&& 31))) (nI b) (nI b) row rd := by
  obtain ⟨hp, hM, hd⟩ := h
  refine ⟨bs_pct hT hb h0 hp, hM, Or.inr ⟨by omega, b, hb, ?_, rfl, rfl, ?_⟩⟩
  · rw [bs_new S (by omega) (by omega), decide_eq_true rfl, Bool.or_true]
  · rcases hd with ⟨_, hd⟩ | ⟨h3, _⟩
    · intro t ht htS
      have h1 : bt S t = true := by
        have := htS.1
        rw [bs_new S (by omega) (by omega), decide_eq_false htS.2, Bool.or_false] at this
        exact this
      obtain ⟨k1, k2, k3⟩ := hd t ht h1
      refine ⟨⟨?_, fun e => ?_⟩, k2, k3⟩
      · show bt (S ||| ((1 : Int32) <<< (nI b &&& 31))) (u t) = true
        rw [bs_new S (by omega) (by omega), show bt S (u t) = true from k1, Bool.true_or]
      · have k1' : bt S (u t) = true := k1
        rw [e, h0] at k1'
        exact absurd k1' (by decide)
    · omega
def swu (u : Nat → Nat) (a b t : Nat) : Nat := if t = a then b else if t = b then a else u t
/-- a second team -/
theorem DL.odd {T N i b a : Nat} {g : Nat → Nat → Nat} {u : Nat → Nat} {S fi la : Int32} {row rd : Nat → Int32} (hs : Sok T N g) (hN : N < 13) (hp : i ≤ pct T (bt S)) (hM : PM rd 0 T N g) (h2 : i % 2 = 1) (ha : a < T) (haS : bt S a = true) (hd : Dn T N g u row rd (fun t => bt S t = true ∧ t ≠ a)) (hb : b < T) (h0 : bt S b = false) (hm : ∀ d, d < N → g d a ≠ b) : DL T N (i + 1) g (swu u a b) (S ||| ((1 : Int32) <<< (nI b &&& 31))) fi la (upd (upd row a (nI b)) b (nI a)) (upd (upd rd (2 + 14 * N + a) (nI b)) (2 + 14 * N + b) (nI a)) := by
  have hT := hs.T14
  have hab : a ≠ b := fun e => by rw [e, h0] at haS; exact absurd haS (by decide)
  refine ⟨bs_pct hT hb h0 hp, ⟨?_, ?_, fun d t hd' ht => ?_⟩, Or.inl ⟨by omega, ?_⟩⟩
  · rw [upd_ne _ _ (by omega), upd_ne _ _ (by omega)]; exact hM.1
  · rw [upd_ne _ _ (by omega), upd_ne _ _ (by omega)]; exact hM.2.1
  · have : d < N := hd'
    rw [upd_ne _ _ (by omega), upd_ne _ _ (by omega)]; exact hM.2.2 d t hd' ht
  · intro t ht htS
    have htS' : bt (S ||| ((1 : Int32) <<< (nI b &&& 31))) t = true := htS
    by_cases ca : t = a
    · subst ca
      have e1 : swu u t b t = b := if_pos rfl
      have e2 : swu u t b b = t := by unfold swu; rw [if_neg (fun e => hab e.symm), if_pos rfl]
      rw [e1]
      refine ⟨?_, hb, fun e => hab e.symm, e2, hm, ?_, ?_⟩
      · show bt (S ||| ((1 : Int32) <<< (nI b &&& 31))) b = true
        rw [bs_new S (by omega) (by omega), decide_eq_true rfl, Bool.or_true]
      · rw [upd_ne _ _ hab, upd_at]
      · rw [upd_ne _ _ (by omega), upd_at]
    · by_cases cb : t = b
      · subst cb
        have e1 : swu u a t t = a := by unfold swu; rw [if_neg ca, if_pos rfl]
        have e2 : swu u a t a = t := if_pos rfl
        rw [e1]
        refine ⟨?_, ha, hab, e2, fun d hd' e => ?_, ?_, ?_⟩
        · show bt (S ||| ((1 : Int32) <<< (nI t &&& 31))) a = true
          rw [bs_new S (by omega) (by omega), haS, Bool.true_or]
        · have := (hs.2.1 d t hd' ht).2.2
          rw [e] at this
          exact hm d hd' this
        · rw [upd_at]
        · rw [upd_at]
      · have h1 : bt S t = true := by
          rw [bs_new S (by omega) (by omega), decide_eq_false cb, Bool.or_false] at htS'
          exact htS'
        obtain ⟨k1, k2, k3, k4, k5, k6, k7⟩ := hd t ht ⟨h1, ca⟩
        have k1a : bt S (u t) = true := k1.1
        have k1b : u t ≠ a := k1.2
        have k1c : u t ≠ b := fun e => by rw [e, h0] at k1a; exact absurd k1a (by decide)
        have e1 : swu u a b t = u t := by unfold swu; rw [if_neg ca, if_neg cb]
        have e2 : swu u a b (u t) = u (u t) := by unfold swu; rw [if_neg k1b, if_neg k1c]
        rw [e1]
        refine ⟨?_, k2, k3, e2.trans k4, k5, ?_, ?_⟩
        · show bt (S ||| ((1 : Int32) <<< (nI b &&& 31))) (u t) = true
          rw [bs_new S (by omega) (by omega), k1a, Bool.true_or]
        · rw [upd_ne _ _ cb, upd_ne _ _ ca]; exact k6
        · rw [upd_ne _ _ (by omega), upd_ne _ _ (by omega)]; exact k7
/-- all are told: a day that may come -/
theorem DL.full {T N : Nat} {g : Nat → Nat → Nat} {u : Nat → Nat} {S fi la : Int32} {row rd : Nat → Int32} (hT2 : T % 2 = 0) (h : DL T N T g u S fi la row rd) : New T N g u ∧ (∀ t, t < T → row t = nI (u t)) ∧ ∀ t, t < T → rd (2 + 14 * N + t) = nI (u t) := by
  obtain ⟨hp, hM, hd⟩ := h
  have hf := pct_full T (bt S) (by have := pct_max T (bt S); omega)
  rcases hd with ⟨_, hd⟩ | ⟨h3, _⟩
  · refine ⟨fun t ht => ?_, fun t ht => (hd t ht (hf t ht)).2.2.2.2.2.1, fun t ht => (hd t ht (hf t ht)).2.2.2.2.2.2⟩
    obtain ⟨k1, k2, k3, k4, k5, k6, k7⟩ := hd t ht (hf t ht)
    exact ⟨k2, k3, k4, k5⟩
  · omega
/-- both end a day's line alike -/
def DayLR (n T N : Nat) (tb tape : Nat → Int32) (ln fk fp fa pl : Int32) (r8 : Option (Int32 × Int32 × Int32 × Int32 × Int32 × Int32 × Int32 × Int32 × Int32 × (Nat → Int32) × (Nat → Int32))) (r9 : Option (Int32 × Int32 × Int32 × Int32 × Int32 × Int32 × Int32 × Int64 × (Nat → Int32))) : Prop :=
  (∃ f s ln' a1 a2 a3 a4 a5 a6 a7, r8 = some (0, ln', f, s, a1, a2, a3, a4, a5, a6, a7) ∧ ∃ b1 b2 b3 b4 w' rd', r9 = some (0, b1, b2, b3, b4, f, s, w', rd')) ∨
  (∃ (q c2 s2 q' x2 : Nat) (nx2 st2 kd2 vl2 to2 fr2 kd92 nu2 : Int32) (w2 : Int64) (ro2 row2 : Nat → Int32) (e : Nat) (fr3 nu3 : Int32) (w3 : Int64) (rd3 : Nat → Int32) (g' : Nat → Nat → Nat), r8 = some (1, ln + 1, fk, fp, nx2, st2, kd2, vl2, nI (N + 1), ro2, row2) ∧ r9 = some (1, nI e, fr3, 4, nu3, fa, pl, w3, rd3) ∧ f_X9_next (nI n) (nI e) fr3 4 nu3 w3 tape = some (to2, fr2, kd92, nu2, w2) ∧ Cur n tb tape q c2 s2 q' x2 nx2 st2 kd2 vl2 to2 fr2 kd92 nu2 w2 ∧ Sok T (N + 1) g' ∧ PX (nI T) (nI (N + 1)) ro2 T (N + 1) g' ∧ PM rd3 0 T (N + 1) g')
section
variable {n : Nat} {v : Nat → Nat} {tb tape : Nat → Int32}
theorem next9 (hn : n ≤ 740) (hv : ∀ i, i < n → v i < 256 ∧ tb i = nI (v i)) (hv9 : ∀ i, i < n → v i < 256 ∧ tape i = nI (v i)) {p : Nat} (hp : p ≤ n) (fr k0 nu : Int32) (w : Int64) : ∃ c s p' x to' fr' kd9' nu' w', f_X9_next (nI n) (nI p) fr k0 nu w tape = some (to', fr', kd9', nu', w') ∧ Cur9 n tb tape p c s p' x to' fr' kd9' nu' w' := by
  obtain ⟨c, s, p', x, nx, st, kd, vl, to', fr', kd9', nu', w', e8, e9, hC⟩ := step_both hn hv hv9 hp 0 0 0 fr k0 nu w
  obtain ⟨_, hT, _, _, _, _, efr, hk⟩ := hC
  exact ⟨c, s, p', x, to', fr', kd9', nu', w', e9, hp, hT, efr, hk⟩
theorem day_step (hn : n ≤ 740) (hv : ∀ i, i < n → v i < 256 ∧ tb i = nI (v i)) (hv9 : ∀ i, i < n → v i < 256 ∧ tape i = nI (v i)) {T N : Nat} {g : Nat → Nat → Nat} {ro : Nat → Int32} (hs : Sok T N g) (h4 : 4 ≤ T) (hN : N + 1 < T) (hX : PX (nI T) (nI N) ro T N g) (ln fk fp fa pl : Int32) {i p c s p' x : Nat} (hi : i ≤ T) {to fr kd9 nu : Int32} {w : Int64} (hC : Cur9 n tb tape p c s p' x to fr kd9 nu w) {u : Nat → Nat} {S fi la : Int32} {row rd : Nat → Int32} (hD : DL T N i g u S fi la row rd) (st kd vl : Int32)
    (self8 : Int32 × Int32 × Int32 × Int32 × Int32 × Int32 × Int32 × Int32 × Int32 × (Nat → Int32) → Option (Int32 × Int32 × Int32 × Int32 × Int32 × Int32 × Int32 × Int32 × Int32 × (Nat → Int32) × (Nat → Int32)))
    (self9 : Int32 × Int32 × Int32 × Int32 × Int32 × Int32 × Int32 × Int64 × (Nat → Int32) → Option (Int32 × Int32 × Int32 × Int32 × Int32 × Int32 × Int32 × Int64 × (Nat → Int32)))
    (ih : i < T → ∀ (p c s p' x : Nat) (to fr kd9 nu : Int32) (w : Int64), Cur9 n tb tape p c s p' x to fr kd9 nu w → ∀ (u : Nat → Nat) (S fi la : Int32) (row rd : Nat → Int32), DL T N (i + 1) g u S fi la row rd → ∀ (st kd vl : Int32), DayLR n T N tb tape ln fk fp fa pl (self8 (S, fi, nI (i + 1), fk, fp, nI p, st, kd, vl, row)) (self9 (S, la, nI (i + 1), to, fr, kd9, nu, w, rd))) :
    DayLR n T N tb tape ln fk fp fa pl (f_X5_readDay_L46 (nI T) (nI n) tb ln (nI N) ro self8 (S, fi, nI i, fk, fp, nI p, st, kd, vl, row)) (f_X9_readDay_L33 (nI n) tape fa pl self9 (S, la, nI i, to, fr, kd9, nu, w, rd)) := by
  have hT14 := hs.T14
  have hN13 := hs.N13
  have hT2 : T % 2 = 0 := by have := hs.1; omega
  obtain ⟨hp, hT, efr, k9, ek9, hto, hK⟩ := hC
  have hM : PM rd 0 T N g := hD.2.1
  have er0 : rd (0 : Int32).toNatClampNeg = nI T := hM.1
  have er1 : rd (1 : Int32).toNatClampNeg = nI N := hM.2.1
  have hc5 := hT.2.2.1
  obtain ⟨nx1, vl1, e8, hvl, hnx⟩ := hT.2.2.2.2.1 st kd vl
  unfold f_X5_readDay_L46 f_X9_readDay_L33
  dsimp only
  rw [if_pos inb0, er0]
  by_cases ci : T ≤ i
  · have hiT : i = T := by omega
    rw [if_pos ((nI_leI (by omega) (by omega)).mpr ci), if_pos ((nI_leI (by omega) (by omega)).mpr ci)]
    unfold f_X5_readLineEnd
    rw [e8, Option.bind_some]
    dsimp only
    by_cases c2 : c = 2
    · have hp'n := hT.2.1
      obtain ⟨c3, s3, p3, x3', nx3, st3, kd3, vl3, to3, fr3, kd93, nu3, w3, e83, e93, hC3⟩ := step_both hn hv hv9 hp'n (nI s) (nI c) vl1 fr 4 nu w
      have hfull := DL.full hT2 (hiT ▸ hD)
      have hs1 := hs.ap (by omega) hfull.1
      obtain ⟨ro', ea, hX'⟩ := x3append (u := u) hs hs1 hX row hfull.2.1
      rw [if_pos (show nI c = 2 from congrArg nI c2), bd_eq, hnx (by omega), e83, Option.bind_some]
      dsimp only
      rw [Option.bind_some]
      dsimp only
      rw [if_neg one0, ea, Option.bind_some, if_pos (show kd9 = 4 by rw [ek9]; exact hK.k4.mpr c2), if_pos inb1, if_pos inb1, bd_eq, er1, nI_1]
      dsimp only
      refine Or.inr ⟨p', c3, s3, p3, x3', nx3, st3, kd3, vl3, to3, fr3, kd93, nu3, w3, ro', row, p', fr, nu, w, upd rd 1 (nI (N + 1)), apg N g u, rfl, ?_, e93, hC3, hs1, hX', ?_, ?_, fun d t hd ht => ?_⟩
      · rw [hto (by omega), show kd9 = 4 by rw [ek9]; exact hK.k4.mpr c2] <;> rfl
      · show upd rd 1 (nI (N + 1)) 0 = nI T
        rw [upd_ne _ _ (by omega)]
        exact hM.1
      · show upd rd 1 (nI (N + 1)) 1 = nI (N + 1)
        rw [upd_at]
      · show upd rd 1 (nI (N + 1)) (0 + 2 + 14 * d + t) = nI (apg N g u d t)
        rw [upd_ne _ _ (by omega)]
        unfold apg
        by_cases cd : d < N
        · rw [if_pos cd]; exact hM.2.2 d t cd ht
        · rw [if_neg cd, show d = N by omega, Nat.zero_add]; exact hfull.2.2 t ht
    · unfold f_X5_refuse
      rw [if_neg (show ¬ nI c = 2 from fun h => c2 ((nI_eq (b := 2) (by omega) (by omega)).mp h)), if_neg (show ¬ kd9 = 4 by rw [ek9]; exact fun h => c2 (hK.k4.mp h)), bad_1, Option.bind_some, Option.bind_some]
      dsimp only
      rw [if_pos (Or.inl rfl), if_pos (Or.inl rfl), Option.bind_some]
      dsimp only
      rw [if_pos zer0, efr]
      exact Or.inl ⟨_, _, _, _, _, _, _, _, _, _, rfl, _, _, _, _, _, _, rfl⟩
  · rw [if_neg (show ¬ nI T ≤ nI i from fun h => ci ((nI_leI (by omega) (by omega)).mp h)), if_neg (show ¬ nI T ≤ nI i from fun h => ci ((nI_leI (by omega) (by omega)).mp h)), e8, Option.bind_some]
    dsimp only
    unfold f_X5_readTeam
    by_cases c3 : c = 3
    · obtain ⟨enu, hx⟩ := hK.num c3
      have evl := hvl c3
      have hbad2 : ¬ kd9 = 1 := by rw [ek9]; exact hK.k1 (by omega)
      rw [if_pos (show nI c = 3 from congrArg nI c3), if_pos (show kd9 = 3 by rw [ek9]; exact hK.k3.mpr c3), if_pos inb0, enu, evl]
      by_cases cx : x < T
      · rw [x3hasTeam_in hT14 cx, Option.bind_some, if_neg one0, if_pos (nI_lt cx (by omega))]
        cases hb : bt S x with
        | true =>
          rw [if_neg (show ¬ (S >>> (nI x &&& 31)) &&& 1 = 0 by rw [bit0 S x (by omega), hb]; decide), x9has_t (by omega) hb, Option.bind_some, if_neg one0, bad_n hbad2, Option.bind_some]
          unfold f_X5_refuse
          rw [Option.bind_some]
          dsimp only
          rw [if_pos zer0, if_pos (Or.inl rfl), Option.bind_some]
          dsimp only
          rw [if_pos zer0, efr]
          exact Or.inl ⟨_, _, _, _, _, _, _, _, _, _, rfl, _, _, _, _, _, _, rfl⟩
        | false =>
          rw [if_pos (show (S >>> (nI x &&& 31)) &&& 1 = 0 by rw [bit0 S x (by omega)]; exact hb), x9has_f (by omega) hb, Option.bind_some, Option.bind_some, if_pos zer0]
          dsimp only
          rw [if_neg one0, bd_eq]
          have hp'n := hT.2.1
          obtain ⟨c4, s4, p4, x4', to4, fr4, kd94, nu4, w4, e94, hC4⟩ := next9 hn hv hv9 hp'n fr kd9 (nI x) w
          rcases par2 i (by omega) with ⟨q1, q2, q3⟩ | ⟨q1, q2, q3⟩
          · have hD' := hD.even hT14 q1 cx hb
            unfold f_X9_readDay_J116 f_X9_readDay_J146
            dsimp only
            rw [if_pos q2, if_neg q3, bd_eq, bd_eq, if_neg q3, hto (by omega), e94, Option.bind_some, hnx (by omega)]
            dsimp only
            rw [bd_eq, nI_1]
            exact ih (by omega) p' c4 s4 p4 x4' to4 fr4 kd94 nu4 w4 hC4 u _ _ _ row rd hD' _ _ _
          · obtain ⟨hpc, _, hd⟩ := hD
            rcases hd with ⟨h3, _⟩ | ⟨_, a, ha, haS, efi, ela, hd⟩
            · omega
            · have hax : a ≠ x := fun e => by rw [e, hb] at haS; exact absurd haS (by decide)
              unfold f_X5_readPair
              rw [if_neg q2, if_pos q3, efi, ela, x3dayOf hs hX ha cx hax, x9metOn hs 184 (by omega) (by omega) hM ha cx, Option.bind_some, Option.bind_some]
              rcases mo_cases hs a x ha with ⟨d, hd1, hd2, hd3⟩ | ⟨hd1, hd3⟩
              · unfold f_X5_refuse
                rw [hd3, if_neg (show ¬ nI d = -1 from fun h => (nI_nm1 (by omega)).mp h), if_neg (show ¬ nI d = -1 from fun h => (nI_nm1 (by omega)).mp h), bad_n hbad2, Option.bind_some, Option.bind_some]
                dsimp only
                rw [if_pos (Or.inl rfl), if_pos (Or.inl rfl), Option.bind_some]
                dsimp only
                rw [if_pos zer0, efr]
                exact Or.inl ⟨_, _, _, _, _, _, _, _, _, _, rfl, _, _, _, _, _, _, rfl⟩
              · have hD' := DL.odd (i := i) (fi := nI a) (la := nI x) hs (by omega) hpc hM q1 ha haS hd cx hb hd1
                unfold f_X9_readDay_J116 f_X9_readDay_J146
                dsimp only
                rw [hd3, if_pos rfl, if_pos rfl, x3has2_in T (by omega) ha cx hax, Option.bind_some, if_neg one0, if_pos (inb_ok (by omega) (by omega)), bd_eq, if_pos (inb_ok (by omega) (by omega)), bd_eq, nI_clamp (by omega), nI_clamp (by omega), Option.bind_some, bd_eq, bd_eq, if_pos q3, if_pos inb1, er1, x9pairs_at 184 (by omega) (by omega) rd (by omega) (by omega) (by omega), Option.bind_some, hto (by omega), e94, Option.bind_some, hnx (by omega)]
                dsimp only
                rw [if_neg one0, bd_eq, nI_1]
                exact ih (by omega) p' c4 s4 p4 x4' to4 fr4 kd94 nu4 w4 hC4 _ _ _ _ _ _ hD' _ _ _
      · rw [x3hasTeam_out hT14 (fun ⟨t, ht, e⟩ => cx (by rw [nI_eq (by omega) (by omega)] at e; omega)), Option.bind_some, if_pos zer0, if_neg (nI_nlt (by omega) (by omega)), bad_n hbad2, Option.bind_some]
        unfold f_X5_refuse
        rw [Option.bind_some]
        dsimp only
        rw [if_pos (Or.inl rfl), if_pos (Or.inl rfl), Option.bind_some]
        dsimp only
        rw [if_pos zer0, efr]
        exact Or.inl ⟨_, _, _, _, _, _, _, _, _, _, rfl, _, _, _, _, _, _, rfl⟩
    · unfold f_X5_refuse
      rw [if_neg (show ¬ nI c = 3 from fun h => c3 ((nI_eq (b := 3) (by omega) (by omega)).mp h)), if_neg (show ¬ kd9 = 3 by rw [ek9]; exact fun h => c3 (hK.k3.mp h)), bad_1, Option.bind_some, Option.bind_some]
      dsimp only
      rw [if_pos (Or.inl rfl), if_pos (Or.inl rfl), Option.bind_some]
      dsimp only
      rw [if_pos zer0, efr]
      exact Or.inl ⟨_, _, _, _, _, _, _, _, _, _, rfl, _, _, _, _, _, _, rfl⟩
end
