/-! OURS: sure, the call -/
section
variable {T N : Nat} {g : Nat → Nat → Nat} {te da : Int32} {ro no : Nat → Int32}
theorem Fg_sym (hs : Sok T N g) {a b : Nat} (ha : a < T) (h : Fg T N g a b = true) : Fg T N g b a = true := by
  obtain ⟨h1, h2, h3⟩ := Fg_iff.mp h
  refine Fg_iff.mpr ⟨ha, fun e => h2 e.symm, fun d hd e => h3 d hd ?_⟩
  rw [← e]
  exact (hs.2.1 d b hd h1).2.2
/-- the sure partner: its number of ways is all -/
def SureR (T N : Nat) (g : Nat → Nat → Nat) (t : Nat) (r : Int32) : Prop := (Wn (Fg T N g) (((1 : Int32) <<< (nI T &&& 31)) - 1) ≠ 0 ∧ ∃ x, x < T ∧ x ≠ t ∧ Fg T N g t x = true ∧ Wn (Fg T N g) (del (((1 : Int32) <<< (nI T &&& 31)) - 1) t x) = Wn (Fg T N g) (((1 : Int32) <<< (nI T &&& 31)) - 1) ∧ r = nI x) ∨ (r = -1 ∧ (Wn (Fg T N g) (((1 : Int32) <<< (nI T &&& 31)) - 1) = 0 ∨ ∀ x, x < T → x ≠ t → Fg T N g t x = true → Wn (Fg T N g) (del (((1 : Int32) <<< (nI T &&& 31)) - 1) t x) ≠ Wn (Fg T N g) (((1 : Int32) <<< (nI T &&& 31)) - 1)))
theorem x9sure (hs : Sok T N g) (hM : PM no 0 T N g) {t : Nat} (ht : t < T) (th : Int32) (w : Nat → Int32) : ∃ r w', f_X9_sure th no w (nI t) = some (r, 0, w') ∧ SureR T N g t r := by
  have hT := hs.T14
  have hN := hs.N13
  have hp := pow_le hT
  have hp1 : 1 < 2 ^ T := Nat.one_lt_two_pow (by omega)
  obtain ⟨w', e1, hW⟩ := x9ways hs (by omega) hM w
  have key : ∃ r : Int32 × Int32 × (Nat → Int32), f_X9_sure th no w (nI t) = some r ∧ SureR T N g t r.1 ∧ r.2 = (0, w') := by
    unfold f_X9_sure
    have hall : f_X9_all no = some (((1 : Int32) <<< (nI T &&& 31)) - 1) := by
      unfold f_X9_all
      rw [x9teams hM, Option.bind_some]
    have hWa : w' (((1 : Int32) <<< (nI T &&& 31)) - 1).toNatClampNeg = nI (Wn (Fg T N g) (((1 : Int32) <<< (nI T &&& 31)) - 1)) := by
      rw [all_nI T (by omega), nI_clamp (by omega), hW _ (by omega)]
    have hWlt := W_lt (Fg T N g) (((1 : Int32) <<< (nI T &&& 31)) - 1)
    rw [x9isTeam_in hs hM ht, Option.bind_some, if_neg one0, e1, Option.bind_some, hall, Option.bind_some, if_pos (show inb (((1 : Int32) <<< (nI T &&& 31)) - 1) 16384 by rw [all_nI T (by omega)]; exact inb_ok (by omega) (by omega)), bd_eq, hWa]
    refine lp_ex (I := fun x => ∃ b : Nat, b ≤ T ∧ x = nI b ∧ ∀ x, x < b → x ≠ t → Fg T N g t x = true → Wn (Fg T N g) (del (((1 : Int32) <<< (nI T &&& 31)) - 1) t x) ≠ Wn (Fg T N g) (((1 : Int32) <<< (nI T &&& 31)) - 1)) (ms := fun x => T - x.toNatClampNeg) (Post := fun r : Int32 × Int32 × (Nat → Int32) => SureR T N g t r.1 ∧ r.2 = (0, w')) ?_ 20000 _ ⟨0, by omega, rfl, fun x h => by omega⟩ (by show T - _ < _; omega)
    rintro x ⟨b, hb, rfl, hno⟩ self hself
    unfold f_X9_sure_L31
    rw [x9teams hM, Option.bind_some]
    by_cases c : T ≤ b
    · rw [if_pos ((nI_leI (by omega) (by omega)).mpr c)]
      exact ⟨_, rfl, Or.inr ⟨rfl, Or.inr (fun x hx => hno x (by omega))⟩, rfl⟩
    · have hms : T - (nI (b + 1)).toNatClampNeg < T - (nI b).toNatClampNeg := by rw [nI_clamp (by omega), nI_clamp (by omega)]; omega
      rw [if_neg (nI_ge (by omega) (by omega))]
      by_cases c0 : Wn (Fg T N g) (((1 : Int32) <<< (nI T &&& 31)) - 1) = 0
      · rw [if_pos (by rw [c0]; exact Int32.le_refl _)]
        exact ⟨_, rfl, Or.inr ⟨rfl, Or.inl c0⟩, rfl⟩
      · have hskip : (b ≠ t → Fg T N g t b = true → Wn (Fg T N g) (del (((1 : Int32) <<< (nI T &&& 31)) - 1) t b) ≠ Wn (Fg T N g) (((1 : Int32) <<< (nI T &&& 31)) - 1)) → ∃ r : Int32 × Int32 × (Nat → Int32), self (nI (b + 1)) = some r ∧ SureR T N g t r.1 ∧ r.2 = (0, w') := fun h =>
          hself _ ⟨b + 1, by omega, rfl, fun x hx h1 h2 => by
            by_cases e : x = b
            · subst e; exact h h1 h2
            · exact hno x (by omega) h1 h2⟩ hms
        rw [if_neg (fun h => by rw [show (0 : Int32) = nI 0 from rfl, nI_leI hWlt (by omega)] at h; omega), bd_eq, nI_1]
        by_cases c1 : b = t
        · rw [if_pos (congrArg nI c1)]
          exact hskip (fun h => absurd c1 h)
        · rw [if_neg (fun h => c1 ((nI_eq (by omega) (by omega)).mp h)), x9metOn hs 184 (by omega) (by omega) hM ht (by omega), Option.bind_some]
          rcases mo_cases hs t b ht with ⟨d, hd, e3, e2⟩ | ⟨h1, e2⟩
          · rw [e2, if_neg (fun h => by have h9 := nI_nm1 (a := d) (by omega); rw [h] at h9; exact h9.mp rfl)]
            exact hskip (fun _ h => absurd e3 ((Fg_iff.mp h).2.2 d hd))
          · have hFt : Fg T N g t b = true := Fg_iff.mpr ⟨by omega, c1, h1⟩
            rw [e2, if_pos rfl, hall, Option.bind_some, del9 _ (by omega) (by omega)]
            obtain ⟨k, hk, ek⟩ := del_nI (n := 2 ^ T - 1) (a := t) (b := b) (by omega) (by omega) (by rw [← all_nI T (by omega)]; exact (all_bt hT (by omega)).mpr ht)
            rw [← all_nI T (by omega)] at ek
            have hWk : w' (del (((1 : Int32) <<< (nI T &&& 31)) - 1) t b).toNatClampNeg = nI (Wn (Fg T N g) (del (((1 : Int32) <<< (nI T &&& 31)) - 1) t b)) := by
              rw [ek, nI_clamp (by omega), hW k (by omega)]
            have hWlt2 := W_lt (Fg T N g) (del (((1 : Int32) <<< (nI T &&& 31)) - 1) t b)
            rw [if_pos (show inb (del (((1 : Int32) <<< (nI T &&& 31)) - 1) t b) 16384 by rw [ek]; exact inb_ok (by omega) (by omega))]
            by_cases c2 : Wn (Fg T N g) (del (((1 : Int32) <<< (nI T &&& 31)) - 1) t b) = Wn (Fg T N g) (((1 : Int32) <<< (nI T &&& 31)) - 1)
            · rw [if_pos (by rw [hWk, c2])]
              exact ⟨_, rfl, Or.inl ⟨c0, b, by omega, c1, hFt, c2, rfl⟩, rfl⟩
            · rw [if_neg (fun h => by rw [hWk] at h; exact c2 ((nI_eq hWlt2 hWlt).mp h))]
              exact hskip (fun _ _ => c2)
  obtain ⟨⟨r, r2, r3⟩, e, h, h2⟩ := key
  cases h2
  exact ⟨r, w', e, h⟩
theorem x2only (hs : Sok T N g) (hX : PX te da ro T N g) {t : Nat} (ht : t < T) (a1 a2 : Int32) {q : Nat} (hq : q + 2 < 2 ^ 31) (fo fr en st : Nat → Int32) (hL : StL q st) : ∃ r b1 b2 fs fo' fr' en' st', f_X2_onlyPartner a1 a2 (nI q) fo fr en st te da ro (nI t) = some (r, b1, b2, fs, fo', fr', en', st') ∧ SureR T N g t r ∧ ∃ q', q' ≤ q + 2 ∧ fs = nI q' ∧ StL q' st' := by
  have hT := hs.T14
  have hN := hs.N13
  have hT0 : ¬ T = 0 := by omega
  have he : T % 2 = 0 := by have := hs.1; omega
  obtain ⟨r, b1, b2, fo', fr', en', st', e1, h1, h2, rfl, hF⟩ := x2find hs hT0 hX false a1 a2 (q := q) (by omega) fo fr en st hL
  unfold f_X2_onlyPartner
  have e1' : f_X2_find a1 a2 (nI q) fo fr en st te da ro 0 = _ := e1
  rw [e1', Option.bind_some]
  dsimp only
  have hin := (all_in hT).mono hT
  have hcd : cd (((1 : Int32) <<< (nI T &&& 31)) - 1) < 2 * 9 := by rw [all_cd hT]; omega
  rcases h2 with ⟨h2, rfl⟩ | ⟨R, hR, rfl, hr⟩
  · rw [if_pos zer0]
    refine ⟨_, _, _, _, _, _, _, _, rfl, Or.inr ⟨rfl, Or.inl ?_⟩, q + 1, by omega, rfl, h1⟩
    by_cases c : Wn (Fg T N g) (((1 : Int32) <<< (nI T &&& 31)) - 1) = 0
    · exact c
    · obtain ⟨R, hR⟩ := bs_ex (N := N) 9 (e := g) hin hcd c
      rw [h2] at hR; cases hR
  · obtain ⟨hnew, hn⟩ := day_new hs hT0 hR
    obtain ⟨u1, u2, u3, u4⟩ := hnew t ht
    have hbt := (all_bt hT (show t < 14 by omega)).mpr ht
    have hbo := (all_bt hT (show sOf R t < 14 by omega)).mpr u1
    have hFo : Fg T N g t (sOf R t) = true := Fg_iff.mpr ⟨u1, u2, u4⟩
    have hFo2 := Fg_sym hs ht hFo
    have hW0 := bs_W 9 hin hR
    have hedge := fun x hx (hxt : x ≠ t) hFx => W_edge (Fg T N g) (t := t) (o := x) (by omega) (show x < 14 by omega) (fun h => hxt h.symm) hFx (Fg_sym hs ht hFx) 14 (((1 : Int32) <<< (nI T &&& 31)) - 1) (cd_max _) hin hbt ((all_bt hT (show x < 14 by omega)).mpr (show x < T from hx))
    have huniq : ∀ x, x < T → x ≠ t → Fg T N g t x = true → x ≠ sOf R t → Wn (Fg T N g) (del (((1 : Int32) <<< (nI T &&& 31)) - 1) t x) ≠ Wn (Fg T N g) (((1 : Int32) <<< (nI T &&& 31)) - 1) := by
      intro x hx hxt hFx hxo h
      have k1 := hedge x hx hxt hFx
      have k2 := bs_Fx (t := t) (o := x) (by omega) (by omega) (fun h => hxt h.symm) 9 hin hR (fun _ h => hxo h.symm)
      omega
    have ef : fo' (nI t).toNatClampNeg = nI (sOf R t) := by rw [nI_clamp (by omega)]; exact hn _ hr t ht
    have eT := hX.1
    subst eT
    rw [if_neg one0, x3hasTeam_in hT ht, Option.bind_some, if_neg one0, if_pos (inb_ok (by omega) (by omega)), bd_eq, ef, x3hasTeam_in hT u1, Option.bind_some, if_neg one0, if_pos (inb_ok (by omega) (by omega)), if_pos (inb_ok (by omega) (by omega)), bd_eq, if_pos (inb_ok (by omega) (by omega)), if_pos (inb_ok (by omega) (by omega)), bd_eq, bd_eq, nI_1, nI_clamp (by omega), nI_clamp (by omega)]
    have hF' : FreeR T (Fx (Fg T N g) t (sOf R t)) (upd (upd fr' t (fr' t &&& (((1 : Int32) <<< (nI (sOf R t) &&& 31)) ^^^ (-1)))) (sOf R t) (upd fr' t (fr' t &&& (((1 : Int32) <<< (nI (sOf R t) &&& 31)) ^^^ (-1))) (sOf R t) &&& (((1 : Int32) <<< (nI t &&& 31)) ^^^ (-1)))) := by
      intro a b ha hb
      by_cases c1 : a = sOf R t
      · rw [c1, upd_at, upd_ne _ _ u2, b_and, b_not _ (by omega), b_sh1 t (by omega) (by omega), hF _ b u1 hb]
        by_cases c2 : b = t
        · rw [c2, decide_eq_true rfl, Fx_f (Or.inr ⟨rfl, rfl⟩)]
          cases Fg T N g (sOf R t) t <;> rfl
        · rw [decide_eq_false c2, Fx_t (fun h => u2 h.1) (fun h => c2 h.2)]
          cases Fg T N g (sOf R t) b <;> rfl
      · rw [upd_ne _ _ c1]
        by_cases c2 : a = t
        · rw [c2, upd_at, b_and, b_not _ (by omega), b_sh1 _ (by omega) (by omega), hF t b ht hb]
          by_cases c3 : b = sOf R t
          · rw [c3, decide_eq_true rfl, Fx_f (Or.inl ⟨rfl, rfl⟩)]
            cases Fg T N g t (sOf R t) <;> rfl
          · rw [decide_eq_false c3, Fx_t (fun h => c3 h.2) (fun h => u2 h.1.symm)]
            cases Fg T N g t b <;> rfl
        · rw [upd_ne _ _ c2, hF a b ha hb, Fx_t (fun h => c2 h.1) (fun h => c1 h.1)]
    obtain ⟨⟨r2, fo2, st2⟩, e2, h3, h4⟩ := x2first0 (N := N) (q := q + 1) hT (by omega) he (by omega) hF' fo' st' g h1
    have e2' : f_X2_firstFrom (nI (q + 1 + 1)) (upd (upd fr' t (fr' t &&& (((1 : Int32) <<< (nI (sOf R t) &&& 31)) ^^^ (-1)))) (sOf R t) (upd fr' t (fr' t &&& (((1 : Int32) <<< (nI (sOf R t) &&& 31)) ^^^ (-1))) (sOf R t) &&& (((1 : Int32) <<< (nI t &&& 31)) ^^^ (-1)))) 9 (fo', st', ((1 : Int32) <<< (nI T &&& 31)) - 1, 0) = some (r2, fo2, st2) := e2
    rw [e2', Option.bind_some]
    dsimp only at h3 h4 ⊢
    have k1 := hedge (sOf R t) u1 u2 hFo
    rcases h4 with ⟨j1, rfl, _⟩ | ⟨R2, j1, rfl, _⟩
    · rw [if_pos zer0]
      have hz : Wn (Fx (Fg T N g) t (sOf R t)) (((1 : Int32) <<< (nI T &&& 31)) - 1) = 0 := by
        by_cases c : Wn (Fx (Fg T N g) t (sOf R t)) (((1 : Int32) <<< (nI T &&& 31)) - 1) = 0
        · exact c
        · obtain ⟨R3, hR3⟩ := bs_ex (N := N) 9 (e := g) hin hcd c
          rw [j1] at hR3; cases hR3
      exact ⟨_, _, _, _, _, _, _, _, rfl, Or.inl ⟨hW0, sOf R t, u1, u2, hFo, by omega, rfl⟩, q + 1 + 1, by omega, rfl, h3⟩
    · rw [if_neg one0]
      have hz := bs_W 9 hin j1
      refine ⟨_, _, _, _, _, _, _, _, rfl, Or.inr ⟨rfl, Or.inr (fun x hx hxt hFx => ?_)⟩, q + 1 + 1, by omega, rfl, h3⟩
      by_cases c : x = sOf R t
      · rw [c]; omega
      · exact huniq x hx hxt hFx c
theorem SureR.same (hs : Sok T N g) {t : Nat} (ht : t < T) {r r' : Int32} (h : SureR T N g t r) (h' : SureR T N g t r') : r = r' := by
  have hT := hs.T14
  have hin := (all_in hT).mono hT
  have hbt := (all_bt hT (show t < 14 by omega)).mpr ht
  rcases h with ⟨h0, x, hx, hxt, hFx, h1, rfl⟩ | ⟨rfl, h0⟩
  · rcases h' with ⟨h0', y, hy, hyt, hFy, h1', rfl⟩ | ⟨rfl, h0'⟩
    · by_cases c : x = y
      · rw [c]
      · exfalso
        have hcd : cd (((1 : Int32) <<< (nI T &&& 31)) - 1) < 2 * 9 := by rw [all_cd hT]; omega
        have hT0 : ¬ T = 0 := by omega
        obtain ⟨R, hR⟩ := bs_ex (N := N) 9 (e := g) hin hcd h0
        have hedge := fun x hx (hxt : x ≠ t) hFx => W_edge (Fg T N g) (t := t) (o := x) (by omega) (show x < 14 by omega) (fun h => hxt h.symm) hFx (Fg_sym hs ht hFx) 14 (((1 : Int32) <<< (nI T &&& 31)) - 1) (cd_max _) hin hbt ((all_bt hT (show x < 14 by omega)).mpr (show x < T from hx))
        have huniq : ∀ x, x < T → x ≠ t → Fg T N g t x = true → x ≠ sOf R t → Wn (Fg T N g) (del (((1 : Int32) <<< (nI T &&& 31)) - 1) t x) ≠ Wn (Fg T N g) (((1 : Int32) <<< (nI T &&& 31)) - 1) := by
          intro x hx hxt hFx hxo h
          have k1 := hedge x hx hxt hFx
          have k2 := bs_Fx (t := t) (o := x) (by omega) (by omega) (fun h => hxt h.symm) 9 hin hR (fun _ h => hxo h.symm)
          omega
        by_cases c1 : x = sOf R t
        · exact huniq y hy hyt hFy (fun h => c (c1.trans h.symm)) h1'
        · exact huniq x hx hxt hFx c1 h1
    · rcases h0' with h2 | h2
      · exact absurd h2 h0
      · exact absurd h1 (h2 x hx hxt hFx)
  · rcases h' with ⟨h0', y, hy, hyt, hFy, h1', rfl⟩ | ⟨rfl, h0'⟩
    · rcases h0 with h2 | h2
      · exact absurd h2 h0'
      · exact absurd h1' (h2 y hy hyt hFy)
    · rfl
end
theorem st_13 : St_13 rd_Inv := by
  intro k
  intros
  rename_i p1 hk hI
  have hI' := st_m k _ _ _ _ _ _ _ _ _ _ _ _ _ _ _ _ _ _ _ _ _ _ _ _ _ hI
  obtain ⟨hS, hA, h3, h4, h5, h7⟩ := hI
  have hS' := hS
  obtain ⟨T, N, g, hs, hX, hM⟩ := hS
  have hT := hs.T14
  have eT := hX.1
  unfold f_X8_sure
  by_cases c : ∃ t : Nat, t < T ∧ p1 = nI t
  · obtain ⟨t, ht, rfl⟩ := c
    obtain ⟨q, hq, eq, hL⟩ := h5.stl
    subst eq
    obtain ⟨r, b1, b2, fs, fo', fr', en', st', e1, h1, q', h2, h6, h8⟩ := x2only hs hX ht _ _ (q := q) (by omega) _ _ _ _ hL
    obtain ⟨r', w', e2, h2'⟩ := x9sure hs hM ht _ _
    have er := h1.same hs ht h2'
    subst er
    rw [eT] at e1 hS' ⊢
    rw [x3hasTeam_in hT ht, Option.bind_some, if_neg one0, e1, Option.bind_some, e2]
    exact ⟨_, _, _, _, _, _, _, _, _, _, _, rfl, rfl, rfl, hS', hA, h3, h4, ⟨q', by omega, h6, h8⟩, h7⟩
  · unfold f_X9_sure
    rw [eT, x3hasTeam_out hT c, x9isTeam_out hs hM c, Option.bind_some, Option.bind_some, if_pos zer0, if_pos zer0]
    rw [eT] at hI'
    exact ⟨_, _, _, _, _, _, _, _, _, _, _, rfl, rfl, rfl, hI'⟩
