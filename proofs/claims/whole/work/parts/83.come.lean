/-! OURS: the reference's seeking; come, add -/
def bI (best : Bool) : Int32 := if best then 1 else 0
theorem bl_all {h : Nat → Option (List (Nat × Nat))} : ∀ {k b : Nat}, (∀ i, b ≤ i → i < b + k → h i = none) → bl h b k = none
  | 0, _, _ => rfl
  | k + 1, b, e => by
    rw [bl_none (e b (by omega) (by omega))]
    exact bl_all (fun i h1 h2 => e i (by omega) (by omega))
theorem upd_back {sg : Nat → Int32} {a b : Nat} (x y : Int32) (h1 : sg a = -1) (h2 : sg b = -1) : upd (upd (upd (upd sg a x) b y) a (-1)) b (-1) = sg := by
  funext i
  by_cases c1 : i = b
  · subst c1; rw [upd_at, h2]
  · rw [upd_ne _ _ c1]
    by_cases c2 : i = a
    · subst c2; rw [upd_at, h1]
    · rw [upd_ne _ _ c2, upd_ne _ _ c1, upd_ne _ _ c2]
theorem Fg_iff {T N : Nat} {g : Nat → Nat → Nat} {a b : Nat} : Fg T N g a b = true ↔ b < T ∧ b ≠ a ∧ ∀ d, d < N → g d a ≠ b := by
  unfold Fg
  rw [Bool.and_eq_true, Bool.and_eq_true, decide_eq_true_iff, decide_eq_true_iff, decide_eq_true_iff]
section
variable {T N : Nat} {g : Nat → Nat → Nat} {te da : Int32} {ro no : Nat → Int32}
theorem x9seeks (hs : Sok T N g) (hM : PM no 0 T N g) (w : Nat → Int32) (hW : WayT T N g w (2 ^ T)) (best : Bool) : ∀ (f : Nat) (S : Int32) (sg : Nat → Int32) (e : Nat → Nat → Nat) (p : Nat → Nat) (ln : Nat → Nat → Nat), cd S < 2 * f → In14 T S → SgR T S sg p → (best = true → ¬ S = 0 → EInv N S e ∧ PthI T N g S e p ln) →
    ∃ r : Int32 × (Nat → Int32), lp (f_X9_seeks_B no w) f (sg, S, bI best) = some r ∧ BR best N (Fg T N g) f S e sg r.1 r.2 := by
  have hT := hs.T14
  have hN := hs.N13
  have hp2 := pow_le hT
  intro f
  induction f with
  | zero => intros; omega
  | succ f ih =>
    intro S sg e p ln hlen hS hSg hB
    show ∃ r, f_X9_seeks_B no w (lp (f_X9_seeks_B no w) f) _ = some r ∧ _
    generalize lp (f_X9_seeks_B no w) f = self_ at ih ⊢
    unfold f_X9_seeks_B
    dsimp only
    by_cases c : S = 0
    · rw [if_pos c]
      exact ⟨_, rfl, Or.inr ⟨[], bs_0 c, rfl, fun ab h => absurd h List.not_mem_nil, fun _ _ _ => rfl⟩⟩
    · obtain ⟨k1, k2, k3⟩ := lo_ok c
      have k4 := hS _ k1 k2
      have hS14 := hS.mono hT
      rw [if_neg c, x9least S k1 k2 k3, Option.bind_some, bd_eq, nI_1]
      refine lp_ex (I := fun x => ∃ b : Nat, lo S < b ∧ b ≤ T ∧ x = (nI b, sg) ∧ bl (bh best N (Fg T N g) (bs best N (Fg T N g) f) S e) b (14 - b) = bs best N (Fg T N g) (f + 1) S e) (ms := fun x => T - x.1.toNatClampNeg) (Post := fun r : Int32 × (Nat → Int32) => BR best N (Fg T N g) (f + 1) S e sg r.1 r.2) ?_ 20000 _ ⟨lo S + 1, by omega, by omega, rfl, by rw [bs_s c, show 14 - (lo S + 1) = 13 - lo S by omega]⟩ (by show T - _ < _; omega)
      rintro x ⟨b, hb1, hb, rfl, hbl⟩ self hself
      unfold f_X9_seeks_L16
      dsimp only
      rw [x9teams hM, Option.bind_some]
      by_cases c1 : T ≤ b
      · rw [if_pos ((nI_leI (by omega) (by omega)).mpr c1)]
        refine ⟨_, rfl, Or.inl ⟨?_, rfl, rfl⟩⟩
        rw [← hbl]
        exact bl_all (fun i h1 h2 => bh_f (fun h => by have := hS i (by omega) h.1; omega))
      · have hbT : b < T := by omega
        have hms : T - (nI (b + 1)).toNatClampNeg < T - (nI b).toNatClampNeg := by rw [nI_clamp (by omega), nI_clamp (by omega)]; omega
        rw [show 14 - b = (14 - (b + 1)) + 1 by omega] at hbl
        have hskip : bh best N (Fg T N g) (bs best N (Fg T N g) f) S e b = none → ∃ r : Int32 × (Nat → Int32), self (nI (b + 1), sg) = some r ∧ BR best N (Fg T N g) (f + 1) S e sg r.1 r.2 := fun h =>
          hself _ ⟨b + 1, by omega, by omega, rfl, by rw [← hbl, bl_none h]⟩ hms
        rw [if_neg (nI_ge (by omega) (by omega)), bd_eq, del9 S (by omega) (by omega)]
        cases hbt : bt S b with
        | false =>
          rw [x9has_f (by omega) hbt, Option.bind_some, if_pos zer0, bd_eq, nI_1]
          exact hskip (bh_f (fun h => by rw [hbt] at h; cases h.1))
        | true =>
          rw [x9has_t (by omega) hbt, Option.bind_some, if_neg one0, x9metOn hs 184 (by omega) (by omega) hM k4 hbT, Option.bind_some]
          rcases mo_cases hs (lo S) b k4 with ⟨d, hd, e1, e2⟩ | ⟨h1, e2⟩
          · rw [e2, if_neg (fun h => by have h9 := nI_nm1 (a := d) (by omega); rw [h] at h9; exact h9.mp rfl), bd_eq, nI_1]
            exact hskip (bh_f (fun h => (Fg_iff.mp h.2.1).2.2 d hd e1))
          · have hFt : Fg T N g (lo S) b = true := Fg_iff.mpr ⟨hbT, by omega, h1⟩
            have hin' : In14 T (del S (lo S) b) := hS.del (by omega) (by omega)
            have hcd := cd_del (show lo S < 14 by omega) (show b < 14 by omega) (by omega) k2 hbt
            obtain ⟨n, hn, en⟩ := in_nI hS14
            obtain ⟨k, hk, ek⟩ := del_nI (n := n) (a := lo S) (b := b) (by omega) (by omega) (by rw [← en]; exact k2)
            rw [← en] at ek
            have hkT : k < 2 ^ T := by
              rcases Nat.lt_or_ge k (2 ^ T) with h | h
              · exact h
              · exfalso
                obtain ⟨i, hi, hb⟩ := Nat.exists_ge_and_testBit_of_ge_two_pow h
                have hi32 : i < 32 := by
                  rcases Nat.lt_or_ge i 32 with h9 | h9
                  · exact h9
                  · have := Nat.testBit_lt_two_pow (x := k) (i := i) (Nat.lt_of_lt_of_le (show k < 2 ^ 32 by omega) (Nat.pow_le_pow_right (by omega) h9))
                    rw [this] at hb; cases hb
                have := hin' i hi32 (by rw [ek, bt_nI k hi32]; exact hb)
                omega
            have hwk : w (nI k).toNatClampNeg = nI (Wn (Fg T N g) (del S (lo S) b)) := by rw [nI_clamp (by omega), hW k hkT, ek]
            have hWlt := W_lt (Fg T N g) (del S (lo S) b)
            rw [e2, if_pos rfl, ek, if_pos (inb_ok (by omega) (by omega))]
            by_cases c5 : Wn (Fg T N g) (del S (lo S) b) = 0
            · rw [if_pos (by rw [hwk, c5]; rfl), bd_eq, nI_1]
              refine hskip ?_
              by_cases c6 : bt S b = true ∧ Fg T N g (lo S) b = true ∧ okc best N S e (lo S) b = true
              · rw [bh_t c6.1 c6.2.1 c6.2.2]
                cases cb : bs best N (Fg T N g) f (del S (lo S) b) (jE e (lo S) b) with
                | none => rfl
                | some R => exact absurd c5 (bs_W f (hin'.mono hT) cb)
              · exact bh_f c6
            · have hsga := hSg.1 (lo S) (by omega) k2
              have hsgb := hSg.1 b (by omega) hbt
              rw [if_neg (by rw [hwk]; exact nI_ne0 (by omega) hWlt), if_pos (inb_ok (by omega) (by omega)), bd_eq, if_pos (inb_ok (by omega) (by omega)), bd_eq, nI_clamp (by omega), nI_clamp (by omega)]
              have hJ119 : bh best N (Fg T N g) (bs best N (Fg T N g) f) S e b = none → ∃ r : Int32 × (Nat → Int32), f_X9_seeks_J119 self_ self no w S (bI best) (nI (lo S)) (nI b, upd (upd sg (lo S) (nI b)) b (nI (lo S))) = some r ∧ BR best N (Fg T N g) (f + 1) S e sg r.1 r.2 := by
                intro h
                unfold f_X9_seeks_J119
                dsimp only
                rw [if_pos (inb_ok (by omega) (by omega)), bd_eq, if_pos (inb_ok (by omega) (by omega)), bd_eq, bd_eq, nI_clamp (by omega), nI_clamp (by omega), nI_1, upd_back _ _ hsga hsgb]
                exact hskip h
              have hJ107 : okc best N S e (lo S) b = true → ∃ r : Int32 × (Nat → Int32), f_X9_seeks_J107 self_ (f_X9_seeks_J119 self_ self no w S (bI best) (nI (lo S))) no w S (bI best) (nI (lo S)) (nI b, nI k, upd (upd sg (lo S) (nI b)) b (nI (lo S))) = some r ∧ BR best N (Fg T N g) (f + 1) S e sg r.1 r.2 := by
                intro hok
                have eh := bh_t (best := best) (N := N) (F := Fg T N g) (rec := bs best N (Fg T N g) f) (e := e) hbt hFt hok
                obtain ⟨⟨r0, sg1⟩, e4, h4⟩ := ih (del S (lo S) b) (upd (upd sg (lo S) (nI b)) b (nI (lo S))) (jE e (lo S) b) (pj p (lo S) b) (lj e ln (lo S) b) (by omega) hin' (hSg.join hT k4 hbT (by omega)) (fun hbe hne0 => by
                  obtain ⟨hE, hP⟩ := hB hbe c
                  rw [hbe] at hok
                  have hne : ∀ d, d < N → e d (lo S) ≠ b := by
                    rcases okc_iff.mp hok with h | h
                    · exact absurd (cd_0 (hin'.mono hT) (by omega)) hne0
                    · exact h
                  exact ⟨hE.join (by omega) (by omega) (by omega) k2 hbt hne, hP.join hs hS hSg hE (by omega) (by omega) (by omega) k2 hbt hne⟩)
                unfold f_X9_seeks_J107
                dsimp only
                rw [← ek, e4, Option.bind_some]
                dsimp only at h4 ⊢
                rcases h4 with ⟨j1, rfl, rfl⟩ | ⟨R', j1, rfl, j3, j4⟩
                · rw [if_pos zer0]
                  exact hJ119 (by rw [eh, j1]; rfl)
                · rw [if_neg one0]
                  have ja := j4 (lo S) (by omega) (bt_del_no (by omega) (by omega) (by omega) (Or.inr (Or.inl rfl)))
                  have jb := j4 b (by omega) (bt_del_no (by omega) (by omega) (by omega) (Or.inr (Or.inr rfl)))
                  rw [upd_ne _ _ (show lo S ≠ b by omega), upd_at] at ja
                  rw [upd_at] at jb
                  refine ⟨_, rfl, Or.inr ⟨(lo S, b) :: R', by rw [← hbl, bl_hit (by rw [eh, j1]; rfl)], rfl, fun ab hab => ?_, fun x hx hx2 => ?_⟩⟩
                  · rcases List.mem_cons.mp hab with rfl | hab
                    · exact ⟨ja, jb⟩
                    · exact j3 ab hab
                  · show sg1 x = sg x
                    rw [j4 x hx (bt_del_no (by omega) (by omega) (by omega) (Or.inl hx2)), upd_ne _ _ (fun h => by rw [h, hbt] at hx2; cases hx2), upd_ne _ _ (fun h => by rw [h, k2] at hx2; cases hx2)]
              cases best with
              | false =>
                rw [if_pos (show bI false = 0 from rfl)]
                exact hJ107 rfl
              | true =>
                obtain ⟨hE, hP⟩ := hB rfl c
                obtain ⟨r, er, hr⟩ := x9cn hs hM hS hSg hE hP (show lo S ≠ b by omega) (by omega) (by omega) k2 hbt
                rw [if_neg (show ¬ bI true = 0 from one0), er, Option.bind_some]
                rcases hr with ⟨rfl, hr⟩ | ⟨rfl, hr⟩
                · rw [if_neg one0]
                  exact hJ107 hr
                · rw [if_pos zer0]
                  exact hJ119 (bh_f (fun h => hr h.2.2))
/-- a day was found, or none is -/
def DayR (T N : Nat) (g : Nat → Nat → Nat) (best : Bool) (r : Int32) (row : Nat → Int32) : Prop := (bs best N (Fg T N g) 9 (((1 : Int32) <<< (nI T &&& 31)) - 1) g = none ∧ r = 0) ∨ ∃ R, bs best N (Fg T N g) 9 (((1 : Int32) <<< (nI T &&& 31)) - 1) g = some R ∧ r = 1 ∧ RowOk row R
theorem BR.day {best : Bool} {r : Int32} {fo fo' : Nat → Int32} (h : BR best N (Fg T N g) 9 (((1 : Int32) <<< (nI T &&& 31)) - 1) g fo r fo') : DayR T N g best r fo' := by
  rcases h with ⟨h1, h2, _⟩ | ⟨R, h1, h2, h3, _⟩
  · exact Or.inl ⟨h1, h2⟩
  · exact Or.inr ⟨R, h1, h2, h3⟩
theorem all_bt (hT : T ≤ 14) {x : Nat} (hx : x < 14) : bt (((1 : Int32) <<< (nI T &&& 31)) - 1) x = true ↔ x < T := by
  rw [b_all T (by omega) x (by omega), decide_eq_true_iff]
theorem all_EInv (hs : Sok T N g) : EInv N (((1 : Int32) <<< (nI T &&& 31)) - 1) g := by
  have hT := hs.T14
  intro d x hd hx h
  have k := hs.2.1 d x hd ((all_bt hT hx).mp h)
  exact ⟨⟨by omega, (all_bt hT (by omega)).mpr k.1⟩, k.2.1, k.2.2⟩
theorem sm_bt : ∀ (n : Nat) (p : Nat → Bool), sm n (fun x => if p x then 1 + 0 else 0) = pct n p
  | 0, _ => rfl
  | n + 1, p => by
    show sm n (fun x => if p x then 1 + 0 else 0) + (if p n then 1 + 0 else 0) = pct n p + (if p n then 1 else 0)
    rw [sm_bt n p]
theorem all_PthI (hs : Sok T N g) (p : Nat → Nat) : PthI T N g (((1 : Int32) <<< (nI T &&& 31)) - 1) g p (fun _ _ => 0) := by
  have hT := hs.T14
  intro d hd
  refine ⟨?_, fun x hx h => ⟨rfl, rfl, ?_⟩⟩
  · unfold lnS
    rw [sm_bt]
    exact all_cd hT
  · have k := hs.2.1 d x hd ((all_bt hT hx).mp h)
    exact (all_bt hT (by omega)).mpr k.1
theorem x9sought (hs : Sok T N g) (hT0 : ¬ T = 0) (hM : PM no 0 T N g) (best : Bool) (w0 sg0 : Nat → Int32) : ∃ r w' sg', f_X9_laysSought no w0 sg0 (bI best) = some (r, w', sg') ∧ DayR T N g best r sg' := by
  have hT := hs.T14
  have key : ∃ x : Int32 × (Nat → Int32) × (Nat → Int32), f_X9_laysSought no w0 sg0 (bI best) = some x ∧ DayR T N g best x.1 x.2.2 := by
    obtain ⟨w', e1, hW⟩ := x9ways hs (by omega) hM w0
    unfold f_X9_laysSought
    rw [x9teams hM, Option.bind_some, if_neg (show ¬ nI T = 0 from nI_ne0 (by omega) (by omega)), e1, Option.bind_some]
    refine lp_ex (I := fun x => ∃ (t : Nat) (f : Nat → Int32), t ≤ 14 ∧ x = (nI t, f) ∧ ∀ i, i < t → f i = -1) (ms := fun x => 14 - x.1.toNatClampNeg) (Post := fun x : Int32 × (Nat → Int32) × (Nat → Int32) => DayR T N g best x.1 x.2.2) ?_ 20000 _ ⟨0, sg0, by omega, rfl, fun i h => by omega⟩ (by show 14 - _ < _; omega)
    rintro x ⟨t, f, ht, rfl, hf⟩ self hself
    unfold f_X9_laysSought_L15
    dsimp only
    by_cases c : t = 14
    · subst c
      unfold f_X9_all f_X9_seeks
      obtain ⟨⟨r, sg'⟩, e2, h2⟩ := x9seeks hs hM w' hW best 9 (((1 : Int32) <<< (nI T &&& 31)) - 1) f g (fun x => x) (fun _ _ => 0) (by rw [all_cd hT]; omega) (all_in hT) ⟨fun x hx _ => hf x hx, fun x hx h => by rw [(all_bt hT (by omega)).mpr hx] at h; cases h⟩ (fun _ _ => ⟨all_EInv hs, all_PthI hs _⟩)
      rw [if_pos (by decide), x9teams hM, Option.bind_some, Option.bind_some, e2, Option.bind_some]
      dsimp only
      rw [if_pos (by
        rcases h2 with ⟨_, h2, _⟩ | ⟨R, _, h2, _⟩
        · exact Or.inl h2
        · exact Or.inr h2)]
      exact ⟨_, rfl, h2.day⟩
    · rw [if_neg (show ¬ (14 : Int32) ≤ nI t from nI_ge (b := 14) (by omega) (by omega)), if_pos (inb_ok (by omega) (by omega)), bd_eq, bd_eq, nI_1, nI_clamp (by omega)]
      refine hself _ ⟨t + 1, _, by omega, rfl, fun i hi => ?_⟩ (by show 14 - (nI (t + 1)).toNatClampNeg < 14 - (nI t).toNatClampNeg; rw [nI_clamp (by omega), nI_clamp (by omega)]; omega)
      by_cases e : i = t
      · subst e; rw [upd_at]
      · rw [upd_ne _ _ e]; exact hf i (by omega)
  obtain ⟨⟨r, w', sg'⟩, e, h⟩ := key
  exact ⟨r, w', sg', e, h⟩
theorem x2ends (hs : Sok T N g) (hX : PX te da ro T N g) (en : Nat → Int32) : ∃ en', f_X2_lookAtEnds (nI N) en te da ro = some en' ∧ EndsA N (((1 : Int32) <<< (nI T &&& 31)) - 1) g en' := by
  have hT := hs.T14
  have hN := hs.N13
  obtain ⟨rfl, rfl, hr⟩ := hX
  unfold f_X2_lookAtEnds
  refine lp_ex (I := fun x => ∃ (d : Nat) (f : Nat → Int32), d ≤ N ∧ x = (nI d, f) ∧ ∀ d' x, d' < d → x < T → f (14 * d' + x) = nI (g d' x)) (ms := fun x => N - x.1.toNatClampNeg) (Post := fun en' => EndsA N (((1 : Int32) <<< (nI T &&& 31)) - 1) g en') ?_ 20000 _ ⟨0, en, by omega, rfl, fun d' x h => by omega⟩ (by show N - _ < _; omega)
  rintro x ⟨d, f, hd, rfl, hf⟩ self hself
  unfold f_X2_lookAtEnds_L2
  dsimp only
  by_cases c : N ≤ d
  · rw [if_pos ((nI_leI (by omega) (by omega)).mpr c)]
    exact ⟨_, rfl, fun d' x h1 h2 h3 => hf d' x (by omega) ((all_bt hT h2).mp h3)⟩
  · have hms : N - (nI (d + 1)).toNatClampNeg < N - (nI d).toNatClampNeg := by rw [nI_clamp (by omega), nI_clamp (by omega)]; omega
    rw [if_neg (nI_ge (by omega) (by omega))]
    refine lp_ex (I := fun x => ∃ (t : Nat) (f : Nat → Int32), t ≤ T ∧ x = (nI t, f) ∧ (∀ d' x, d' < d → x < T → f (14 * d' + x) = nI (g d' x)) ∧ ∀ x, x < t → f (14 * d + x) = nI (g d x)) (ms := fun x => T - x.1.toNatClampNeg) (Post := fun en' => EndsA N (((1 : Int32) <<< (nI T &&& 31)) - 1) g en') ?_ 20000 _ ⟨0, f, by omega, rfl, hf, fun x h => by omega⟩ (by show T - _ < _; omega)
    rintro y ⟨t, f, ht, rfl, f1, f2⟩ self2 hself2
    unfold f_X2_lookAtEnds_L12
    dsimp only
    by_cases c2 : T ≤ t
    · rw [if_pos ((nI_leI (by omega) (by omega)).mpr c2), bd_eq, nI_1]
      refine hself _ ⟨d + 1, f, by omega, rfl, fun d' x h1 h2 => ?_⟩ hms
      by_cases e1 : d' = d
      · subst e1; exact f2 x (by omega)
      · exact f1 d' x (by omega) h2
    · rw [if_neg (nI_ge (by omega) (by omega)), partner_at hT hN ro (by omega) (by omega), Option.bind_some, mul14, nI_add, if_pos (inb_ok (by omega) (by omega)), bd_eq, bd_eq, nI_1, nI_clamp (by omega), hr d t (by omega) (by omega)]
      refine hself2 _ ⟨t + 1, _, by omega, rfl, fun d' x h1 h2 => ?_, fun x h1 => ?_⟩ (by show T - (nI (t + 1)).toNatClampNeg < T - (nI t).toNatClampNeg; rw [nI_clamp (by omega), nI_clamp (by omega)]; omega)
      · rw [upd_ne _ _ (by omega)]; exact f1 d' x h1 h2
      · by_cases e1 : x = t
        · subst e1; rw [upd_at]
        · rw [upd_ne _ _ (by omega)]; exact f2 x (by omega)
theorem x2find (hs : Sok T N g) (hT0 : ¬ T = 0) (hX : PX te da ro T N g) (best : Bool) (a1 a2 : Int32) {q : Nat} (hq : q + 1 < 2 ^ 31) (fo fr en st : Nat → Int32) (hL : StL q st) : ∃ r b1 b2 fo' fr' en' st', f_X2_find a1 a2 (nI q) fo fr en st te da ro (bI best) = some (r, b1, b2, nI (q + 1), fo', fr', en', st') ∧ StL (q + 1) st' ∧ DayR T N g best r fo' ∧ b1 = ((1 : Int32) <<< (nI T &&& 31)) - 1 ∧ FreeR T (Fg T N g) fr' := by
  have hT := hs.T14
  have hN := hs.N13
  have he : T % 2 = 0 := by have := hs.1; omega
  obtain ⟨fo1, fr1, e1, hF⟩ := x2look hs hX a1 a2 q fo fr
  unfold f_X2_find
  rw [if_neg (show ¬ te = 0 by rw [hX.1]; exact nI_ne0 (by omega) (by omega)), e1, Option.bind_some]
  dsimp only
  have hr01 : ∀ {b : Bool} {r : Int32} {fo fo' : Nat → Int32}, BR b N (Fg T N g) 9 (((1 : Int32) <<< (nI T &&& 31)) - 1) g fo r fo' → r = 0 ∨ r = 1 := fun h => by
    rcases h with ⟨_, h2, _⟩ | ⟨R, _, h2, _⟩
    · exact Or.inl h2
    · exact Or.inr h2
  cases best with
  | false =>
    rw [if_pos (show bI false = 0 from rfl)]
    obtain ⟨⟨r, fo2, st2⟩, e2, h2, h3⟩ := x2first0 (N := N) hT (by omega) he hq hF fo1 st g hL
    rw [e2, Option.bind_some]
    dsimp only at h2 h3 ⊢
    rw [if_pos (hr01 h3)]
    exact ⟨_, _, _, _, _, _, _, rfl, h2, h3.day, rfl, hF⟩
  | true =>
    rw [if_neg (show ¬ bI true = 0 from one0)]
    obtain ⟨en1, e2, hE⟩ := x2ends hs hX en
    unfold f_X2_bestFrom
    obtain ⟨⟨r, fo2, en2⟩, e3, h3, -⟩ := x2best hT hN hF 9 (((1 : Int32) <<< (nI T &&& 31)) - 1) 0 fo1 en1 g (by rw [all_cd hT]; omega) (all_in hT) (fun j h => by omega) (all_EInv hs) hE
    rw [e2, Option.bind_some]
    have e3' : lp (f_X2_bestFrom_B (nI N) fr1) 9 (fo1, en1, ((1 : Int32) <<< (nI T &&& 31)) - 1, 0) = some (r, fo2, en2) := e3
    rw [e3', Option.bind_some]
    dsimp only at h3 ⊢
    rw [if_pos (hr01 h3)]
    exact ⟨_, _, _, _, _, _, _, rfl, fun i hi => by
      obtain ⟨j, h1, h2⟩ := hL i hi
      exact ⟨j, by omega, h2⟩, h3.day, rfl, hF⟩
theorem x2find0 (a1 a2 a3 : Int32) (fo fr en st : Nat → Int32) (d : Int32) (r : Nat → Int32) (p : Int32) : f_X2_find a1 a2 a3 fo fr en st 0 d r p = some (0, a1, a2, a3, fo, fr, en, st) := by
  unfold f_X2_find
  rw [if_pos rfl]
theorem day_new (hs : Sok T N g) (hT0 : ¬ T = 0) {best : Bool} {R : List (Nat × Nat)} (hR : bs best N (Fg T N g) 9 (((1 : Int32) <<< (nI T &&& 31)) - 1) g = some R) : New T N g (sOf R) ∧ ∀ row, RowOk row R → ∀ t, t < T → row t = nI (sOf R t) := by
  have hT := hs.T14
  have hd := bs_day 9 ((all_in hT).mono hT) hR
  refine ⟨fun t ht => ?_, fun row hr t ht => hr.cov t (hd t (by omega) ((all_bt hT (by omega)).mpr ht)).1⟩
  obtain ⟨_, k1, k2, k3, k4, k5⟩ := hd t (by omega) ((all_bt hT (by omega)).mpr ht)
  have k6 := (all_bt hT k2).mp k1
  refine ⟨k6, k3, k4, fun d hd2 => ?_⟩
  rcases k5 with h | h
  · exact (Fg_iff.mp h).2.2 d hd2
  · intro h2
    refine (Fg_iff.mp h).2.2 d hd2 ?_
    rw [← h2]
    exact (hs.2.1 d t hd2 ht).2.2
theorem DayR.same {best : Bool} {r r' : Int32} {row row' : Nat → Int32} (h : DayR T N g best r row) (h' : DayR T N g best r' row') : (r = 0 ∧ r' = 0) ∨ (r = 1 ∧ r' = 1 ∧ ∃ R, bs best N (Fg T N g) 9 (((1 : Int32) <<< (nI T &&& 31)) - 1) g = some R ∧ RowOk row R ∧ RowOk row' R) := by
  rcases h with ⟨h1, h2⟩ | ⟨R, h1, h2, h3⟩
  · rcases h' with ⟨h4, h5⟩ | ⟨R', h4, h5, h6⟩
    · exact Or.inl ⟨h2, h5⟩
    · rw [h1] at h4; cases h4
  · rcases h' with ⟨h4, h5⟩ | ⟨R', h4, h5, h6⟩
    · rw [h1] at h4; cases h4
    · rw [h1] at h4
      cases h4
      exact Or.inr ⟨h2, h5, R, h1, h3, h6⟩
end
