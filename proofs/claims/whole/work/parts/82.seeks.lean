/-! OURS: the best day: ways walked, the reference's seeking -/
def Wk (u p : Nat → Nat) (S : Int32) : Nat → Nat → Nat → Prop
  | 0, y, z => y = z ∧ bt S z = true
  | n + 1, y, z => bt S y = false ∧ Wk u p S n (u (p y)) z
def sm : Nat → (Nat → Nat) → Nat
  | 0, _ => 0
  | n + 1, h => sm n h + h n
theorem sm_congr : ∀ (n : Nat) (h h' : Nat → Nat), (∀ i, i < n → h i = h' i) → sm n h = sm n h'
  | 0, _, _, _ => rfl
  | n + 1, h, h', e => by
    show sm n h + h n = sm n h' + h' n
    rw [e n (by omega), sm_congr n h h' (fun i hi => e i (by omega))]
theorem sm_rm : ∀ (n : Nat) (h : Nat → Nat) (a : Nat), a < n → sm n h = h a + sm n (fun i => if i = a then 0 else h i)
  | 0, _, _, h => by omega
  | n + 1, h, a, ha => by
    show sm n h + h n = h a + (sm n (fun i => if i = a then 0 else h i) + (if n = a then 0 else h n))
    by_cases c : n = a
    · subst c
      rw [if_pos rfl, sm_congr n (fun i => if i = n then 0 else h i) h (fun i hi => if_neg (by omega))]
      omega
    · rw [if_neg c, sm_rm n h a (by omega)]
      omega
theorem sm_pct : ∀ (n : Nat) (p : Nat → Bool) (h : Nat → Nat), (∀ i, i < n → p i = true → 1 ≤ h i) → pct n p ≤ sm n h
  | 0, _, _, _ => Nat.le_refl _
  | n + 1, p, h, e => by
    have ih := sm_pct n p h (fun i hi => e i (by omega))
    have h2 := e n (by omega)
    show pct n p + (if p n then 1 else 0) ≤ sm n h + h n
    by_cases c : p n = true
    · rw [if_pos c]; have := h2 c; omega
    · rw [if_neg c]; omega
def lnS (S : Int32) (l : Nat → Nat) : Nat := sm 14 (fun x => if bt S x then 1 + l x else 0)
theorem lnS_del {S : Int32} {a b : Nat} (l : Nat → Nat) (ha : a < 14) (hb : b < 14) (hab : a ≠ b) (h1 : bt S a = true) (h2 : bt S b = true) : lnS S l = (1 + l a) + ((1 + l b) + lnS (del S a b) l) := by
  unfold lnS
  rw [sm_rm 14 _ a ha, sm_rm 14 (fun i => if i = a then 0 else if bt S i then 1 + l i else 0) b hb, if_pos h1, if_neg (fun h => hab h.symm), if_pos h2]
  congr 2
  refine sm_congr 14 _ _ (fun i hi => ?_)
  by_cases c1 : i = b
  · rw [if_pos c1, if_neg]
    rw [bt_del_no ha hb hi (Or.inr (Or.inr c1))]; decide
  · rw [if_neg c1]
    by_cases c2 : i = a
    · rw [if_pos c2, if_neg]
      rw [bt_del_no ha hb hi (Or.inr (Or.inl c2))]; decide
    · rw [if_neg c2]
      by_cases c3 : bt S i = true
      · rw [if_pos c3, if_pos (bt_del_mk ha hb hi c3 c2 c1)]
      · rw [if_neg c3, if_neg (fun h => c3 (bt_del_in ha hb hi h).1)]
theorem lnS_0 (l : Nat → Nat) : lnS 0 l = 0 := by
  unfold lnS
  rw [sm_congr 14 _ (fun _ => 0) (fun i _ => if_neg (by rw [b_0]; decide))]
  rfl
theorem lnS_cd (S : Int32) (l : Nat → Nat) : cd S ≤ lnS S l := sm_pct 14 (bt S) _ (fun i hi h => by rw [if_pos h]; omega)
theorem lnS_congr {S : Int32} {l l' : Nat → Nat} (h : ∀ x, x < 14 → bt S x = true → l x = l' x) : lnS S l = lnS S l' := by
  unfold lnS
  refine sm_congr 14 _ _ (fun i hi => ?_)
  by_cases c : bt S i = true
  · rw [if_pos c, if_pos c, h i hi c]
  · rw [if_neg c, if_neg c]
def SgR (T : Nat) (S : Int32) (sg : Nat → Int32) (p : Nat → Nat) : Prop := (∀ x, x < 14 → bt S x = true → sg x = -1) ∧ ∀ x, x < T → bt S x = false → p x < T ∧ sg x = nI (p x)
def PthI (T N : Nat) (g : Nat → Nat → Nat) (S : Int32) (e : Nat → Nat → Nat) (p : Nat → Nat) (ln : Nat → Nat → Nat) : Prop := ∀ d, d < N → lnS S (ln d) = T ∧ ∀ x, x < 14 → bt S x = true → ln d (e d x) = ln d x ∧ Wk (g d) p S (ln d x) (g d x) (e d x)
def pj (p : Nat → Nat) (a b x : Nat) : Nat := if x = a then b else if x = b then a else p x
def lj (e ln : Nat → Nat → Nat) (a b d x : Nat) : Nat := if x = e d a ∨ x = e d b then ln d a + 1 + ln d b else ln d x
section
variable {T N : Nat} {g : Nat → Nat → Nat} {no : Nat → Int32} {S : Int32} {e ln : Nat → Nat → Nat} {sg : Nat → Int32} {p : Nat → Nat} {a b : Nat}
theorem SgR.join (h : SgR T S sg p) (hT : T ≤ 14) (ha : a < T) (hb : b < T) (hab : a ≠ b) : SgR T (del S a b) (upd (upd sg a (nI b)) b (nI a)) (pj p a b) := by
  refine ⟨fun x hx hx2 => ?_, fun x hx hx2 => ?_⟩
  · obtain ⟨x1, x2, x3⟩ := bt_del_in (by omega) (by omega) hx hx2
    rw [upd_ne _ _ x3, upd_ne _ _ x2]
    exact h.1 x hx x1
  · unfold pj
    by_cases c1 : x = a
    · rw [if_pos c1, upd_ne _ _ (by omega), c1, upd_at]
      exact ⟨hb, rfl⟩
    · rw [if_neg c1]
      by_cases c2 : x = b
      · rw [if_pos c2, c2, upd_at]
        exact ⟨ha, rfl⟩
      · rw [if_neg c2, upd_ne _ _ c2, upd_ne _ _ c1]
        refine h.2 x hx ?_
        cases c3 : bt S x with
        | false => rfl
        | true =>
          rw [bt_del_mk (by omega) (by omega) (by omega) c3 c1 c2] at hx2
          cases hx2
theorem Wk_mono {u : Nat → Nat} (hT : ∀ y, y < T → u y < T) (hp : ∀ y, y < T → bt S y = false → p y < T) (hT14 : T ≤ 14) (ha : a < T) (hb : b < T) (ha2 : bt S a = true) (hb2 : bt S b = true) : ∀ (n y z : Nat), y < T → Wk u p S n y z → z ≠ a → z ≠ b → Wk u (pj p a b) (del S a b) n y z
  | 0, y, z, hy, h, h1, h2 => ⟨h.1, bt_del_mk (by omega) (by omega) (by rw [← h.1]; omega) h.2 h1 h2⟩
  | n + 1, y, z, hy, h, h1, h2 => by
    have c1 : y ≠ a := fun e => by have h9 := h.1; rw [e, ha2] at h9; cases h9
    have c2 : y ≠ b := fun e => by have h9 := h.1; rw [e, hb2] at h9; cases h9
    refine ⟨bt_del_no (by omega) (by omega) (by omega) (Or.inl h.1), ?_⟩
    have e1 : pj p a b y = p y := by unfold pj; rw [if_neg c1, if_neg c2]
    rw [e1]
    exact Wk_mono hT hp hT14 ha hb ha2 hb2 n _ z (hT _ (hp y hy h.1)) h.2 h1 h2
theorem Wk_ext {u : Nat → Nat} (hT : ∀ y, y < T → u y < T) (hp : ∀ y, y < T → bt S y = false → p y < T) (hT14 : T ≤ 14) (ha : a < T) (hb : b < T) (ha2 : bt S a = true) (hb2 : bt S b = true) {m c w : Nat} (hc : c = a ∨ c = b) (hw : Wk u (pj p a b) (del S a b) m (u (pj p a b c)) w) : ∀ (n y : Nat), y < T → Wk u p S n y c → Wk u (pj p a b) (del S a b) (n + 1 + m) y w
  | 0, y, hy, h => by
    rw [show 0 + 1 + m = m + 1 by omega]
    rw [h.1]
    refine ⟨bt_del_no (by omega) (by omega) (by rw [← h.1]; omega) (Or.inr hc), hw⟩
  | n + 1, y, hy, h => by
    have c1 : y ≠ a := fun e => by have h9 := h.1; rw [e, ha2] at h9; cases h9
    have c2 : y ≠ b := fun e => by have h9 := h.1; rw [e, hb2] at h9; cases h9
    have e1 : pj p a b y = p y := by unfold pj; rw [if_neg c1, if_neg c2]
    rw [show n + 1 + 1 + m = (n + 1 + m) + 1 by omega]
    refine ⟨bt_del_no (by omega) (by omega) (by omega) (Or.inl h.1), ?_⟩
    rw [e1]
    exact Wk_ext hT hp hT14 ha hb ha2 hb2 hc hw n _ (hT _ (hp y hy h.1)) h.2
theorem PthI.join (hs : Sok T N g) (hS : In14 T S) (hSg : SgR T S sg p) (hE : EInv N S e) (hP : PthI T N g S e p ln) (ha : a < 14) (hb : b < 14) (hab : a ≠ b) (ha2 : bt S a = true) (hb2 : bt S b = true) (hne : ∀ d, d < N → e d a ≠ b) : PthI T N g (del S a b) (jE e a b) (pj p a b) (lj e ln a b) := by
  have hT := hs.T14
  have haT := hS a (by omega) ha2
  have hbT := hS b (by omega) hb2
  intro d hd
  obtain ⟨hl, hw⟩ := hP d hd
  obtain ⟨⟨a1, a2⟩, a3, a4⟩ := hE d a hd ha ha2
  obtain ⟨⟨b1, b2⟩, b3, b4⟩ := hE d b hd hb hb2
  have hn := hne d hd
  have hAB : e d a ≠ e d b := fun h => hab (by rw [← a4, h, b4])
  have hBa : e d b ≠ a := fun h => hn (by rw [← h, b4])
  have hu : ∀ y, y < T → g d y < T := fun y hy => (hs.2.1 d y hd hy).1
  have hp : ∀ y, y < T → bt S y = false → p y < T := fun y hy h => (hSg.2 y hy h).1
  have dA := bt_del_mk (a := a) (b := b) ha hb a1 a2 a3 hn
  have dB := bt_del_mk (a := a) (b := b) ha hb b1 b2 hBa b3
  have lA : lj e ln a b d (e d a) = ln d a + 1 + ln d b := if_pos (Or.inl rfl)
  have lB : lj e ln a b d (e d b) = ln d a + 1 + ln d b := if_pos (Or.inr rfl)
  have jA : jE e a b d (e d a) = e d b := by unfold jE; rw [if_pos rfl]
  have jB : jE e a b d (e d b) = e d a := by unfold jE; rw [if_neg (fun h => hAB h.symm), if_pos rfl]
  have pa : pj p a b a = b := by unfold pj; rw [if_pos rfl]
  have pb : pj p a b b = a := by unfold pj; rw [if_neg (fun h => hab h.symm), if_pos rfl]
  have wA := hw (e d a) a1 a2
  have wB := hw (e d b) b1 b2
  have wa := hw a ha ha2
  have wb := hw b hb hb2
  rw [a4] at wA
  rw [b4] at wB
  have wA2 := wA.2
  have wB2 := wB.2
  rw [← wA.1] at wA2
  rw [← wB.1] at wB2
  refine ⟨?_, fun x hx hxS => ?_⟩
  · rw [lnS_del (lj e ln a b d) a1 b1 hAB dA dB, lA, lB, lnS_congr (l := lj e ln a b d) (l' := ln d) (fun x hx hxS => by
      obtain ⟨x1, x2, x3⟩ := bt_del_in a1 b1 hx hxS
      unfold lj
      rw [if_neg (fun h => h.elim x2 x3)])]
    rw [lnS_del (ln d) ha hb hab ha2 hb2, lnS_del (ln d) a1 b1 hAB dA dB] at hl
    have q1 := wA.1
    have q2 := wB.1
    omega
  · obtain ⟨x1, x2, x3⟩ := bt_del_in ha hb hx hxS
    have hxT := hS x (by omega) x1
    by_cases c1 : x = e d a
    · rw [c1, jA, lA, lB]
      refine ⟨rfl, ?_⟩
      refine Wk_ext hu hp hT haT hbT ha2 hb2 (Or.inl rfl) ?_ _ _ (hu _ (by rw [← c1]; exact hxT)) wA2
      rw [pa]
      exact Wk_mono hu hp hT haT hbT ha2 hb2 _ _ _ (hu _ hbT) wb.2 hBa b3
    · by_cases c2 : x = e d b
      · rw [c2, jB, lA, lB]
        refine ⟨rfl, ?_⟩
        rw [show ln d a + 1 + ln d b = ln d b + 1 + ln d a by omega]
        refine Wk_ext hu hp hT haT hbT ha2 hb2 (Or.inr rfl) ?_ _ _ (hu _ (by rw [← c2]; exact hxT)) wB2
        rw [pb]
        exact Wk_mono hu hp hT haT hbT ha2 hb2 _ _ _ (hu _ haT) wa.2 a3 hn
      · obtain ⟨⟨y1, y2⟩, y3, y4⟩ := hE d x hd hx x1
        have z1 : e d x ≠ a := fun h => c1 (by rw [← h, y4])
        have z2 : e d x ≠ b := fun h => c2 (by rw [← h, y4])
        have z3 : e d x ≠ e d a := fun h => x2 (by rw [← y4, h, a4])
        have z4 : e d x ≠ e d b := fun h => x3 (by rw [← y4, h, b4])
        have jx : jE e a b d x = e d x := by unfold jE; rw [if_neg c1, if_neg c2]
        have lx : lj e ln a b d x = ln d x := if_neg (fun h => h.elim c1 c2)
        have lx2 : lj e ln a b d (e d x) = ln d (e d x) := if_neg (fun h => h.elim z3 z4)
        rw [jx, lx, lx2]
        have wx := hw x hx x1
        exact ⟨wx.1, Wk_mono hu hp hT haT hbT ha2 hb2 _ _ _ (hu _ hxT) wx.2 z1 z2⟩
theorem x9walk (hs : Sok T N g) (hM : PM no 0 T N g) (hSg : SgR T S sg p) {d : Nat} (hd : d < N) (haT : a < T) (hbT : b < T) (ha2 : bt S a = true) (hb2 : bt S b = true) (k2 : Int32 → Option Int32) (p2 : Int32) {z : Nat} (hz : z ≠ b) : ∀ (n m y len : Nat), n < m → y < T → Wk (g d) p S n y z → lp (f_X9_closesNone_L24 k2 no (upd (upd sg a (nI b)) b (nI a)) (nI a) p2 (nI d)) m (nI len, nI y) = f_X9_closesNone_J64 k2 no (upd (upd sg a (nI b)) b (nI a)) (nI a) p2 (nI d, nI (len + 2 * n), nI z)
  | 0, 0, y, len, h, _, _ => by omega
  | 0, m + 1, y, len, _, hy, hW => by
    have hT := hs.T14
    show f_X9_closesNone_L24 k2 no _ (nI a) p2 (nI d) (lp (f_X9_closesNone_L24 k2 no _ (nI a) p2 (nI d)) m) (nI len, nI y) = _
    generalize lp (f_X9_closesNone_L24 k2 no (upd (upd sg a (nI b)) b (nI a)) (nI a) p2 (nI d)) m = self
    unfold f_X9_closesNone_L24
    dsimp only
    rw [hW.1, Nat.mul_zero, Nat.add_zero]
    have hzT : z < T := by rw [← hW.1]; exact hy
    by_cases c : z = a
    · rw [if_pos (congrArg nI c)]
    · rw [if_neg (fun h => c ((nI_eq (by omega) (by omega)).mp h)), if_pos (inb_ok (by omega) (by omega)), if_pos]
      rw [nI_clamp (by omega), upd_ne _ _ hz, upd_ne _ _ c]
      exact hSg.1 z (by omega) hW.2
  | n + 1, 0, y, len, h, _, _ => by omega
  | n + 1, m + 1, y, len, h, hy, hW => by
    have hT := hs.T14
    show f_X9_closesNone_L24 k2 no _ (nI a) p2 (nI d) (lp (f_X9_closesNone_L24 k2 no _ (nI a) p2 (nI d)) m) (nI len, nI y) = _
    have ih := fun y' hy' hW' => x9walk hs hM hSg hd haT hbT ha2 hb2 k2 p2 hz n m y' (len + 2) (by omega) hy' hW'
    generalize lp (f_X9_closesNone_L24 k2 no (upd (upd sg a (nI b)) b (nI a)) (nI a) p2 (nI d)) m = self at ih ⊢
    unfold f_X9_closesNone_L24
    dsimp only
    have c1 : y ≠ a := fun e => by have h9 := hW.1; rw [e, ha2] at h9; cases h9
    have c2 : y ≠ b := fun e => by have h9 := hW.1; rw [e, hb2] at h9; cases h9
    have hp := hSg.2 y hy hW.1
    have es : upd (upd sg a (nI b)) b (nI a) (nI y).toNatClampNeg = nI (p y) := by
      rw [nI_clamp (by omega), upd_ne _ _ c2, upd_ne _ _ c1]; exact hp.2
    rw [if_neg (fun h => c1 ((nI_eq (by omega) (by omega)).mp h)), if_pos (inb_ok (by omega) (by omega)), if_neg (by rw [es]; exact fun h => by have h9 := nI_nm1 (a := p y) (by omega); rw [h] at h9; exact h9.mp rfl), bd_eq, if_pos (inb_ok (by omega) (by omega)), es, x9meets hs 184 (by omega) (by omega) hM hd hp.1, Option.bind_some, show nI len + (2 : Int32) = nI (len + 2) from nI_add (a := len) (b := 2), ih _ (hs.2.1 d _ hd hp.1).1 hW.2]
    rw [show len + 2 + 2 * n = len + 2 * (n + 1) by omega]
theorem x9cn (hs : Sok T N g) (hM : PM no 0 T N g) (hS : In14 T S) (hSg : SgR T S sg p) (hE : EInv N S e) (hP : PthI T N g S e p ln) (hab : a ≠ b) (ha : a < 14) (hb : b < 14) (ha2 : bt S a = true) (hb2 : bt S b = true) : ∃ r, f_X9_closesNone no (upd (upd sg a (nI b)) b (nI a)) (nI a) (nI b) = some r ∧ ((r = 1 ∧ okc true N S e a b = true) ∨ (r = 0 ∧ ¬ okc true N S e a b = true)) := by
  have hT := hs.T14
  have hN := hs.N13
  have haT := hS a (by omega) ha2
  have hbT := hS b (by omega) hb2
  have hcd := cd_del ha hb hab ha2 hb2
  unfold f_X9_closesNone
  refine lp_ex (I := fun x => ∃ d : Nat, d ≤ N ∧ x = nI d ∧ (cd S = 2 ∨ ∀ d', d' < d → e d' a ≠ b)) (ms := fun x => N - x.toNatClampNeg) (Post := fun r => (r = 1 ∧ okc true N S e a b = true) ∨ (r = 0 ∧ ¬ okc true N S e a b = true)) ?_ 20000 _ ⟨0, by omega, rfl, Or.inr (fun d' h => by omega)⟩ (by show N - _ < _; omega)
  rintro x ⟨d, hd, rfl, hgd⟩ self hself
  unfold f_X9_closesNone_L2
  rw [x9days hM, Option.bind_some]
  by_cases c : N ≤ d
  · rw [if_pos ((nI_leI (by omega) (by omega)).mpr c)]
    refine ⟨_, rfl, Or.inl ⟨rfl, okc_iff.mpr ?_⟩⟩
    rcases hgd with h | h
    · exact Or.inl h
    · exact Or.inr (fun d' hd' => h d' (by omega))
  · have hdN : d < N := by omega
    have hms : N - (nI (d + 1)).toNatClampNeg < N - (nI d).toNatClampNeg := by rw [nI_clamp (by omega), nI_clamp (by omega)]; omega
    obtain ⟨hl, hw⟩ := hP d hdN
    have wb := hw b hb hb2
    have wa := hw a ha ha2
    obtain ⟨⟨b1, b2⟩, b3, b4⟩ := hE d b hdN hb hb2
    obtain ⟨⟨a1, a2⟩, a3, a4⟩ := hE d a hdN ha ha2
    have hl2 := lnS_del (ln d) ha hb hab ha2 hb2
    rw [if_neg (nI_ge (by omega) (by omega)), x9meets hs 184 (by omega) (by omega) hM hdN hbT, Option.bind_some, show (2 : Int32) = nI 2 from rfl, x9walk hs hM hSg hdN haT hbT ha2 hb2 self (nI b) b3 (ln d b) 20000 (g d b) 2 (by omega) (hs.2.1 d b hdN hbT).1 wb.2]
    unfold f_X9_closesNone_J64
    dsimp only
    by_cases c2 : e d b = a
    · have c3 : e d a = b := by rw [← c2, b4]
      rw [if_pos (congrArg nI c2), x9teams hM, Option.bind_some]
      have q := wa.1
      rw [c3] at q
      by_cases c4 : cd S = 2
      · have h0 : del S a b = 0 := cd_0 ((hS.mono hT).del (show a < 32 by omega) (show b < 32 by omega)) (by omega)
        rw [h0, lnS_0] at hl2
        rw [if_pos ((nI_leI (by omega) (by omega)).mpr (by omega)), bd_eq, nI_1]
        exact hself _ ⟨d + 1, by omega, rfl, Or.inl c4⟩ hms
      · have h1 := lnS_cd (del S a b) (ln d)
        have h2 : ¬ cd (del S a b) = 0 := by omega
        rw [if_neg (nI_ge (by omega) (by omega))]
        refine ⟨_, rfl, Or.inr ⟨rfl, fun h => ?_⟩⟩
        rcases okc_iff.mp h with h | h
        · exact c4 h
        · exact h d hdN c3
    · rw [if_neg (fun h => c2 ((nI_eq (by omega) (by omega)).mp h)), bd_eq, nI_1]
      refine hself _ ⟨d + 1, by omega, rfl, ?_⟩ hms
      rcases hgd with h | h
      · exact Or.inl h
      · refine Or.inr (fun d' hd' => ?_)
        by_cases e1 : d' = d
        · subst e1; exact fun h2 => c2 (by rw [← h2, a4])
        · exact h d' (by omega)
end
