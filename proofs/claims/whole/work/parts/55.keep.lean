/-! OURS: copies, acts kept and taken back, images -/
theorem cpy_in {α : Type} (f g : Nat → α) (s d n : Nat) {i : Nat} (h : i < n) : va_cpy f g s d n (d + i) = f (s + i) := by
  unfold va_cpy
  rw [if_pos ⟨by omega, by omega⟩, show d + i - d = i by omega]
theorem cpy_out {α : Type} (f g : Nat → α) (s d n : Nat) {j : Nat} (h : j < d ∨ d + n ≤ j) : va_cpy f g s d n j = g j := by
  unfold va_cpy
  rw [if_neg (fun h2 => by omega)]
theorem cpy_up (f g : Nat → Int32) (s d n : Nat) : upd (va_cpy f g s d n) (d + n) (f (s + n)) = va_cpy f g s d (n + 1) := by
  funext j
  unfold upd va_cpy
  by_cases h : j = d + n
  · rw [if_pos h, if_pos ⟨by omega, by omega⟩, h, show d + n - d = n by omega]
  · rw [if_neg h]
    by_cases h2 : d ≤ j ∧ j < d + n
    · rw [if_pos h2, if_pos ⟨h2.1, by omega⟩]
    · rw [if_neg h2, if_neg (fun h3 => h2 ⟨h3.1, by omega⟩)]
theorem cpy_0 {α : Type} (f g : Nat → α) (s d : Nat) : va_cpy f g s d 0 = g := by
  funext j
  unfold va_cpy
  rw [if_neg (fun h => by omega)]
theorem x3copy (t d : Int32) (r : Nat → Int32) (t' d' : Int32) (r' : Nat → Int32) : f_X3_copy t d r t' d' r' = some (t', d', va_cpy r' r 0 0 182) := by
  unfold f_X3_copy
  rw [if_pos (by decide), bd_eq]
  rfl
theorem Same.cpX {t d : Int32} {r r0 no : Nat → Int32} {o : Nat} (h : Same t d r no o) : Same t d (va_cpy r r0 0 0 182) no o := by
  obtain ⟨T, N, g, hs, ⟨e1, e2, e3⟩, hM⟩ := h
  have := hs.T14; have := hs.N13
  refine ⟨T, N, g, hs, ⟨e1, e2, fun d t hd ht => ?_⟩, hM⟩
  have := cpy_in r r0 0 0 182 (i := 14 * d + t) (by omega)
  rw [Nat.zero_add] at this
  rw [this]
  exact e3 d t hd ht
theorem PM.cp {T N : Nat} {g : Nat → Nat → Nat} {no b : Nat → Int32} {o e : Nat} (hs : Sok T N g) (h : PM no o T N g) : PM (va_cpy no b o e 184) e T N g := by
  have := hs.T14; have := hs.N13
  refine ⟨?_, ?_, fun d t hd ht => ?_⟩
  · have := cpy_in no b o e 184 (i := 0) (by omega)
    rw [Nat.add_zero, Nat.add_zero] at this
    rw [this]; exact h.1
  · rw [cpy_in no b o e 184 (i := 1) (by omega)]; exact h.2.1
  · rw [show e + 2 + 14 * d + t = e + (2 + 14 * d + t) by omega, cpy_in no b o e 184 (by omega), show o + (2 + 14 * d + t) = o + 2 + 14 * d + t by omega]
    exact h.2.2 d t hd ht
theorem PM.eqOn {T N : Nat} {g : Nat → Nat → Nat} {no b : Nat → Int32} {o e : Nat} (hs : Sok T N g) (h : PM no o T N g) (he : ∀ i, i < 184 → b (e + i) = no (o + i)) : PM b e T N g := by
  have := hs.T14; have := hs.N13
  refine ⟨?_, ?_, fun d t hd ht => ?_⟩
  · have := he 0 (by omega)
    rw [Nat.add_zero, Nat.add_zero] at this
    rw [this]; exact h.1
  · rw [he 1 (by omega)]; exact h.2.1
  · rw [show e + 2 + 14 * d + t = e + (2 + 14 * d + t) by omega, he _ (by omega), show o + (2 + 14 * d + t) = o + 2 + 14 * d + t by omega]
    exact h.2.2 d t hd ht
theorem Same.cpM {t d : Int32} {r no b : Nat → Int32} {o e : Nat} (h : Same t d r no o) : Same t d r (va_cpy no b o e 184) e := by
  obtain ⟨T, N, g, hs, hX, hM⟩ := h
  exact ⟨T, N, g, hs, hX, hM.cp hs⟩
theorem Same.eqM {t d : Int32} {r no b : Nat → Int32} {o e : Nat} (h : Same t d r no o) (he : ∀ i, i < 184 → b (e + i) = no (o + i)) : Same t d r b e := by
  obtain ⟨T, N, g, hs, hX, hM⟩ := h
  exact ⟨T, N, g, hs, hX, hM.eqOn hs he⟩
theorem x9copy (n m s e : Nat) (hn : n < 2 ^ 30) (hm : m < 2 ^ 30) (hs : s + 184 ≤ n) (he : e + 184 ≤ m) (a b : Nat → Int32) : f_X9_copy n m a b (nI s) (nI e) = some (va_cpy a b s e 184) := by
  unfold f_X9_copy
  refine lp_spec (I := fun x => ∃ i, i ≤ 184 ∧ x = (nI i, va_cpy a b s e i)) (ms := fun x => 184 - x.1.toNatClampNeg) (res := fun _ => some (va_cpy a b s e 184)) ?_ 20000 _ ⟨0, by omega, by rw [cpy_0]; rfl⟩ (by show 184 - _ < _; omega)
  rintro x ⟨i, hi, rfl⟩ self hself
  show (if (184 : Int32) ≤ nI i then _ else _) = _
  by_cases c : i = 184
  · subst c
    rw [if_pos (by decide)]
  · rw [if_neg (show ¬ (184 : Int32) ≤ nI i from nI_ge (b := 184) (by omega) (by omega)), nI_add, nI_add, if_pos (inb_ok (by omega) (by omega)), if_pos (inb_ok (by omega) (by omega)), nI_clamp (by omega), nI_clamp (by omega), bd_eq, bd_eq, cpy_up, nI_1]
    refine hself _ ⟨i + 1, by omega, rfl⟩ ?_
    show 184 - (nI (i + 1)).toNatClampNeg < 184 - (nI i).toNatClampNeg
    rw [nI_clamp (by omega), nI_clamp (by omega)]
    omega
theorem x9snap_lt (h : Nat) (hh : h < 8) (now snaps : Nat → Int32) : f_X9_snap (nI h) now snaps = some (nI (h + 1), va_cpy now snaps 0 (184 * h) 184) := by
  unfold f_X9_snap
  rw [if_neg (fun e => by rw [show (8 : Int32) = nI 8 from rfl, nI_eq (by omega) (by omega)] at e; omega)]
  unfold f_X9_snap_J50
  dsimp only
  rw [show (184 : Int32) * nI h = nI (184 * h) from pk_mul 184 h, show (0 : Int32) = nI 0 from rfl, x9copy 184 1472 0 (184 * h) (by omega) (by omega) (by omega) (by omega), Option.bind_some, bd_eq, nI_1]
theorem x9snap_8 (now snaps : Nat → Int32) : f_X9_snap (nI 8) now snaps = some (nI 8, va_cpy now (va_cpy snaps snaps 184 0 1288) 0 1288 184) := by
  unfold f_X9_snap
  rw [if_pos (show nI 8 = (8 : Int32) from rfl)]
  refine lp_spec (I := fun x => ∃ i, i ≤ 1288 ∧ x = (nI i, va_cpy snaps snaps 184 0 i)) (ms := fun x => 1288 - x.1.toNatClampNeg) (res := fun _ => some (nI 8, va_cpy now (va_cpy snaps snaps 184 0 1288) 0 1288 184)) ?_ 20000 _ ⟨0, by omega, by rw [cpy_0]; rfl⟩ (by show 1288 - _ < _; omega)
  rintro x ⟨i, hi, rfl⟩ self hself
  show (if (1288 : Int32) ≤ nI i then _ else _) = _
  by_cases c : i = 1288
  · subst c
    rw [if_pos (by decide), bd_eq]
    unfold f_X9_snap_J50
    dsimp only
    rw [show (184 : Int32) * (nI 8 - 1) = nI 1288 from by decide, show (0 : Int32) = nI 0 from rfl, x9copy 184 1472 0 1288 (by omega) (by omega) (by omega) (by omega), Option.bind_some, bd_eq]
    rfl
  · rw [if_neg (show ¬ (1288 : Int32) ≤ nI i from nI_ge (b := 1288) (by omega) (by omega)), show (184 : Int32) = nI 184 from rfl, nI_add, if_pos (inb_ok (by omega) (by omega)), if_pos (inb_ok (by omega) (by omega)), nI_clamp (by omega), nI_clamp (by omega), bd_eq, bd_eq, nI_1, cpy_out snaps snaps 184 0 i (j := i + 184) (by omega)]
    have e1 := cpy_up snaps snaps 184 0 i
    rw [Nat.zero_add, Nat.add_comm 184 i] at e1
    rw [e1]
    refine hself _ ⟨i + 1, by omega, rfl⟩ ?_
    show 1288 - (nI (i + 1)).toNatClampNeg < 1288 - (nI i).toNatClampNeg
    rw [nI_clamp (by omega), nI_clamp (by omega)]
    omega
theorem x0keep (h nx : Nat) (hh : h ≤ 8) (hn : nx < 8) (bt bd9 : Nat → Int32) (br : Nat → Nat → Int32) (t d : Int32) (r : Nat → Int32) : f_X0_keep (nI h) (nI nx) bt bd9 br t d r = some (nI (if 8 < h + 1 then 8 else h + 1), nI ((nx + 1) % 8), va_up bt nx t, va_up bd9 nx d, va_up br nx (va_cpy r (br nx) 0 0 182)) := by
  unfold f_X0_keep
  rw [if_pos (inb_ok hn (by omega)), nI_clamp (by omega), bd_eq, x3copy, Option.bind_some]
  dsimp only
  rw [bd_eq, bd_eq, nI_1, nI_1, show (8 : Int32) = nI 8 from rfl, pk_rem (by omega) (by omega) (by omega)]
  by_cases c : 8 < h + 1
  · rw [if_pos (nI_lt c (by omega)), if_pos c]
  · rw [if_neg (nI_nlt (by omega) (by omega)), if_neg c]
theorem va_up_at {α : Type} (f : Nat → α) (k : Nat) (x : α) : va_up f k x k = x := if_pos rfl
theorem va_up_no {α : Type} (f : Nat → α) {k j : Nat} (x : α) (h : j ≠ k) : va_up f k x j = f j := if_neg h
theorem keep_snap {ah an : Int32} {abt abd : Nat → Int32} {abr : Nat → Nat → Int32} {sm : Int32} {snaps : Nat → Int32} (hA : ActsR ah an abt abd abr sm snaps) {t d : Int32} {r now : Nat → Int32} (hs : Same t d r now 0) :
    ∃ (ah' an' : Int32) (abt' abd' : Nat → Int32) (abr' : Nat → Nat → Int32) (sm' : Int32) (snaps' : Nat → Int32), f_X0_keep ah an abt abd abr t d r = some (ah', an', abt', abd', abr') ∧ f_X9_snap sm now snaps = some (sm', snaps') ∧ ActsR ah' an' abt' abd' abr' sm' snaps' := by
  obtain ⟨h, nx, hh, hn, rfl, rfl, rfl, hj⟩ := hA
  rcases Nat.lt_or_ge h 8 with c | c
  · refine ⟨_, _, _, _, _, _, _, x0keep h nx hh hn abt abd abr t d r, x9snap_lt h c now snaps, h + 1, (nx + 1) % 8, by omega, by omega, by rw [if_neg (by omega)], rfl, rfl, fun j hj' => ?_⟩
    rcases Nat.lt_or_ge j h with c2 | c2
    · have e : ((nx + 1) % 8 + 8 - (h + 1) + j) % 8 = (nx + 8 - h + j) % 8 := by omega
      have ne : (nx + 8 - h + j) % 8 ≠ nx := by omega
      rw [e, va_up_no _ _ ne, va_up_no _ _ ne, va_up_no _ _ ne]
      exact (hj j c2).eqM (fun i hi => cpy_out _ _ _ _ _ (by omega))
    · have e : ((nx + 1) % 8 + 8 - (h + 1) + j) % 8 = nx := by omega
      rw [e, va_up_at, va_up_at, va_up_at, show j = h by omega]
      exact hs.cpX.cpM
  · have h8 : h = 8 := by omega
    subst h8
    refine ⟨_, _, _, _, _, _, _, x0keep 8 nx hh hn abt abd abr t d r, x9snap_8 now snaps, 8, (nx + 1) % 8, by omega, by omega, rfl, rfl, rfl, fun j hj' => ?_⟩
    rcases Nat.lt_or_ge j 7 with c2 | c2
    · have e : ((nx + 1) % 8 + 8 - 8 + j) % 8 = (nx + 8 - 8 + (j + 1)) % 8 := by omega
      have ne : (nx + 8 - 8 + (j + 1)) % 8 ≠ nx := by omega
      rw [e, va_up_no _ _ ne, va_up_no _ _ ne, va_up_no _ _ ne]
      refine (hj (j + 1) (by omega)).eqM (fun i hi => ?_)
      rw [cpy_out _ _ _ _ _ (by omega)]
      have e2 := cpy_in snaps snaps 184 0 1288 (i := 184 * j + i) (by omega)
      rw [Nat.zero_add] at e2
      rw [e2]
      exact congrArg snaps (by omega)
    · have e : ((nx + 1) % 8 + 8 - 8 + j) % 8 = nx := by omega
      rw [e, va_up_at, va_up_at, va_up_at, show 184 * j = 1288 by omega]
      exact hs.cpX.cpM
theorem st_28 : St_28 rd_Inv := by
  intro k
  intros
  rename_i hk hI
  obtain ⟨h1, ⟨h, nx, hh, hn, rfl, rfl, rfl, hj⟩, h3, h4, h5, h7⟩ := hI
  have h5' := h5.s
  unfold f_X8_undo f_X9_undo f_X0_takeBack
  by_cases c : h = 0
  · subst c
    rw [if_pos (show nI 0 = (0 : Int32) from rfl), if_pos (show nI 0 = (0 : Int32) from rfl), Option.bind_some]
    exact ⟨_, _, _, _, _, _, _, _, _, _, rfl, rfl, rfl, h1, ⟨0, nx, hh, hn, rfl, rfl, rfl, hj⟩, h3, h4, h5', h7⟩
  · have ne : ¬ nI h = 0 := nI_ne0 (by omega) (by omega)
    have e1 : nI nx + 8 - 1 = nI (nx + 7) := by
      rw [show (8 : Int32) = nI 8 from rfl, nI_add, show (1 : Int32) = nI 1 from rfl, pk_sub (by omega)]
      exact congrArg nI (by omega)
    have e2 : nI h - 1 = nI (h - 1) := by rw [show (1 : Int32) = nI 1 from rfl, pk_sub (by omega)]
    rw [if_neg ne, if_neg ne, bd_eq, bd_eq, bd_eq, e1, e2, show (8 : Int32) = nI 8 from rfl, pk_rem (by omega) (by omega) (by omega), if_pos (inb_ok (by omega) (by omega)), nI_clamp (by omega), bd_eq, x3copy, Option.bind_some]
    dsimp only
    rw [Option.bind_some]
    dsimp only
    rw [if_neg (by decide), show (184 : Int32) * nI (h - 1) = nI (184 * (h - 1)) from pk_mul 184 (h - 1), show (0 : Int32) = nI 0 from rfl, x9copy 1472 184 (184 * (h - 1)) 0 (by omega) (by omega) (by omega) (by omega), Option.bind_some]
    refine ⟨_, _, _, _, _, _, _, _, _, _, rfl, rfl, rfl, ?_, ⟨h - 1, (nx + 7) % 8, by omega, by omega, rfl, rfl, rfl, fun j hj' => ?_⟩, h3, h4, h5', h7⟩
    · have := hj (h - 1) (by omega)
      rw [show (nx + 8 - h + (h - 1)) % 8 = (nx + 7) % 8 by omega] at this
      exact this.cpX.cpM
    · have := hj j (by omega)
      rw [show (nx + 8 - h + j) % 8 = ((nx + 7) % 8 + 8 - (h - 1) + j) % 8 by omega] at this
      exact this
theorem x9isIn01 (x : Int32) : f_X9_isIn x 0 1 = some (if ∃ j : Nat, j < 2 ∧ x = nI j then 1 else 0) := x9isIn0 x 2 (by omega)
theorem isIn01_in {i : Nat} (hi : i < 2) : f_X9_isIn (nI i) 0 1 = some 1 := by
  rw [x9isIn01, if_pos ⟨i, hi, rfl⟩]
theorem isIn01_lo {x : Int32} (c : x < 0) : f_X9_isIn x 0 1 = some 0 := by
  rw [x9isIn01, if_neg]
  rintro ⟨j, hj, rfl⟩
  exact nI_pos (by omega) c
theorem isIn01_hi {x : Int32} (c : nI 2 ≤ x) : f_X9_isIn x 0 1 = some 0 := by
  rw [x9isIn01, if_neg]
  rintro ⟨j, hj, rfl⟩
  rw [nI_leI (by omega) (by omega)] at c
  omega
theorem x8image_lo (a b c : Int32) (d e f g h : Nat → Int32) (r : Nat → Nat → Int32) {x : Int32} (hx : x < 0) : f_X8_image a b d e f r g x = some (0, e, f, r, g) := by
  unfold f_X8_image
  rw [if_pos hx]
theorem x8image_hi (a b c : Int32) (d e f g h : Nat → Int32) (r : Nat → Nat → Int32) {x : Int32} (hx : ¬ x < 0) (h2 : nI 2 ≤ x) : f_X8_image a b d e f r g x = some (0, e, f, r, g) := by
  unfold f_X8_image
  rw [if_neg hx, if_neg (show ¬ x < (2 : Int32) from Int32.not_lt.mpr h2)]
theorem x8image_in (a b : Int32) (d e f g : Nat → Int32) (r : Nat → Nat → Int32) {i : Nat} (hi : i < 2) : f_X8_image a b d e f r g (nI i) = some (1, va_up e i a, va_up f i b, va_up r i (va_cpy d (r i) 0 0 182), upd g i 1) := by
  unfold f_X8_image
  rw [if_neg (nI_pos (by omega)), if_pos (show nI i < (2 : Int32) from nI_lt (b := 2) hi (by omega)), if_pos (inb_ok hi (by omega)), bd_eq, x3copy, Option.bind_some]
  dsimp only
  rw [if_pos (inb_ok hi (by omega)), bd_eq, nI_clamp (by omega)]
  rfl
theorem x9image_0 (t : Int32) (a b c : Nat → Int32) {x : Int32} (h : f_X9_isIn x 0 1 = some 0) : f_X9_image t a b c x = some (0, 0, b, c) := by
  unfold f_X9_image
  rw [h, Option.bind_some, if_pos zer0]
theorem x9image_in (t : Int32) (a b c : Nat → Int32) {i : Nat} (hi : i < 2) : f_X9_image t a b c (nI i) = some (1, 0, va_cpy a b 0 (184 * i) 184, upd c i 1) := by
  unfold f_X9_image
  rw [isIn01_in hi, Option.bind_some, if_neg one0, show (184 : Int32) * nI i = nI (184 * i) from pk_mul 184 i, show f_X9_copy 184 368 a b (0 : Int32) (nI (184 * i)) = _ from x9copy 184 368 0 (184 * i) (by omega) (by omega) (by omega) (by omega) a b, Option.bind_some, if_pos (inb_ok hi (by omega)), bd_eq, nI_clamp (by omega)]
  rfl
theorem st_29 : St_29 rd_Inv := by
  intro k
  intros
  rename_i p1 hk hI
  have hI' := st_m k _ _ _ _ _ _ _ _ _ _ _ _ _ _ _ _ _ _ _ _ _ _ _ _ _ hI
  obtain ⟨h1, h2, h3, h4, h5, h7⟩ := hI
  rcases ix p1 2 (by omega) with c | ⟨c1, c2⟩ | ⟨i, hi, rfl⟩
  · exact ⟨_, _, _, _, _, _, _, _, _, x8image_lo _ _ 0 _ _ _ _ (fun _ => 0) _ c, x9image_0 _ _ _ _ (isIn01_lo c), rfl, hI'⟩
  · exact ⟨_, _, _, _, _, _, _, _, _, x8image_hi _ _ 0 _ _ _ _ (fun _ => 0) _ c2 c1, x9image_0 _ _ _ _ (isIn01_hi c1), rfl, hI'⟩
  · refine ⟨_, _, _, _, _, _, _, _, _, x8image_in _ _ _ _ _ _ _ hi, x9image_in _ _ _ _ hi, rfl, h1, h2, fun j hj => ?_, h4, h5.s, h7⟩
    by_cases e : j = i
    · subst e
      rw [va_up_at, va_up_at, va_up_at, upd_at, upd_at]
      exact Or.inr ⟨rfl, rfl, h1.cpX.cpM⟩
    · rw [va_up_no _ _ e, va_up_no _ _ e, va_up_no _ _ e, upd_ne _ _ e, upd_ne _ _ e]
      rcases h3 j hj with h | ⟨a, b, h⟩
      · exact Or.inl h
      · exact Or.inr ⟨a, b, h.eqM (fun z hz => cpy_out _ _ _ _ _ (by omega))⟩
theorem x8filled (f : Nat → Int32) {i : Nat} (hi : i < 2) : f_X8_isFilled f (nI i) = some (if f i = 0 then 0 else 1) := by
  unfold f_X8_isFilled
  rw [if_neg (nI_pos (by omega)), if_neg (show ¬ (2 : Int32) ≤ nI i from nI_ge (b := 2) hi (by omega)), if_pos (inb_ok hi (by omega)), nI_clamp (by omega)]
  split <;> rfl
theorem x8filled_lo (f : Nat → Int32) {x : Int32} (h : x < 0) : f_X8_isFilled f x = some 0 := by
  unfold f_X8_isFilled
  rw [if_pos h]
theorem x8filled_hi (f : Nat → Int32) {x : Int32} (h : ¬ x < 0) (h2 : nI 2 ≤ x) : f_X8_isFilled f x = some 0 := by
  unfold f_X8_isFilled
  rw [if_neg h, if_pos (show (2 : Int32) ≤ x from h2)]
theorem x8restore_0 (a b : Int32) (d e f g : Nat → Int32) (r : Nat → Nat → Int32) (hl : Int32) {x : Int32} (h : f_X8_isFilled g x = some 0) : f_X8_restore a b d e f r g hl x = some (0, a, b, d, hl) := by
  unfold f_X8_restore
  rw [h, Option.bind_some, if_pos zer0]
theorem x8restore_in (a b : Int32) (d e f g : Nat → Int32) (r : Nat → Nat → Int32) (hl : Int32) {i : Nat} (hi : i < 2) (h : g i = 1) : f_X8_restore a b d e f r g hl (nI i) = some (1, e i, f i, va_cpy (r i) d 0 0 182, 0) := by
  unfold f_X8_restore f_X0_forget
  rw [x8filled g hi, h, Option.bind_some, if_neg one0, if_neg one0, if_pos (inb_ok hi (by omega)), bd_eq, x3copy, Option.bind_some, nI_clamp (by omega)]
  rfl
theorem x9restore_0 (t s : Int32) (a b c : Nat → Int32) {x : Int32} (h : f_X9_isIn x 0 1 = some 0) : f_X9_restore t s a b c x = some (0, 0, s, a) := by
  unfold f_X9_restore
  rw [h, Option.bind_some, if_pos zer0]
theorem x9restore_no (t s : Int32) (a b c : Nat → Int32) {i : Nat} (hi : i < 2) (h : c i = 0) : f_X9_restore t s a b c (nI i) = some (0, 0, s, a) := by
  unfold f_X9_restore
  rw [isIn01_in hi, Option.bind_some, if_neg one0, if_pos (inb_ok hi (by omega)), nI_clamp (by omega), if_pos h]
theorem x9restore_in (t s : Int32) (a b c : Nat → Int32) {i : Nat} (hi : i < 2) (h : c i = 1) : f_X9_restore t s a b c (nI i) = some (1, 0, 0, va_cpy b a (184 * i) 0 184) := by
  unfold f_X9_restore
  rw [isIn01_in hi, Option.bind_some, if_neg one0, if_pos (inb_ok hi (by omega)), nI_clamp (by omega), if_neg (by rw [h]; exact one0), show (184 : Int32) * nI i = nI (184 * i) from pk_mul 184 i, show f_X9_copy 368 184 b a (nI (184 * i)) (0 : Int32) = _ from x9copy 368 184 (184 * i) 0 (by omega) (by omega) (by omega) (by omega) b a, Option.bind_some]
theorem st_30 : St_30 rd_Inv := by
  intro k
  intros
  rename_i p1 hk hI
  have hI' := st_m k _ _ _ _ _ _ _ _ _ _ _ _ _ _ _ _ _ _ _ _ _ _ _ _ _ hI
  obtain ⟨h1, h2, h3, h4, h5, h7⟩ := hI
  rcases ix p1 2 (by omega) with c | ⟨c1, c2⟩ | ⟨i, hi, rfl⟩
  · exact ⟨_, _, _, _, _, _, _, _, _, x8restore_0 _ _ _ _ _ _ _ _ (x8filled_lo _ c), x9restore_0 _ _ _ _ _ (isIn01_lo c), rfl, hI'⟩
  · exact ⟨_, _, _, _, _, _, _, _, _, x8restore_0 _ _ _ _ _ _ _ _ (x8filled_hi _ c2 c1), x9restore_0 _ _ _ _ _ (isIn01_hi c1), rfl, hI'⟩
  · rcases h3 i hi with ⟨a, b⟩ | ⟨a, b, h⟩
    · exact ⟨_, _, _, _, _, _, _, _, _, x8restore_0 _ _ _ _ _ _ _ _ (by rw [x8filled _ hi, if_pos a]), x9restore_no _ _ _ _ _ hi b, rfl, hI'⟩
    · obtain ⟨hh9, nx, _, hn, _, _, e, _⟩ := h2
      exact ⟨_, _, _, _, _, _, _, _, _, x8restore_in _ _ _ _ _ _ _ _ hi a, x9restore_in _ _ _ _ _ hi b, rfl, h.cpX.cpM, ⟨0, nx, by omega, hn, rfl, rfl, e, fun j hj => by omega⟩, h3, h4, h5.s, h7⟩
