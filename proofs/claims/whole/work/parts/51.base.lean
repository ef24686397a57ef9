/-! OURS: numbers and sets of the pure functions -/
theorem li0 : (0 : Int32) = nI 0 := rfl
theorem li1 : (1 : Int32) = nI 1 := rfl
theorem li2 : (2 : Int32) = nI 2 := rfl
theorem li3 : (3 : Int32) = nI 3 := rfl
theorem li4 : (4 : Int32) = nI 4 := rfl
theorem li5 : (5 : Int32) = nI 5 := rfl
theorem li6 : (6 : Int32) = nI 6 := rfl
theorem li7 : (7 : Int32) = nI 7 := rfl
theorem li8 : (8 : Int32) = nI 8 := rfl
theorem li10 : (10 : Int32) = nI 10 := rfl
theorem li12 : (12 : Int32) = nI 12 := rfl
theorem li13 : (13 : Int32) = nI 13 := rfl
theorem li14 : (14 : Int32) = nI 14 := rfl
theorem li20 : (20 : Int32) = nI 20 := rfl
theorem li24 : (24 : Int32) = nI 24 := rfl
theorem li31 : (31 : Int32) = nI 31 := rfl
theorem li48 : (48 : Int32) = nI 48 := rfl
theorem li60 : (60 : Int32) = nI 60 := rfl
theorem li184 : (184 : Int32) = nI 184 := rfl
theorem li182 : (182 : Int32) = nI 182 := rfl
theorem li255 : (255 : Int32) = nI 255 := rfl
theorem li700 : (700 : Int32) = nI 700 := rfl
theorem li740 : (740 : Int32) = nI 740 := rfl
theorem bd_eq {α β : Type} (x : α) (k : α → β) : bd x k = k x := rfl
theorem nI_nm1 {a : Nat} (h : a < 2 ^ 31) : (nI a = -1) = False := by
  refine eq_false (fun e => ?_)
  have h1 := congrArg Int32.toInt e
  rw [nI_toInt h] at h1
  have h2 : (-1 : Int32).toInt = -1 := by decide
  omega
theorem nI_nm1' {a : Nat} (h : a < 2 ^ 31) : (-1 = nI a) = False := eq_false (fun e => by
  have := nI_nm1 h
  rw [← e] at this
  exact this.mp rfl)
theorem gd_or01 (P : Prop) : (P ∨ ¬ P) = True := eq_true (Classical.em P)
theorem inb_ok {a n : Nat} (h : a < n) (hn : n < 2 ^ 31) : inb (nI a) n := nI_in h hn
theorem upd_at (f : Nat → Int32) (k : Nat) (x : Int32) : upd f k x k = x := if_pos rfl
theorem upd_ne (f : Nat → Int32) {k j : Nat} (x : Int32) (h : j ≠ k) : upd f k x j = f j := if_neg h
/-- an index: below 0, too large, or a number -/
theorem ix (x : Int32) (n : Nat) (hn : n < 2 ^ 31) : x < 0 ∨ (nI n ≤ x ∧ ¬ x < 0) ∨ ∃ j : Nat, j < n ∧ x = nI j := by
  rcases pk_ix x hn with h | h | h
  · exact Or.inl h
  · rcases Int32.lt_or_le x 0 with h0 | h0
    · exact Or.inl h0
    · exact Or.inr (Or.inl ⟨h, Int32.not_lt.mpr h0⟩)
  · exact Or.inr (Or.inr h)
/-- a schedule: no teams, or 4 .. 14, even; each day pairs all; no two days pair two alike -/
def Sok (T N : Nat) (g : Nat → Nat → Nat) : Prop := ((T = 0 ∧ N = 0) ∨ (4 ≤ T ∧ T ≤ 14 ∧ T % 2 = 0 ∧ N < T)) ∧ (∀ d t, d < N → t < T → g d t < T ∧ g d t ≠ t ∧ g d (g d t) = t) ∧ ∀ d e t, d < N → e < N → t < T → g d t = g e t → d = e
def PX (te da : Int32) (ro : Nat → Int32) (T N : Nat) (g : Nat → Nat → Nat) : Prop := te = nI T ∧ da = nI N ∧ ∀ d t, d < N → t < T → ro (14 * d + t) = nI (g d t)
def PM (no : Nat → Int32) (o T N : Nat) (g : Nat → Nat → Nat) : Prop := no o = nI T ∧ no (o + 1) = nI N ∧ ∀ d t, d < N → t < T → no (o + 2 + 14 * d + t) = nI (g d t)
def Same (te da : Int32) (ro : Nat → Int32) (no : Nat → Int32) (o : Nat) : Prop := ∃ T N g, Sok T N g ∧ PX te da ro T N g ∧ PM no o T N g
theorem Sok.T14 {T N : Nat} {g : Nat → Nat → Nat} (h : Sok T N g) : T ≤ 14 := by rcases h.1 with h | h <;> omega
theorem Sok.N13 {T N : Nat} {g : Nat → Nat → Nat} (h : Sok T N g) : N ≤ 13 := by rcases h.1 with h | h <;> omega
theorem Sok.NT {T N : Nat} {g : Nat → Nat → Nat} (h : Sok T N g) : N ≤ T := by rcases h.1 with h | h <;> omega
def ActsR (ah an : Int32) (abt abd : Nat → Int32) (abr : Nat → Nat → Int32) (sm : Int32) (snaps : Nat → Int32) : Prop := ∃ h nx : Nat, h ≤ 8 ∧ nx < 8 ∧ ah = nI h ∧ sm = nI h ∧ an = nI nx ∧ ∀ j, j < h → Same (abt ((nx + 8 - h + j) % 8)) (abd ((nx + 8 - h + j) % 8)) (abr ((nx + 8 - h + j) % 8)) snaps (184 * j)
def KeptR (kt kd : Nat → Int32) (kr : Nat → Nat → Int32) (fi kept isk : Nat → Int32) : Prop := ∀ j, j < 2 → (fi j = 0 ∧ isk j = 0) ∨ (fi j = 1 ∧ isk j = 1 ∧ Same (kt j) (kd j) (kr j) kept (184 * j))
def tapeR (n : Nat) (tb tape : Nat → Int32) : Prop := ∀ i, i < n → tb i = tape i ∧ ∃ v : Nat, v < 256 ∧ tape i = nI v
def TapR (tl : Int32) (tb : Nat → Int32) (taped : Int32) (tape : Nat → Int32) : Prop := ∃ n : Nat, n ≤ 740 ∧ tl = nI n ∧ taped = nI n ∧ tapeR n tb tape
/-- the finder's stamps are of searches up to now; few searches a call -/
def FinR (k : Nat) (fs : Int32) (fst : Nat → Int32) : Prop := ∃ q : Nat, q ≤ 64 * k ∧ fs = nI q ∧ ∀ i, i < 4096 → ∃ j : Nat, j ≤ q ∧ fst i = nI j
theorem FinR.s {k : Nat} {fs : Int32} {fst : Nat → Int32} (h : FinR k fs fst) : FinR (k + 1) fs fst := by
  obtain ⟨q, h1, h2⟩ := h
  exact ⟨q, by omega, h2⟩
theorem one0 : ¬ (1 : Int32) = 0 := by decide
theorem zer0 : (0 : Int32) = 0 := rfl
def rd_Inv : InvT := fun k pt pd pr ah an abt abd abr kt kd kr fi tl tb fs fst fk now sm snaps kept isk taped tape fault =>
  Same pt pd pr now 0 ∧ ActsR ah an abt abd abr sm snaps ∧ KeptR kt kd kr fi kept isk ∧ TapR tl tb taped tape ∧ FinR k fs fst ∧ fk = fault
theorem st_m : St_m rd_Inv := by
  intro k pt pd pr ah an abt abd abr kt kd kr fi tl tb fs fst fk now sm snaps kept isk taped tape fault h
  obtain ⟨h1, h2, h3, h4, h5, h7⟩ := h
  exact ⟨h1, h2, h3, h4, h5.s, h7⟩
theorem inv_0 : rd_Inv 0 0 0 (fun _ => 0) 0 0 (fun _ => 0) (fun _ => 0) (fun _ _ => 0) (fun _ => 0) (fun _ => 0) (fun _ _ => 0) (fun _ => 0) 0 (fun _ => 0) 0 (fun _ => 0) 0 (fun _ => 0) 0 (fun _ => 0) (fun _ => 0) (fun _ => 0) 0 (fun _ => 0) 0 := by
  refine ⟨⟨0, 0, fun _ _ => 0, ⟨Or.inl ⟨rfl, rfl⟩, fun d t h => by omega, fun d e t h => by omega⟩, ⟨rfl, rfl, fun d t h => by omega⟩, rfl, rfl, fun d t h => by omega⟩, ⟨0, 0, by omega, by omega, rfl, rfl, rfl, fun j h => by omega⟩, fun j _ => Or.inl ⟨rfl, rfl⟩, ⟨0, by omega, rfl, rfl, fun i h => by omega⟩, ⟨0, by omega, rfl, fun i _ => ⟨0, by omega, rfl⟩⟩, rfl⟩
