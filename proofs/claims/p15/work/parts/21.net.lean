/-! THE NET, as lists: sorts of the gates; feeds (to, literal) in the order of their calls; outputs -/
def fOf (fs : List (Nat × Nat)) (g : Nat) : List Nat := (fs.filter (fun f => f.1 == g)).map (fun f => f.2)
def Sf (fs : List (Nat × Nat)) : Nat → Nat
  | 0 => 0
  | g + 1 => Sf fs g + (fOf fs g).length
def rk (gs : List Nat) (g : Nat) : Nat := (gs.take g).count (gs.getD g 9)
def WF (gs : List Nat) (fs : List (Nat × Nat)) (os : List Nat) : Prop :=
  gs.length ≤ 60 ∧ gs.count 0 ≤ 4 ∧ gs.count 1 ≤ 8 ∧ (∀ s ∈ gs, s ≤ 3) ∧ fs.length ≤ 240 ∧
  (∀ f ∈ fs, f.1 < gs.length ∧ f.2 < 2 * gs.length ∧ gs.getD f.1 9 ≠ 0 ∧ (gs.getD f.1 9 = 1 → (fOf fs f.1).length ≤ 1)) ∧ os.length ≤ 6 ∧ ∀ o ∈ os, o < gs.length
/-- the class's cells hold the net -/
def RC (so ra st li nl ou : Nat → Int32) (gT iT lT oT : Int32) (gs : List Nat) (fs : List (Nat × Nat)) (os : List Nat) : Prop :=
  gT = nI gs.length ∧ iT = nI (gs.count 0) ∧ lT = nI (gs.count 1) ∧ oT = nI os.length ∧
  (∀ g, g < gs.length → so g = nI (gs.getD g 9) ∧ (gs.getD g 9 ≤ 1 → ra g = nI (rk gs g))) ∧
  (∀ g, g ≤ gs.length → st g = nI (Sf fs g)) ∧
  (∀ g, g < gs.length → ∀ j, j < (fOf fs g).length → li (Sf fs g + j) = nI ((fOf fs g).getD j 0)) ∧
  (∀ g, g < gs.length → gs.getD g 9 = 1 → nl (rk gs g) = nI ((fOf fs g).getD 0 (2 * g))) ∧
  (∀ o, o < os.length → ou o = nI (os.getD o 0))
theorem gd_app {gs : List Nat} {q g : Nat} (h : g < gs.length) : (gs ++ [q]).getD g 9 = gs.getD g 9 := by
  simp [List.getD_eq_getElem?_getD, List.getElem?_append_left h]
theorem gd_last {gs : List Nat} {q : Nat} : (gs ++ [q]).getD gs.length 9 = q := by
  simp [List.getD_eq_getElem?_getD]
theorem rk_app {gs : List Nat} {q g : Nat} (h : g < gs.length) : rk (gs ++ [q]) g = rk gs g := by
  rw [rk, rk, gd_app h, List.take_append_of_le_length (Nat.le_of_lt h)]
theorem rk_last {gs : List Nat} {q : Nat} : rk (gs ++ [q]) gs.length = gs.count q := by
  rw [rk, gd_last, List.take_append_of_le_length (Nat.le_refl _), List.take_length]
theorem fOf_none {fs : List (Nat × Nat)} {g : Nat} (h : ∀ f ∈ fs, f.1 < g) : fOf fs g = [] := by
  rw [fOf, List.filter_eq_nil_iff.mpr]
  · rfl
  · intro f hf
    have := h f hf
    simp; omega
theorem getD_mem {gs : List Nat} {g : Nat} (h : g < gs.length) : gs.getD g 9 ∈ gs := by
  simp [List.getD_eq_getElem?_getD, h]
/-- ranks lie below the counts -/
theorem rk_lt {gs : List Nat} {g : Nat} (h : g < gs.length) : rk gs g < gs.count (gs.getD g 9) := by
  have e : gs = gs.take g ++ gs.getD g 9 :: gs.drop (g + 1) := by
    conv => lhs; rw [← List.take_append_drop g gs]
    rw [List.drop_eq_getElem_cons h]
    simp [List.getD_eq_getElem?_getD, h]
  rw [rk]
  generalize hx : gs.getD g 9 = x at e ⊢
  have : gs.count x = (gs.take g).count x + ((gs.drop (g + 1)).count x + 1) := by
    conv => lhs; rw [e]
    rw [List.count_append, List.count_cons_self]
  omega
theorem rk_inj {gs : List Nat} {a b : Nat} (ha : a < gs.length) (hb : b < gs.length) (hs : gs.getD a 9 = gs.getD b 9) (h : rk gs a = rk gs b) : a = b := by
  have key : ∀ a b, a < b → b < gs.length → gs.getD a 9 = gs.getD b 9 → rk gs a < rk gs b := by
    intro a b hab hb hs
    have h2 := rk_lt (gs := gs.take b) (g := a) (by rw [List.length_take]; omega)
    have e1 : (gs.take b).getD a 9 = gs.getD a 9 := by simp [List.getD_eq_getElem?_getD, List.getElem?_take, hab]
    rw [rk, e1, List.take_take, Nat.min_eq_left (Nat.le_of_lt hab)] at h2
    rw [rk, rk, ← hs]
    exact h2
  rcases Nat.lt_trichotomy a b with h1 | h1 | h1
  · have := key a b h1 hb hs; omega
  · exact h1
  · have := key b a h1 ha hs.symm; omega
