/-! PURE ROWS: small numbers in Int32 -/
theorem i0 : (0 : Int32) = nI 0 := rfl
theorem i1 : (1 : Int32) = nI 1 := rfl
theorem i2 : (2 : Int32) = nI 2 := rfl
theorem i3 : (3 : Int32) = nI 3 := rfl
theorem i4 : (4 : Int32) = nI 4 := rfl
theorem i6 : (6 : Int32) = nI 6 := rfl
theorem i8 : (8 : Int32) = nI 8 := rfl
theorem i15 : (15 : Int32) = nI 15 := rfl
theorem i16 : (16 : Int32) = nI 16 := rfl
theorem i60 : (60 : Int32) = nI 60 := rfl
theorem i64 : (64 : Int32) = nI 64 := rfl
theorem i240 : (240 : Int32) = nI 240 := rfl
theorem i256 : (256 : Int32) = nI 256 := rfl
theorem gd_nI {α : Type} {n N : Nat} {a : Option α} (h : n < N) (hN : N < 2 ^ 31) : gd (vp_in (nI n) N) a = a := gd_in (vp_in_nI h hN)
theorem m1_ne {n : Nat} (h : n < 2 ^ 31) : ¬ nI n = (-1 : Int32) := by
  intro q
  have a := nI_toInt h
  rw [q] at a
  have : (-1 : Int32).toInt = -1 := by decide
  omega
theorem m1_lt0 : (-1 : Int32) < 0 := by decide
theorem upd_eq {f : Nat → Int32} {k : Nat} {x : Int32} {j : Nat} : upd f k x j = if j = k then x else f j := rfl
theorem updL_eq {f : Nat → Int64} {k : Nat} {x : Int64} {j : Nat} : vp_updL f k x j = if j = k then x else f j := rfl
/-- an int of a script, against the numbers below n -/
theorem ix_cases (x : Int32) {n : Nat} (hn : n < 2 ^ 31) : (x < 0 ∨ ¬ x < nI n) ∨ ∃ j : Nat, j < n ∧ x = nI j := by
  rcases pk_ix x hn with h | h | h
  · exact Or.inl (Or.inl h)
  · exact Or.inl (Or.inr (Int32.not_lt.mpr h))
  · exact Or.inr h
theorem p_isFullFor {G I K q : Nat} (hG : G ≤ 60) (hI : I ≤ 4) (hK : K ≤ 8) (hq : q ≤ 3) : m_Net_isFullFor (nI G) (nI I) (nI K) (nI q) = some (if 60 ≤ G ∨ (q = 0 ∧ 4 ≤ I) ∨ (q = 1 ∧ 8 ≤ K) then 1 else 0) := by
  rw [m_Net_isFullFor]
  simp (disch := omega) only [sx_let, i60, i4, i8, nI_leI, nI_ltI]
  have e0 : (nI q = (0 : Int32)) ↔ q = 0 := by rw [i0]; exact nI_eq (by omega) (by omega)
  have e1 : (nI q = (1 : Int32)) ↔ q = 1 := by rw [i1]; exact nI_eq (by omega) (by omega)
  simp only [e0, e1]
  by_cases h1 : 60 ≤ G <;> by_cases h2 : q = 0 <;> by_cases h3 : 4 ≤ I <;> by_cases h4 : q = 1 <;> by_cases h5 : K < 8 <;> simp [h1, h2, h3, h4, h5] <;> omega
