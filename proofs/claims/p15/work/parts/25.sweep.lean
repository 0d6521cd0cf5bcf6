theorem fOf_mem {fs : List (Nat × Nat)} {g l : Nat} (h : l ∈ fOf fs g) : (g, l) ∈ fs := by
  rw [fOf] at h
  obtain ⟨q, hq, e⟩ := List.mem_map.mp h
  have h2 := List.mem_filter.mp hq
  have e1 : q.1 = g := by simpa using h2.2
  rw [← e1, ← e]
  exact h2.1
def stepW (gs : List Nat) (fs : List (Nat × Nat)) (s : Int32 × (Nat → Int64)) (g : Nat) : Int32 × (Nat → Int64) :=
  if gs.getD g 9 = 2 then
    (if s.2 (2 * g + 0) = andW s.2 0 (fOf fs g) (-1) ∧ s.2 ((2 * g + 0) ^^^ 1) = orW s.2 0 (fOf fs g) 0 then s.1 else 1, vp_updL (vp_updL s.2 (2 * g + 0) (andW s.2 0 (fOf fs g) (-1))) ((2 * g + 0) ^^^ 1) (orW s.2 0 (fOf fs g) 0))
  else if gs.getD g 9 = 3 then
    (if s.2 (2 * g + 1) = andW s.2 1 (fOf fs g) (-1) ∧ s.2 ((2 * g + 1) ^^^ 1) = orW s.2 1 (fOf fs g) 0 then s.1 else 1, vp_updL (vp_updL s.2 (2 * g + 1) (andW s.2 1 (fOf fs g) (-1))) ((2 * g + 1) ^^^ 1) (orW s.2 1 (fOf fs g) 0))
  else s
def sweepW (gs : List Nat) (fs : List (Nat × Nat)) (s : Int32 × (Nat → Int64)) : Int32 × (Nat → Int64) := (List.range' 0 gs.length).foldl (stepW gs fs) s
section SW
variable {so ra st li nl ou : Nat → Int32} {gT iT lT oT : Int32} {gs : List Nat} {fs : List (Nat × Nat)} {os : List Nat}
theorem p_learnG (h : RC so ra st li nl ou gT iT lT oT gs fs os) (hw : WF gs fs os) {kn : Nat → Int64} {fl g : Nat} (hfl : fl < 2) (hg : g < gs.length) :
    m_Tab_learn st li kn (nI g) (nI fl) = some (if kn (2 * g + fl) = andW kn fl (fOf fs g) (-1) ∧ kn ((2 * g + fl) ^^^ 1) = orW kn fl (fOf fs g) 0 then 0 else 1, vp_updL (vp_updL kn (2 * g + fl) (andW kn fl (fOf fs g) (-1))) ((2 * g + fl) ^^^ 1) (orW kn fl (fOf fs g) 0)) := by
  obtain ⟨-, -, -, -, -, hst, hli, -, -⟩ := h
  obtain ⟨w1, -, -, -, w5, w6, -, -⟩ := hw
  have hb : Sf fs (g + 1) ≤ fs.length := by
    rw [← Sf_all (G := gs.length) (fun q hq => (w6 q hq).1)]
    exact Sf_mono (by omega)
  have e : Sf fs g + (fOf fs g).length = Sf fs (g + 1) := rfl
  exact p_learn (S := Sf fs g) hfl w1 hg (by omega) (fun l hl => (w6 _ (fOf_mem hl)).2.1) (hli g hg) (hst g (by omega)) (hst (g + 1) (by omega))
theorem p_L4 (h : RC so ra st li nl ou gT iT lT oT gs fs os) (hw : WF gs fs os) : ∀ (k n i : Nat) (x : Int32) (kn : Nat → Int64), i + k = gs.length → k < n → L_Tab_sweepOnce_4 so st li gT n x (nI i) kn = some ((List.range' i k).foldl (stepW gs fs) (x, kn)) := by
  have hG := hw.1
  have hgT : gT = nI gs.length := h.1
  intro k
  induction k with
  | zero =>
    intro n i x kn h1 h2
    obtain ⟨n, rfl⟩ : ∃ z, n = z + 1 := ⟨n - 1, by omega⟩
    rw [L_Tab_sweepOnce_4, hgT, if_pos ((nI_leI (by omega) (by omega)).mpr (by omega))]
    rfl
  | succ k ih =>
    intro n i x kn h1 h2
    obtain ⟨n, rfl⟩ : ∃ z, n = z + 1 := ⟨n - 1, by omega⟩
    have hi : i < gs.length := by omega
    have hs3 : gs.getD i 9 ≤ 3 := hw.2.2.2.1 _ (getD_mem hi)
    have e2 : (nI (gs.getD i 9) = (2 : Int32)) ↔ gs.getD i 9 = 2 := by rw [i2]; exact nI_eq (by omega) (by omega)
    have e3 : (nI (gs.getD i 9) = (3 : Int32)) ↔ gs.getD i 9 = 3 := by rw [i3]; exact nI_eq (by omega) (by omega)
    have L0 := p_learnG h hw (kn := kn) (fl := 0) (g := i) (by decide) hi
    have L1 := p_learnG h hw (kn := kn) (fl := 1) (g := i) (by decide) hi
    have i0' : nI 0 = (0 : Int32) := rfl
    have i1' : nI 1 = (1 : Int32) := rfl
    rw [i0'] at L0
    rw [i1'] at L1
    rw [List.range'_succ, List.foldl_cons, stepW]
    rw [L_Tab_sweepOnce_4, hgT, if_neg (by rw [nI_leI (by omega) (by omega)]; omega), gd_nI (by omega) (by decide), nI_clamp (by omega), (h.2.2.2.2.1 i hi).1, nI_1]
    rw [← hgT]
    simp only [e2, e3]
    by_cases c2 : gs.getD i 9 = 2
    · simp only [if_pos c2, L0, Option.bind_some]
      by_cases c : kn (2 * i + 0) = andW kn 0 (fOf fs i) (-1) ∧ kn ((2 * i + 0) ^^^ 1) = orW kn 0 (fOf fs i) 0
      · simp only [if_pos c, if_true]
        exact ih n (i + 1) x _ (by omega) (by omega)
      · simp only [if_neg c]
        rw [if_neg (by decide)]
        exact ih n (i + 1) 1 _ (by omega) (by omega)
    · by_cases c3 : gs.getD i 9 = 3
      · simp only [if_neg c2, if_pos c3, L1, Option.bind_some]
        by_cases c : kn (2 * i + 1) = andW kn 1 (fOf fs i) (-1) ∧ kn ((2 * i + 1) ^^^ 1) = orW kn 1 (fOf fs i) 0
        · simp only [if_pos c, if_true]
          exact ih n (i + 1) x _ (by omega) (by omega)
        · simp only [if_neg c]
          rw [if_neg (by decide)]
          exact ih n (i + 1) 1 _ (by omega) (by omega)
      · simp only [if_neg c2, if_neg c3]
        exact ih n (i + 1) x _ (by omega) (by omega)
end SW
