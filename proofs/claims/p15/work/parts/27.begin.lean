def begW (gs : List Nat) (w : Nat) (kn : Nat → Int64) (g : Nat) : Nat → Int64 :=
  if gs.getD g 9 = 0 then vp_updL (vp_updL kn (2 * g) (sx_IW (rk gs g))) (2 * g + 1) (sx_IW (rk gs g) ^^^ (-1))
  else if gs.getD g 9 = 1 then vp_updL (vp_updL kn (2 * g) (LBw (rk gs g) w)) (2 * g + 1) (LBw (rk gs g) w ^^^ (-1))
  else vp_updL (vp_updL kn (2 * g) 0) (2 * g + 1) 0
def kpW (kn : Nat → Int64) (w : Nat) (s : Int64 × (Nat → Int64)) (g : Nat) : Int64 × (Nat → Int64) := (s.1 &&& (kn (2 * g) ||| kn (2 * g + 1)), vp_updL s.2 (g * 64 + w) (kn (2 * g)))
theorem n2 (g : Nat) : nI g * (2 : Int32) = nI (2 * g) := by rw [i2, pk_mul, Nat.mul_comm]
theorem p_set {kn : Nat → Int64} {g : Nat} {x : Int64} (hg : g < 60) : m_Tab_set kn (nI g) x = some (vp_updL (vp_updL kn (2 * g) x) (2 * g + 1) (x ^^^ (-1))) := by
  rw [m_Tab_set, n2, nI_1, gd_nI (by omega) (by decide), gd_nI (by omega) (by decide), nI_clamp (by omega), nI_clamp (by omega)]
section SW
variable {so ra st li nl ou : Nat → Int32} {gT iT lT oT : Int32} {gs : List Nat} {fs : List (Nat × Nat)} {os : List Nat}
theorem p_beginL (h : RC so ra st li nl ou gT iT lT oT gs fs os) (hw : WF gs fs os) {w : Nat} (hw64 : w < 64) : ∀ (k n i : Nat) (kn : Nat → Int64), i + k = gs.length → k < n → L_Tab_begin_2 so ra gT (nI w) n (nI i) kn = some ((List.range' i k).foldl (begW gs w) kn) := by
  have hG := hw.1
  have hgT : gT = nI gs.length := h.1
  intro k
  induction k with
  | zero =>
    intro n i kn h1 h2
    obtain ⟨n, rfl⟩ : ∃ z, n = z + 1 := ⟨n - 1, by omega⟩
    rw [L_Tab_begin_2, hgT, if_pos ((nI_leI (by omega) (by omega)).mpr (by omega))]
    rfl
  | succ k ih =>
    intro n i kn h1 h2
    obtain ⟨n, rfl⟩ : ∃ z, n = z + 1 := ⟨n - 1, by omega⟩
    have hi : i < gs.length := by omega
    have hs3 : gs.getD i 9 ≤ 3 := hw.2.2.2.1 _ (getD_mem hi)
    have e0 : (nI (gs.getD i 9) = (0 : Int32)) ↔ gs.getD i 9 = 0 := by rw [i0]; exact nI_eq (by omega) (by omega)
    have e1 : (nI (gs.getD i 9) = (1 : Int32)) ↔ gs.getD i 9 = 1 := by rw [i1]; exact nI_eq (by omega) (by omega)
    obtain ⟨s1, s2⟩ := h.2.2.2.2.1 i hi
    have hrk := rk_lt hi
    rw [List.range'_succ, List.foldl_cons, begW]
    rw [L_Tab_begin_2, if_neg (by rw [hgT, nI_leI (by omega) (by omega)]; omega), gd_nI (by omega) (by decide), nI_clamp (by omega), s1, nI_1]
    simp only [e0, e1]
    by_cases c0 : gs.getD i 9 = 0
    · rw [c0] at hrk
      have hr4 : rk gs i < 4 := by have := hw.2.1; omega
      rw [if_pos c0, if_pos c0, gd_nI (by omega) (by decide), s2 (by omega), gd_nI hr4 (by decide), nI_clamp (by omega), p_set (by omega), Option.bind_some]
      exact ih n (i + 1) _ (by omega) (by omega)
    · by_cases c1 : gs.getD i 9 = 1
      · rw [c1] at hrk
        have hr8 : rk gs i < 8 := by have := hw.2.2.1; omega
        rw [if_neg c0, if_neg c0, if_pos c1, if_pos c1, gd_nI (by omega) (by decide), s2 (by omega), p_latchBits hr8 hw64, Option.bind_some, p_set (by omega), Option.bind_some]
        exact ih n (i + 1) _ (by omega) (by omega)
      · rw [if_neg c0, if_neg c0, if_neg c1, if_neg c1, n2, nI_1, gd_nI (by omega) (by decide), gd_nI (by omega) (by decide), nI_clamp (by omega), nI_clamp (by omega)]
        exact ih n (i + 1) _ (by omega) (by omega)
theorem p_begin (h : RC so ra st li nl ou gT iT lT oT gs fs os) (hw : WF gs fs os) {w : Nat} (hw64 : w < 64) (kn : Nat → Int64) : m_Tab_begin so ra gT kn (nI w) = some ((List.range' 0 gs.length).foldl (begW gs w) kn) := by
  have e : L_Tab_begin_2 so ra gT (nI w) fu (0 : Int32) kn = some _ := p_beginL h hw hw64 gs.length fu 0 kn (by omega) (by have := hw.1; rw [fu]; omega)
  rw [m_Tab_begin, e]
  rfl
theorem p_keepL (h : RC so ra st li nl ou gT iT lT oT gs fs os) (hw : WF gs fs os) {w : Nat} (hw64 : w < 64) {kn : Nat → Int64} : ∀ (k n i : Nat) (a : Int64) (va : Nat → Int64), i + k = gs.length → k < n → L_Tab_keep_7 gT kn (nI w) n a (nI i) va = some ((List.range' i k).foldl (kpW kn w) (a, va)) := by
  have hG := hw.1
  have hgT : gT = nI gs.length := h.1
  intro k
  induction k with
  | zero =>
    intro n i a va h1 h2
    obtain ⟨n, rfl⟩ : ∃ z, n = z + 1 := ⟨n - 1, by omega⟩
    rw [L_Tab_keep_7, hgT, if_pos ((nI_leI (by omega) (by omega)).mpr (by omega))]
    rfl
  | succ k ih =>
    intro n i a va h1 h2
    obtain ⟨n, rfl⟩ : ∃ z, n = z + 1 := ⟨n - 1, by omega⟩
    have e64 : nI i * (64 : Int32) + nI w = nI (i * 64 + w) := by rw [i64, pk_mul, nI_add]
    rw [List.range'_succ, List.foldl_cons, kpW]
    rw [L_Tab_keep_7, if_neg (by rw [hgT, nI_leI (by omega) (by omega)]; omega), n2, nI_1, gd_nI (by omega) (by decide), gd_nI (by omega) (by decide), gd_nI (by omega) (by decide), e64, gd_nI (by omega) (by decide), nI_clamp (by omega), nI_clamp (by omega), nI_clamp (by omega), nI_1]
    exact ih n (i + 1) _ _ (by omega) (by omega)
theorem p_keep (h : RC so ra st li nl ou gT iT lT oT gs fs os) (hw : WF gs fs os) {w : Nat} (hw64 : w < 64) (kn se va : Nat → Int64) : m_Tab_keep gT kn se va (nI w) = some (vp_updL se w ((List.range' 0 gs.length).foldl (kpW kn w) (-1, va)).1, ((List.range' 0 gs.length).foldl (kpW kn w) (-1, va)).2) := by
  have e : L_Tab_keep_7 gT kn (nI w) fu (-1 : Int64) (0 : Int32) va = some _ := p_keepL h hw hw64 gs.length fu 0 (-1) va (by omega) (by have := hw.1; rw [fu]; omega)
  rw [m_Tab_keep, e, Option.bind_some, gd_nI hw64 (by decide), nI_clamp (by omega)]
end SW
