def settleW (gs : List Nat) (fs : List (Nat × Nat)) : Nat → (Nat → Int64) → (Nat → Int64)
  | 0, kn => kn
  | k + 1, kn => if (sweepW gs fs (0, kn)).1 = 0 then (sweepW gs fs (0, kn)).2 else settleW gs fs k (sweepW gs fs (0, kn)).2
theorem stepW_flag {gs : List Nat} {fs : List (Nat × Nat)} (s : Int32 × (Nat → Int64)) (g : Nat) (h : s.1 = 0 ∨ s.1 = 1) : (stepW gs fs s g).1 = 0 ∨ (stepW gs fs s g).1 = 1 := by
  rw [stepW]
  split
  · dsimp only; split
    · exact h
    · exact Or.inr rfl
  · split
    · dsimp only; split
      · exact h
      · exact Or.inr rfl
    · exact h
theorem foldW_flag {gs : List Nat} {fs : List (Nat × Nat)} : ∀ (l : List Nat) (s : Int32 × (Nat → Int64)), (s.1 = 0 ∨ s.1 = 1) → ((l.foldl (stepW gs fs) s).1 = 0 ∨ (l.foldl (stepW gs fs) s).1 = 1)
  | [], _, h => h
  | g :: l, s, h => by rw [List.foldl_cons]; exact foldW_flag l _ (stepW_flag s g h)
section SW
variable {so ra st li nl ou : Nat → Int32} {gT iT lT oT : Int32} {gs : List Nat} {fs : List (Nat × Nat)} {os : List Nat}
theorem p_sweepOnce (h : RC so ra st li nl ou gT iT lT oT gs fs os) (hw : WF gs fs os) (kn : Nat → Int64) : m_Tab_sweepOnce so st li gT kn = some (sweepW gs fs (0, kn)) := by
  have hG := hw.1
  have e : L_Tab_sweepOnce_4 so st li gT fu (0 : Int32) (0 : Int32) kn = some (sweepW gs fs (0, kn)) := p_L4 h hw gs.length fu 0 0 kn (by omega) (by rw [fu]; omega)
  rw [m_Tab_sweepOnce, e, Option.bind_some]
  have hz : sx_zok (sweepW gs fs (0, kn)).1 := by
    rcases foldW_flag (gs := gs) (fs := fs) (List.range' 0 gs.length) (0, kn) (Or.inl rfl) with q | q
    · rw [sweepW, q]; exact sx_z0
    · rw [sweepW, q]; exact sx_z1
  rw [gd_in hz]
theorem p_settleL (h : RC so ra st li nl ou gT iT lT oT gs fs os) (hw : WF gs fs os) : ∀ (k n i : Nat) (kn : Nat → Int64), i + k = gs.length → k < n → ∃ r, L_Tab_settle_2 so st li gT n (nI i) kn = some r ∧ Sum.elim (fun v => some v) (fun v => some v) r = some (settleW gs fs k kn) := by
  have hG := hw.1
  have hgT : gT = nI gs.length := h.1
  intro k
  induction k with
  | zero =>
    intro n i kn h1 h2
    obtain ⟨n, rfl⟩ : ∃ z, n = z + 1 := ⟨n - 1, by omega⟩
    rw [L_Tab_settle_2, hgT, if_pos ((nI_leI (by omega) (by omega)).mpr (by omega))]
    exact ⟨_, rfl, rfl⟩
  | succ k ih =>
    intro n i kn h1 h2
    obtain ⟨n, rfl⟩ : ∃ z, n = z + 1 := ⟨n - 1, by omega⟩
    rw [L_Tab_settle_2, if_neg (by rw [hgT, nI_leI (by omega) (by omega)]; omega), p_sweepOnce h hw, Option.bind_some, settleW, nI_1]
    by_cases c : (sweepW gs fs (0, kn)).1 = 0
    · rw [if_pos c, if_pos c]
      exact ⟨_, rfl, rfl⟩
    · rw [if_neg c, if_neg c]
      exact ih n (i + 1) _ (by omega) (by omega)
theorem p_settle (h : RC so ra st li nl ou gT iT lT oT gs fs os) (hw : WF gs fs os) (kn : Nat → Int64) : m_Tab_settle so st li gT kn = some (settleW gs fs gs.length kn) := by
  obtain ⟨r, h1, h2⟩ := p_settleL h hw gs.length fu 0 kn (by omega) (by have := hw.1; rw [fu]; omega)
  have e0 : nI 0 = (0 : Int32) := rfl
  rw [e0] at h1
  rw [m_Tab_settle, h1, Option.bind_some]
  exact h2
end SW
/-- the word of latch r in word w -/
def LBw (r w : Nat) : Int64 := if 2 ≤ r then (if w / 2 ^ (r - 2) % 2 = 1 then -1 else 0) else sx_LW r
theorem p_latchBits {r w : Nat} (hr : r < 8) (hw : w < 64) : m_Tab_latchBits (nI r) (nI w) = some (LBw r w) := by
  rw [m_Tab_latchBits, LBw]
  have e2 : ((2 : Int32) ≤ nI r) ↔ 2 ≤ r := by rw [i2]; exact nI_leI (by omega) (by omega)
  simp only [e2]
  by_cases c : 2 ≤ r
  · rw [if_pos c, if_pos c]
    have key : ∀ r : Fin 8, ∀ w : Fin 64, 2 ≤ r.val → ((nI w.val >>> ((nI r.val - (2 : Int32)) &&& 31)) &&& (1 : Int32) = (1 : Int32) ↔ w.val / 2 ^ (r.val - 2) % 2 = 1) := by decide +kernel
    have k := key ⟨r, hr⟩ ⟨w, hw⟩ c
    simp only at k
    simp only [k]
    split <;> rfl
  · rw [if_neg c, if_neg c, gd_nI (by omega) (by decide), nI_clamp (by omega)]
