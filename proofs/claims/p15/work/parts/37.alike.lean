/-! values and settling of a state with a choice, out of the words -/
def vb (va : Nat → Int64) (g s c : Nat) : Bool := bL (va (g * 64 + s / 4)) (s % 4 * 16 + c)
def sb (se : Nat → Int64) (s c : Nat) : Bool := bL (se (s / 4)) (s % 4 * 16 + c)
theorem PW_ex {W : Nat} {se sp X : Nat → Int64} {l : List Nat} (hP : PW W se sp l) (hl : ∀ s, s ∈ l → s / 4 < W) :
    (∃ w, 0 ≤ w ∧ w < W ∧ ¬ X w &&& sp w = 0) ↔ ∃ s, s ∈ l ∧ ∃ c, c < 16 ∧ sb se s c = true ∧ bL (X (s / 4)) (s % 4 * 16 + c) = true := by
  constructor
  · intro ⟨w, _, hw, h⟩
    rw [bL_and0] at h
    have h2 : ∃ b, b < 64 ∧ bL (X w) b = true ∧ bL (sp w) b = true := by
      apply Classical.byContradiction
      intro q
      exact h fun b hb z => q ⟨b, hb, z.1, z.2⟩
    obtain ⟨b, hb, b1, b2⟩ := h2
    rw [hP w hw b hb, Bool.and_eq_true, decide_eq_true_eq] at b2
    refine ⟨4 * w + b / 16, b2.1, b % 16, by omega, ?_, ?_⟩
    · rw [sb, show (4 * w + b / 16) / 4 = w by omega, show (4 * w + b / 16) % 4 * 16 + b % 16 = b by omega]; exact b2.2
    · rw [show (4 * w + b / 16) / 4 = w by omega, show (4 * w + b / 16) % 4 * 16 + b % 16 = b by omega]; exact b1
  · intro ⟨s, hs, c, hc, h1, h2⟩
    refine ⟨s / 4, Nat.zero_le _, hl s hs, fun q => ?_⟩
    rw [bL_and0] at q
    refine q (s % 4 * 16 + c) (by omega) ⟨h2, ?_⟩
    rw [hP _ (hl s hs) _ (by omega), Bool.and_eq_true, decide_eq_true_eq]
    exact ⟨by rw [show 4 * (s / 4) + (s % 4 * 16 + c) / 16 = s by omega]; exact hs, h1⟩
theorem bL_xor {x y : Int64} {b : Nat} : bL (x ^^^ y) b = (bL x b ^^ bL y b) := by rw [bL, Int64.toBitVec_xor, BitVec.getLsbD_xor]; rfl
theorem bL_0 {b : Nat} : bL 0 b = false := by
  show (0#64).getLsbD b = false
  simp
theorem bL_m1 {b : Nat} (hb : b < 64) : bL (-1) b = true := by
  have key : ∀ b : Fin 64, bL (-1) b.val = true := by decide +kernel
  exact key ⟨b, hb⟩
theorem p_isEver {W g : Nat} {se sp va : Nat → Int64} {l : List Nat} (hW : W ≤ 64) (hg : g < 60) (hP : PW W se sp l) (hl : ∀ s, s ∈ l → s / 4 < W) (z : Bool) :
    (m_Wlk_isEver va sp (nI W) (nI g) (if z = true then 1 else 0) = some 1 ∧ ∃ s, s ∈ l ∧ ∃ c, c < 16 ∧ sb se s c = true ∧ vb va g s c = z) ∨
    (m_Wlk_isEver va sp (nI W) (nI g) (if z = true then 1 else 0) = some 0 ∧ ∀ s, s ∈ l → ∀ c, c < 16 → sb se s c = true → vb va g s c ≠ z) := by
  have key : ∀ x : Int64, (∀ b, b < 64 → bL x b = !z) → m_Wlk_isEver va sp (nI W) (nI g) (if z = true then 1 else 0) = (L_Wlk_isEver_17 va sp (nI W) (nI g) x fu (0 : Int32)).bind (Sum.elim (fun _ => some (1 : Int32)) (fun _ => some (0 : Int32))) →
      (m_Wlk_isEver va sp (nI W) (nI g) (if z = true then 1 else 0) = some 1 ∧ ∃ s, s ∈ l ∧ ∃ c, c < 16 ∧ sb se s c = true ∧ vb va g s c = z) ∨
      (m_Wlk_isEver va sp (nI W) (nI g) (if z = true then 1 else 0) = some 0 ∧ ∀ s, s ∈ l → ∀ c, c < 16 → sb se s c = true → vb va g s c ≠ z) := by
    intro x hx e
    have hX : ∀ s c, c < 16 → bL (va (g * 64 + s / 4) ^^^ x) (s % 4 * 16 + c) = true → vb va g s c = z := by
      intro s c hc h
      rw [bL_xor, hx _ (by omega)] at h
      rw [vb]
      revert h
      cases bL (va (g * 64 + s / 4)) (s % 4 * 16 + c) <;> cases z <;> simp
    have hX2 : ∀ s c, c < 16 → vb va g s c = z → bL (va (g * 64 + s / 4) ^^^ x) (s % 4 * 16 + c) = true := by
      intro s c hc h
      rw [vb] at h
      rw [bL_xor, hx _ (by omega), h]
      cases z <;> rfl
    have hx0 := PW_ex (X := fun w => va (g * 64 + w) ^^^ x) hP hl
    have hL : (L_Wlk_isEver_17 va sp (nI W) (nI g) x fu (0 : Int32) = some (.inl ()) ∧ _) ∨ (L_Wlk_isEver_17 va sp (nI W) (nI g) x fu (0 : Int32) = some (.inr ()) ∧ _) := p_everL (va := va) (sp := sp) (x := x) hW hg W fu 0 (by omega) (by rw [fu]; omega)
    rcases hL with ⟨a, b⟩ | ⟨a, b⟩
    · obtain ⟨s, hs, c, hc, h1, h2⟩ := hx0.mp b
      exact Or.inl ⟨by rw [e, a]; rfl, s, hs, c, hc, h1, hX s c hc h2⟩
    · refine Or.inr ⟨by rw [e, a]; rfl, fun s hs c hc h1 h2 => ?_⟩
      obtain ⟨w, w1, w2, w3⟩ := hx0.mpr ⟨s, hs, c, hc, h1, hX2 s c hc h2⟩
      exact w3 (b w w1 w2)
  cases z with
  | true => exact key 0 (fun b _ => bL_0) rfl
  | false => exact key (-1) (fun b hb => bL_m1 hb) rfl
theorem p_everDiffer {W g f : Nat} {se sp va : Nat → Int64} {l : List Nat} (hW : W ≤ 64) (hg : g < 60) (hf : f < 60) (hP : PW W se sp l) (hl : ∀ s, s ∈ l → s / 4 < W) :
    (m_Wlk_everDiffer va sp (nI W) (nI g) (nI f) = some 1 ∧ ∃ s, s ∈ l ∧ ∃ c, c < 16 ∧ sb se s c = true ∧ vb va g s c ≠ vb va f s c) ∨
    (m_Wlk_everDiffer va sp (nI W) (nI g) (nI f) = some 0 ∧ ∀ s, s ∈ l → ∀ c, c < 16 → sb se s c = true → vb va g s c = vb va f s c) := by
  have hX : ∀ s c, bL (va (g * 64 + s / 4) ^^^ va (f * 64 + s / 4)) (s % 4 * 16 + c) = true ↔ vb va g s c ≠ vb va f s c := by
    intro s c
    rw [bL_xor, vb, vb]
    cases bL (va (g * 64 + s / 4)) (s % 4 * 16 + c) <;> cases bL (va (f * 64 + s / 4)) (s % 4 * 16 + c) <;> simp
  have hx0 := PW_ex (X := fun w => va (g * 64 + w) ^^^ va (f * 64 + w)) hP hl
  have hL : (L_Wlk_everDiffer_3 va sp (nI W) (nI g) (nI f) fu (0 : Int32) = some (.inl ()) ∧ _) ∨ (L_Wlk_everDiffer_3 va sp (nI W) (nI g) (nI f) fu (0 : Int32) = some (.inr ()) ∧ _) := p_differL (va := va) (sp := sp) hW hg hf W fu 0 (by omega) (by rw [fu]; omega)
  rcases hL with ⟨a, b⟩ | ⟨a, b⟩
  · obtain ⟨s, hs, c, hc, h1, h2⟩ := hx0.mp b
    exact Or.inl ⟨by rw [m_Wlk_everDiffer, a]; rfl, s, hs, c, hc, h1, (hX s c).mp h2⟩
  · refine Or.inr ⟨by rw [m_Wlk_everDiffer, a]; rfl, fun s hs c hc h1 => ?_⟩
    apply Classical.byContradiction
    intro h2
    obtain ⟨w, w1, w2, w3⟩ := hx0.mpr ⟨s, hs, c, hc, h1, (hX s c).mpr h2⟩
    exact w3 (b w w1 w2)
