/-! questions of the walk -/
def bk (A : WA) : Nat → Nat → Nat
  | 0, s => s
  | n + 1, s => bk A n (A.2.2.1 s)
theorem nI_m1 (j : Nat) : nI (j + 1) + (-1 : Int32) = nI j := by
  rw [← nI_1, Int32.add_assoc]
  show nI j + 0 = nI j
  rw [Int32.add_zero]
section WQ
variable {S : Nat} {di od pa st : Nat → Int32} {re du dS dC : Int32} {A : WA}
theorem p_wayL (hS : S ≤ 256) (hR : RW S di od pa st re du dS dC A) (hI : IA S A) {i : Nat} : ∀ (m n s : Nat), s ∈ A.1 → A.2.1 s = i + m + 1 → m < n → L_Wlk_stepOfWay_27 pa (nI i) n (nI s) (nI (i + m)) = some (nI (bk A m s)) ∧ bk A m s ∈ A.1 ∧ A.2.1 (bk A m s) = i + 1 := by
  have hlen := nodup_le hI.1 (fun q hq => (hI.2.1 q hq).1)
  intro m
  induction m with
  | zero =>
    intro n s hs hd hn
    obtain ⟨n, rfl⟩ : ∃ z, n = z + 1 := ⟨n - 1, by omega⟩
    have h2 := hI.2.1 s hs
    rw [L_Wlk_stepOfWay_27, if_pos ((nI_leI (by omega) (by omega)).mpr (by omega))]
    exact ⟨rfl, hs, by rw [bk]; omega⟩
  | succ m ih =>
    intro n s hs hd hn
    obtain ⟨n, rfl⟩ : ∃ z, n = z + 1 := ⟨n - 1, by omega⟩
    have h2 := hI.2.1 s hs
    obtain ⟨h3, h4⟩ := hI.2.2.1 s hs (by omega)
    have h5 := (hR.2.2.1 s hs (by omega)).1
    rw [L_Wlk_stepOfWay_27, if_neg (by rw [nI_leI (by omega) (by omega)]; omega), gd_nI (by omega) (by decide), nI_clamp (by omega), h5, ← Nat.add_assoc, nI_m1, bk]
    exact ih n _ h3 (by omega) (by omega)
theorem p_stepOfWay (hS : S ≤ 256) (hR : RW S di od pa st re du dS dC A) (hI : IA S A) {s i : Nat} (hs : s < S) (hi : i < 2 ^ 31) :
    m_Wlk_stepOfWay di pa st (nI s) (nI i) = some (if s ∈ A.1 ∧ i < A.2.1 s then nI (A.2.2.2.1 (bk A (A.2.1 s - 1 - i) s)) else -1) := by
  have hlen := nodup_le hI.1 (fun q hq => (hI.2.1 q hq).1)
  rw [m_Wlk_stepOfWay, gd_nI (by omega) (by decide), nI_clamp (by omega), hR.1 s hs]
  by_cases c : s ∈ A.1
  · have h2 := hI.2.1 s c
    rw [if_pos c, if_neg (m1_ne (by omega))]
    simp only [nI_ltI (show i < 2 ^ 31 from hi) (show A.2.1 s < 2 ^ 31 by omega)]
    by_cases d : i < A.2.1 s
    · obtain ⟨e1, e2, e3⟩ := p_wayL hS hR hI (i := i) (A.2.1 s - 1 - i) fu s c (by omega) (by rw [fu]; omega)
      have hb := hI.2.1 _ e2
      rw [if_pos d, if_pos ⟨c, d⟩, i1, pk_sub (by omega), show A.2.1 s - 1 = i + (A.2.1 s - 1 - i) by omega, show i + (A.2.1 s - 1 - i) - i = A.2.1 s - 1 - i by omega, e1, Option.bind_some, gd_nI (by omega) (by decide), nI_clamp (by omega), (hR.2.2.1 _ e2 (by omega)).2]
    · rw [if_neg d, if_neg (fun z => d z.2)]
  · rw [if_neg c, if_pos rfl, if_neg (fun z => c z.1)]
theorem p_reachedL (hS : S ≤ 256) (hR : RW S di od pa st re du dS dC A) (hI : IA S A) (x : Int32) : ∀ (k n i : Nat), i + k = A.1.length → k < n → L_Wlk_reachedAt_4 di od re x n (nI ((A.1.take i).countP (fun s => decide (nI (A.2.1 s) = x)))) (nI i) = some (nI (A.1.countP (fun s => decide (nI (A.2.1 s) = x)))) := by
  have hlen := nodup_le hI.1 (fun q hq => (hI.2.1 q hq).1)
  intro k
  induction k with
  | zero =>
    intro n i h1 h2
    obtain ⟨n, rfl⟩ : ∃ z, n = z + 1 := ⟨n - 1, by omega⟩
    rw [L_Wlk_reachedAt_4, hR.2.2.2.1, if_pos ((nI_leI (by omega) (by omega)).mpr (by omega)), List.take_of_length_le (by omega)]
  | succ k ih =>
    intro n i h1 h2
    obtain ⟨n, rfl⟩ : ∃ z, n = z + 1 := ⟨n - 1, by omega⟩
    have eg : A.1.getD i 0 = A.1[i]'(by omega) := by rw [List.getD_eq_getElem?_getD, List.getElem?_eq_getElem (by omega)]; rfl
    have hm : A.1.getD i 0 ∈ A.1 := by rw [eg]; exact List.getElem_mem _
    have hmS := (hI.2.1 _ hm).1
    have ht : A.1.take (i + 1) = A.1.take i ++ [A.1.getD i 0] := by rw [eg, List.take_succ_eq_append_getElem (by omega)]
    have hc := ih n (i + 1) (by omega) (by omega)
    rw [ht, List.countP_append, List.countP_singleton] at hc
    rw [L_Wlk_reachedAt_4, hR.2.2.2.1, if_neg (by rw [nI_leI (by omega) (by omega)]; omega), gd_nI (by omega) (by decide), nI_clamp (by omega), hR.2.1 i (by omega), gd_nI (by omega) (by decide), nI_clamp (by omega), hR.1 _ hmS, if_pos hm, nI_1, nI_1, ← hR.2.2.2.1]
    by_cases c : nI (A.2.1 (A.1.getD i 0)) = x
    · rw [if_pos c]
      rw [if_pos (decide_eq_true c)] at hc
      exact hc
    · rw [if_neg c]
      rw [if_neg (by simpa using c)] at hc
      exact hc
theorem p_reachedAt (hS : S ≤ 256) (hR : RW S di od pa st re du dS dC A) (hI : IA S A) (x : Int32) : m_Wlk_reachedAt di od re x = some (nI (A.1.countP (fun s => decide (nI (A.2.1 s) = x)))) := by
  have hlen := nodup_le hI.1 (fun q hq => (hI.2.1 q hq).1)
  have h : L_Wlk_reachedAt_4 di od re x fu (0 : Int32) (0 : Int32) = _ := p_reachedL hS hR hI x A.1.length fu 0 (by omega) (by rw [fu]; omega)
  rw [m_Wlk_reachedAt, h, Option.bind_some]
theorem p_greatest (hS : S ≤ 256) (hR : RW S di od pa st re du dS dC A) (hI : IA S A) (h1 : 1 ≤ A.1.length) : m_Wlk_greatestDistance di od re = some (nI (A.2.1 (A.1.getD (A.1.length - 1) 0))) := by
  have hlen := nodup_le hI.1 (fun q hq => (hI.2.1 q hq).1)
  have eg : A.1.getD (A.1.length - 1) 0 = A.1[A.1.length - 1]'(by omega) := by rw [List.getD_eq_getElem?_getD, List.getElem?_eq_getElem (by omega)]; rfl
  have hm : A.1.getD (A.1.length - 1) 0 ∈ A.1 := by rw [eg]; exact List.getElem_mem _
  have hmS := (hI.2.1 _ hm).1
  rw [m_Wlk_greatestDistance, hR.2.2.2.1, i1, pk_sub h1, gd_nI (by omega) (by decide), nI_clamp (by omega), hR.2.1 _ (by omega), gd_nI (by omega) (by decide), nI_clamp (by omega), hR.1 _ hmS, if_pos hm]
end WQ
theorem bL_and0 {x y : Int64} : x &&& y = 0 ↔ ∀ b, b < 64 → ¬ (bL x b = true ∧ bL y b = true) := by
  rw [← Int64.toBitVec_inj, Int64.toBitVec_and]
  show x.toBitVec &&& y.toBitVec = 0#64 ↔ _
  constructor
  · intro h b hb q
    have t := congrArg (fun z => z.getLsbD b) h
    simp only [BitVec.getLsbD_and, BitVec.getLsbD_zero] at t
    rw [bL, bL] at q
    rw [q.1, q.2] at t
    cases t
  · intro h
    apply BitVec.eq_of_getLsbD_eq
    intro b hb
    have := h b hb
    rw [bL, bL] at this
    rw [BitVec.getLsbD_and, BitVec.getLsbD_zero]
    cases e1 : x.toBitVec.getLsbD b <;> cases e2 : y.toBitVec.getLsbD b <;> simp_all
theorem p_everL {va sp : Nat → Int64} {W g : Nat} {x : Int64} (hW : W ≤ 64) (hg : g < 60) : ∀ (k n i : Nat), i + k = W → k < n →
    (L_Wlk_isEver_17 va sp (nI W) (nI g) x n (nI i) = some (.inl ()) ∧ ∃ w, i ≤ w ∧ w < W ∧ ¬ (va (g * 64 + w) ^^^ x) &&& sp w = 0) ∨ (L_Wlk_isEver_17 va sp (nI W) (nI g) x n (nI i) = some (.inr ()) ∧ ∀ w, i ≤ w → w < W → (va (g * 64 + w) ^^^ x) &&& sp w = 0) := by
  intro k
  induction k with
  | zero =>
    intro n i h1 h2
    obtain ⟨n, rfl⟩ : ∃ z, n = z + 1 := ⟨n - 1, by omega⟩
    rw [L_Wlk_isEver_17, if_pos ((nI_leI (by omega) (by omega)).mpr (by omega))]
    exact Or.inr ⟨rfl, fun w a b => absurd b (by omega)⟩
  | succ k ih =>
    intro n i h1 h2
    obtain ⟨n, rfl⟩ : ∃ z, n = z + 1 := ⟨n - 1, by omega⟩
    have e64 : nI g * (64 : Int32) + nI i = nI (g * 64 + i) := by rw [i64, pk_mul, nI_add]
    rw [L_Wlk_isEver_17, if_neg (by rw [nI_leI (by omega) (by omega)]; omega), e64, gd_nI (by omega) (by decide), gd_nI (by omega) (by decide), nI_clamp (by omega), nI_clamp (by omega), nI_1]
    simp only [lg_cmp0]
    by_cases c : (va (g * 64 + i) ^^^ x) &&& sp i = 0
    · rw [if_pos c]
      rcases ih n (i + 1) (by omega) (by omega) with ⟨a, w, b1, b2, b3⟩ | ⟨a, b⟩
      · exact Or.inl ⟨a, w, by omega, b2, b3⟩
      · refine Or.inr ⟨a, fun w w1 w2 => ?_⟩
        rcases Nat.lt_or_ge i w with e | e
        · exact b w (by omega) w2
        · rw [show w = i by omega]; exact c
    · rw [if_neg c]
      exact Or.inl ⟨rfl, i, by omega, by omega, c⟩
theorem p_differL {va sp : Nat → Int64} {W g f : Nat} (hW : W ≤ 64) (hg : g < 60) (hf : f < 60) : ∀ (k n i : Nat), i + k = W → k < n →
    (L_Wlk_everDiffer_3 va sp (nI W) (nI g) (nI f) n (nI i) = some (.inl ()) ∧ ∃ w, i ≤ w ∧ w < W ∧ ¬ (va (g * 64 + w) ^^^ va (f * 64 + w)) &&& sp w = 0) ∨ (L_Wlk_everDiffer_3 va sp (nI W) (nI g) (nI f) n (nI i) = some (.inr ()) ∧ ∀ w, i ≤ w → w < W → (va (g * 64 + w) ^^^ va (f * 64 + w)) &&& sp w = 0) := by
  intro k
  induction k with
  | zero =>
    intro n i h1 h2
    obtain ⟨n, rfl⟩ : ∃ z, n = z + 1 := ⟨n - 1, by omega⟩
    rw [L_Wlk_everDiffer_3, if_pos ((nI_leI (by omega) (by omega)).mpr (by omega))]
    exact Or.inr ⟨rfl, fun w a b => absurd b (by omega)⟩
  | succ k ih =>
    intro n i h1 h2
    obtain ⟨n, rfl⟩ : ∃ z, n = z + 1 := ⟨n - 1, by omega⟩
    have e64 : nI g * (64 : Int32) + nI i = nI (g * 64 + i) := by rw [i64, pk_mul, nI_add]
    have f64 : nI f * (64 : Int32) + nI i = nI (f * 64 + i) := by rw [i64, pk_mul, nI_add]
    rw [L_Wlk_everDiffer_3, if_neg (by rw [nI_leI (by omega) (by omega)]; omega), e64, f64, gd_nI (by omega) (by decide), gd_nI (by omega) (by decide), gd_nI (by omega) (by decide), nI_clamp (by omega), nI_clamp (by omega), nI_clamp (by omega), nI_1]
    simp only [lg_cmp0]
    by_cases c : (va (g * 64 + i) ^^^ va (f * 64 + i)) &&& sp i = 0
    · rw [if_pos c]
      rcases ih n (i + 1) (by omega) (by omega) with ⟨a, w, b1, b2, b3⟩ | ⟨a, b⟩
      · exact Or.inl ⟨a, w, by omega, b2, b3⟩
      · refine Or.inr ⟨a, fun w w1 w2 => ?_⟩
        rcases Nat.lt_or_ge i w with e | e
        · exact b w (by omega) w2
        · rw [show w = i by omega]; exact c
    · rw [if_neg c]
      exact Or.inl ⟨rfl, i, by omega, by omega, c⟩
