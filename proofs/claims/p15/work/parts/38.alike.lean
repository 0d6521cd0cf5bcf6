/-! looksAlike, goesAlike -/
theorem st16 {v : Int64} {q i : Nat} (hq : q < 4) (hi : i < 32) : ((((v.toUInt64 >>> ((nI (q * 16)).toInt64.toUInt64 &&& Int64.toUInt64 63)).toInt64).toInt32) &&& (65535 : Int32)).toBitVec.getLsbD i = (decide (i < 16) && bL v (q * 16 + i)) := by
  have k2 : ∀ i : Nat, (65535#32).getLsbD i = decide (i < 16) := fun i => Nat.testBit_two_pow_sub_one 16 i
  have hsb := sh_bits (v := v) (b := q * 16) (by omega)
  generalize (v.toUInt64 >>> ((nI (q * 16)).toInt64.toUInt64 &&& Int64.toUInt64 63)).toInt64 = x at hsb ⊢
  have z1 : x.toInt32.toBitVec = x.toBitVec.signExtend 32 := rfl
  have z2 : (65535 : Int32).toBitVec = 65535#32 := rfl
  rw [Int32.toBitVec_and, BitVec.getLsbD_and, z1, z2, k2, BitVec.getLsbD_signExtend, hsb, BitVec.getLsbD_ushiftRight]
  simp [hi, show i < 64 by omega, Bool.and_comm, bL]
theorem p_settledIn {se : Nat → Int64} {s : Nat} (hs : s < 256) : ∃ y, m_Tab_settledIn se (nI s) = some y ∧ ∀ i, i < 32 → y.toBitVec.getLsbD i = (decide (i < 16) && sb se s i) := by
  rw [m_Tab_settledIn, p_wordOf hs, Option.bind_some, gd_nI (by omega) (by decide), p_shiftOf hs, Option.bind_some, nI_clamp (by omega)]
  exact ⟨_, rfl, fun i hi => st16 (by omega) hi⟩
theorem p_onesIn {va : Nat → Int64} {g s : Nat} (hg : g < 60) (hs : s < 256) : ∃ y, m_Tab_onesIn va (nI g) (nI s) = some y ∧ ∀ i, i < 32 → y.toBitVec.getLsbD i = (decide (i < 16) && vb va g s i) := by
  have e64 : nI g * (64 : Int32) + nI (s / 4) = nI (g * 64 + s / 4) := by rw [i64, pk_mul, nI_add]
  rw [m_Tab_onesIn, p_wordOf hs, Option.bind_some, e64, gd_nI (by omega) (by decide), p_shiftOf hs, Option.bind_some, nI_clamp (by omega)]
  exact ⟨_, rfl, fun i hi => st16 (by omega) hi⟩
theorem eq16 {x y : Int32} {f g : Nat → Bool} (hx : ∀ i, i < 32 → x.toBitVec.getLsbD i = (decide (i < 16) && f i)) (hy : ∀ i, i < 32 → y.toBitVec.getLsbD i = (decide (i < 16) && g i)) : x = y ↔ ∀ c, c < 16 → f c = g c := by
  constructor
  · intro h c hc
    have a := hx c (by omega)
    rw [h, hy c (by omega)] at a
    simpa [hc] using a.symm
  · intro h
    rw [← Int32.toBitVec_inj]
    apply BitVec.eq_of_getLsbD_eq
    intro i hi
    rw [hx i hi, hy i hi]
    by_cases c : i < 16
    · rw [h i c]
    · simp [c]
theorem xa16 {x y m : Int32} {f g k : Nat → Bool} (hx : ∀ i, i < 32 → x.toBitVec.getLsbD i = (decide (i < 16) && f i)) (hy : ∀ i, i < 32 → y.toBitVec.getLsbD i = (decide (i < 16) && g i)) (hm : ∀ i, i < 32 → m.toBitVec.getLsbD i = (decide (i < 16) && k i)) : (x ^^^ y) &&& m = 0 ↔ ∀ c, c < 16 → k c = true → f c = g c := by
  have hz : ∀ i, i < 32 → ((x ^^^ y) &&& m).toBitVec.getLsbD i = (decide (i < 16) && ((f i ^^ g i) && k i)) := by
    intro i hi
    rw [Int32.toBitVec_and, BitVec.getLsbD_and, Int32.toBitVec_xor, BitVec.getLsbD_xor, hx i hi, hy i hi, hm i hi]
    cases decide (i < 16) <;> simp
  have h0 : ∀ i, i < 32 → (0 : Int32).toBitVec.getLsbD i = (decide (i < 16) && (fun _ => false) i) := by
    intro i _
    show (0#32).getLsbD i = _
    simp
  rw [eq16 hz h0]
  constructor
  · intro h c hc hk
    have := h c hc
    rw [hk] at this
    revert this
    cases f c <;> cases g c <;> simp
  · intro h c hc
    have := h c hc
    revert this
    cases f c <;> cases g c <;> cases k c <;> simp
def LooksA (se va : Nat → Int64) (ov : Nat → Nat) (O s o : Nat) : Prop := (∀ c, c < 16 → sb se s c = sb se o c) ∧ ∀ i, i < O → ∀ c, c < 16 → sb se s c = true → vb va (ov i) s c = vb va (ov i) o c
theorem p_looksL {se va : Nat → Int64} {ou : Nat → Int32} {ov : Nat → Nat} {O s o : Nat} {m : Int32} (hO : O ≤ 6) (hou : ∀ i, i < O → ou i = nI (ov i) ∧ ov i < 60) (hs : s < 256) (ho : o < 256) (hm : ∀ i, i < 32 → m.toBitVec.getLsbD i = (decide (i < 16) && sb se s i)) : ∀ (k n i : Nat), i + k = O → k < n →
    (L_Par_looksAlike_22 ou (nI O) va (nI s) (nI o) m n (nI i) = some (.inl ()) ∧ ∃ j, j < O ∧ ∃ c, c < 16 ∧ sb se s c = true ∧ vb va (ov j) s c ≠ vb va (ov j) o c) ∨ (L_Par_looksAlike_22 ou (nI O) va (nI s) (nI o) m n (nI i) = some (.inr ()) ∧ ∀ j, i ≤ j → j < O → ∀ c, c < 16 → sb se s c = true → vb va (ov j) s c = vb va (ov j) o c) := by
  intro k
  induction k with
  | zero =>
    intro n i h1 h2
    obtain ⟨n, rfl⟩ : ∃ z, n = z + 1 := ⟨n - 1, by omega⟩
    rw [L_Par_looksAlike_22, if_pos ((nI_leI (by omega) (by omega)).mpr (by omega))]
    exact Or.inr ⟨rfl, fun w a b => absurd b (by omega)⟩
  | succ k ih =>
    intro n i h1 h2
    obtain ⟨n, rfl⟩ : ∃ z, n = z + 1 := ⟨n - 1, by omega⟩
    obtain ⟨e1, e2⟩ := hou i (by omega)
    obtain ⟨y1, a1, a2⟩ := p_onesIn (va := va) e2 hs
    obtain ⟨y2, b1, b2⟩ := p_onesIn (va := va) e2 ho
    rw [L_Par_looksAlike_22, if_neg (by rw [nI_leI (by omega) (by omega)]; omega), gd_nI (by omega) (by decide), nI_clamp (by omega), e1, a1, Option.bind_some, b1, Option.bind_some, nI_1]
    have hx := xa16 a2 b2 hm
    by_cases c : (y1 ^^^ y2) &&& m = 0
    · rw [if_pos c]
      rcases ih n (i + 1) (by omega) (by omega) with ⟨a, b⟩ | ⟨a, b⟩
      · exact Or.inl ⟨a, b⟩
      · refine Or.inr ⟨a, fun w w1 w2 => ?_⟩
        rcases Nat.lt_or_ge i w with e | e
        · exact b w (by omega) w2
        · rw [show w = i by omega]; exact hx.mp c
    · rw [if_neg c]
      refine Or.inl ⟨rfl, i, by omega, ?_⟩
      apply Classical.byContradiction
      intro q
      exact c (hx.mpr fun d hd h3 => Classical.byContradiction fun h4 => q ⟨d, hd, h3, h4⟩)
theorem p_looksAlike {se va : Nat → Int64} {ou : Nat → Int32} {ov : Nat → Nat} {O s o : Nat} (hO : O ≤ 6) (hou : ∀ i, i < O → ou i = nI (ov i) ∧ ov i < 60) (hs : s < 256) (ho : o < 256) :
    (m_Par_looksAlike ou (nI O) se va (nI s) (nI o) = some 1 ∧ LooksA se va ov O s o) ∨ (m_Par_looksAlike ou (nI O) se va (nI s) (nI o) = some 0 ∧ ¬ LooksA se va ov O s o) := by
  obtain ⟨y1, a1, a2⟩ := p_settledIn (se := se) hs
  obtain ⟨y2, b1, b2⟩ := p_settledIn (se := se) ho
  have he := eq16 a2 b2
  rw [m_Par_looksAlike, a1, Option.bind_some, b1, Option.bind_some]
  by_cases c : y1 = y2
  · rw [if_pos c]
    have hL : (L_Par_looksAlike_22 ou (nI O) va (nI s) (nI o) y1 fu (0 : Int32) = some (.inl ()) ∧ _) ∨ (L_Par_looksAlike_22 ou (nI O) va (nI s) (nI o) y1 fu (0 : Int32) = some (.inr ()) ∧ _) := p_looksL (va := va) hO hou hs ho a2 O fu 0 (by omega) (by rw [fu]; omega)
    rcases hL with ⟨a, j, j1, d, d1, d2, d3⟩ | ⟨a, b⟩
    · exact Or.inr ⟨by rw [a]; rfl, fun q => d3 (q.2 j j1 d d1 d2)⟩
    · exact Or.inl ⟨by rw [a]; rfl, he.mp c, fun j hj => b j (Nat.zero_le _) hj⟩
  · rw [if_neg c]
    exact Or.inr ⟨rfl, fun q => c (he.mpr q.1)⟩
/-- the name of the next state -/
def nmN (nm : Nat → Int32) (nx : Nat → Nat → Option Nat) (s c : Nat) : Int32 := match nx s c with
  | none => -1
  | some t => nm t
def GoesA (nm : Nat → Int32) (nx : Nat → Nat → Option Nat) (C s o : Nat) : Prop := ∀ c, c < C → nmN nm nx s c = nmN nm nx o c
theorem p_nameOfNext {nm ns : Nat → Int32} {nx : Nat → Nat → Option Nat} {s c : Nat} (hs : s < 256) (hc : c < 16) (hnx : nxOf ns s c (nx s c) ∧ ∀ t, nx s c = some t → t < 256) : m_Par_nameOfNext nm ns (nI s) (nI c) = some (nmN nm nx s c) := by
  have e16 : nI s * (16 : Int32) + nI c = nI (s * 16 + c) := by rw [i16, pk_mul, nI_add]
  rw [m_Par_nameOfNext, m_Tab_nextOf, e16, gd_nI (by omega) (by decide), Option.bind_some, nI_clamp (by omega), nmN]
  obtain ⟨h1, h2⟩ := hnx
  cases e : nx s c with
  | none =>
    rw [e] at h1
    have h1' : ns (s * 16 + c) = -1 := h1
    rw [if_pos h1']
  | some t =>
    rw [e] at h1
    have h1' : ns (s * 16 + c) = nI t := h1
    have ht := h2 t e
    rw [h1', if_neg (m1_ne (by omega)), gd_nI (by omega) (by decide), nI_clamp (by omega)]
theorem p_goesL {nm ns : Nat → Int32} {nx : Nat → Nat → Option Nat} {C s o : Nat} (hC : C ≤ 16) (hs : s < 256) (ho : o < 256) (h1 : ∀ c, c < C → nxOf ns s c (nx s c) ∧ ∀ t, nx s c = some t → t < 256) (h2 : ∀ c, c < C → nxOf ns o c (nx o c) ∧ ∀ t, nx o c = some t → t < 256) : ∀ (k n i : Nat), i + k = C → k < n →
    (L_Par_goesAlike_9 nm ns (nI s) (nI o) (nI C) n (nI i) = some (.inl ()) ∧ ∃ c, c < C ∧ nmN nm nx s c ≠ nmN nm nx o c) ∨ (L_Par_goesAlike_9 nm ns (nI s) (nI o) (nI C) n (nI i) = some (.inr ()) ∧ ∀ c, i ≤ c → c < C → nmN nm nx s c = nmN nm nx o c) := by
  intro k
  induction k with
  | zero =>
    intro n i h1 h2
    obtain ⟨n, rfl⟩ : ∃ z, n = z + 1 := ⟨n - 1, by omega⟩
    rw [L_Par_goesAlike_9, if_pos ((nI_leI (by omega) (by omega)).mpr (by omega))]
    exact Or.inr ⟨rfl, fun w a b => absurd b (by omega)⟩
  | succ k ih =>
    intro n i g1 g2
    obtain ⟨n, rfl⟩ : ∃ z, n = z + 1 := ⟨n - 1, by omega⟩
    rw [L_Par_goesAlike_9, if_neg (by rw [nI_leI (by omega) (by omega)]; omega), p_nameOfNext hs (by omega) (h1 i (by omega)), Option.bind_some, p_nameOfNext ho (by omega) (h2 i (by omega)), Option.bind_some, nI_1]
    by_cases c : nmN nm nx s i = nmN nm nx o i
    · rw [if_pos c]
      rcases ih n (i + 1) (by omega) (by omega) with ⟨a, b⟩ | ⟨a, b⟩
      · exact Or.inl ⟨a, b⟩
      · refine Or.inr ⟨a, fun w w1 w2 => ?_⟩
        rcases Nat.lt_or_ge i w with e | e
        · exact b w (by omega) w2
        · rw [show w = i by omega]; exact c
    · rw [if_neg c]
      exact Or.inl ⟨rfl, i, by omega, c⟩
theorem p_goesAlike {nm ns : Nat → Int32} {nx : Nat → Nat → Option Nat} {I s o : Nat} (hI : I ≤ 4) (hs : s < 256) (ho : o < 256) (h1 : ∀ c, c < 2 ^ I → nxOf ns s c (nx s c) ∧ ∀ t, nx s c = some t → t < 256) (h2 : ∀ c, c < 2 ^ I → nxOf ns o c (nx o c) ∧ ∀ t, nx o c = some t → t < 256) :
    (m_Par_goesAlike (nI I) nm ns (nI s) (nI o) = some 1 ∧ GoesA nm nx (2 ^ I) s o) ∨ (m_Par_goesAlike (nI I) nm ns (nI s) (nI o) = some 0 ∧ ¬ GoesA nm nx (2 ^ I) s o) := by
  have hp := pow4 hI
  have hL : (L_Par_goesAlike_9 nm ns (nI s) (nI o) (nI (2 ^ I)) fu (0 : Int32) = some (.inl ()) ∧ _) ∨ (L_Par_goesAlike_9 nm ns (nI s) (nI o) (nI (2 ^ I)) fu (0 : Int32) = some (.inr ()) ∧ _) := p_goesL (nm := nm) hp.2 hs ho h1 h2 (2 ^ I) fu 0 (by omega) (by rw [fu]; omega)
  rw [m_Par_goesAlike, p_choiceTotal (by omega), Option.bind_some]
  rcases hL with ⟨a, d, d1, d2⟩ | ⟨a, b⟩
  · exact Or.inr ⟨by rw [a]; rfl, fun q => d2 (q d d1)⟩
  · exact Or.inl ⟨by rw [a]; rfl, fun c hc => b c (Nat.zero_le _) hc⟩
