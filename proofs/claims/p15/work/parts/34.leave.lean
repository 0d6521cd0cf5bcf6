/-- NX as a number or none -/
def nxOf (ns : Nat → Int32) (s c : Nat) (o : Option Nat) : Prop := match o with
  | none => ns (s * 16 + c) = -1
  | some t => ns (s * 16 + c) = nI t
theorem RW_doubt {S s c : Nat} {di od pa sp : Nat → Int32} {re du dS dC : Int32} {A : WA} {nx : Nat → Nat → Option Nat} (hS : S ≤ 256) (h : RW S di od pa sp re du dS dC A) (hI : IA S A) (hs : s ∈ A.1) (hn : nx s c = none) :
    ∃ v, m_Wlk_noteDoubt di du dS dC (nI s) (nI c) = some v ∧ RW S di od pa sp re v.1 v.2.1 v.2.2 (stepA nx s A c) := by
  obtain ⟨r1, r2, r3, r4, r5, r6⟩ := h
  obtain ⟨g1, g2, g3, g4⟩ := hI
  have hsS := (g2 s hs).1
  have hds : di s = nI (A.2.1 s) := by rw [r1 s hsS, if_pos hs]
  have hlen := nodup_le g1 (fun q hq => (g2 q hq).1)
  have eA : stepA nx s A c = (A.1, A.2.1, A.2.2.1, A.2.2.2.1, A.2.2.2.2.1 + 1, match A.2.2.2.2.2 with
    | none => some (s, c)
    | some d => if A.2.1 s = A.2.1 d.1 ∧ s < d.1 then some (s, c) else some d) := by rw [stepA, hn]; rfl
  have hdu : du + (1 : Int32) = nI (A.2.2.2.2.1 + 1) := by rw [r5, nI_1]
  rw [m_Wlk_noteDoubt, eA]
  cases e : A.2.2.2.2.2 with
  | none =>
    rw [e] at r6
    rw [if_pos r6.1, hdu]
    exact ⟨_, rfl, r1, r2, r3, r4, rfl, rfl, rfl⟩
  | some d =>
    rw [e] at r6
    dsimp only at r6
    have hd := g4 d e
    have hdS := (g2 d.1 hd).1
    have hdd : di d.1 = nI (A.2.1 d.1) := by rw [r1 d.1 hdS, if_pos hd]
    rw [r6.1, if_neg (m1_ne (by omega)), gd_nI (by omega) (by decide), gd_nI (by omega) (by decide), nI_clamp (by omega), nI_clamp (by omega), hds, hdd, hdu]
    have q1 := g2 s hs
    have q2 := g2 d.1 hd
    simp only [nI_eq (show A.2.1 s < 2 ^ 31 by omega) (show A.2.1 d.1 < 2 ^ 31 by omega), nI_leI (show d.1 < 2 ^ 31 by omega) (show s < 2 ^ 31 by omega)]
    by_cases c1 : A.2.1 s = A.2.1 d.1
    · by_cases c2 : d.1 ≤ s
      · rw [if_pos c1, if_pos c2, if_neg (by omega)]
        exact ⟨_, rfl, r1, r2, r3, r4, rfl, rfl, r6.2⟩
      · rw [if_pos c1, if_neg c2, if_pos (by omega)]
        exact ⟨_, rfl, r1, r2, r3, r4, rfl, rfl, rfl⟩
    · rw [if_neg c1, if_neg (fun z => c1 z.1)]
      exact ⟨_, rfl, r1, r2, r3, r4, rfl, rfl, r6.2⟩
theorem RW_reach {S s c t : Nat} {di od pa sp : Nat → Int32} {re du dS dC : Int32} {A : WA} {nx : Nat → Nat → Option Nat} (hS : S ≤ 256) (h : RW S di od pa sp re du dS dC A) (hI : IA S A) (hs : s ∈ A.1) (hn : nx s c = some t) (ht : t < S) (hc : t ∉ A.1) :
    ∃ v, m_Wlk_reach di od pa sp re (nI t) (di s + (1 : Int32)) (nI s) (nI c) = some v ∧ RW S v.1 v.2.1 v.2.2.1 v.2.2.2.1 v.2.2.2.2 du dS dC (stepA nx s A c) := by
  obtain ⟨r1, r2, r3, r4, r5, r6⟩ := h
  obtain ⟨g1, g2, g3, g4⟩ := hI
  have hsS := (g2 s hs).1
  have hds : di s = nI (A.2.1 s) := by rw [r1 s hsS, if_pos hs]
  have hlen : A.1.length < S := by
    have h1 : (t :: A.1).Nodup := List.nodup_cons.mpr ⟨hc, g1⟩
    have := nodup_le h1 (S := S) (fun q hq => by
      rcases List.mem_cons.mp hq with z | z
      · rw [z]; exact ht
      · exact (g2 q z).1)
    rw [List.length_cons] at this
    omega
  have eA : stepA nx s A c = (A.1 ++ [t], upN A.2.1 t (A.2.1 s + 1), upN A.2.2.1 t s, upN A.2.2.2.1 t c, A.2.2.2.2.1, A.2.2.2.2.2) := by rw [stepA, hn]; dsimp only; rw [if_neg hc]
  rw [m_Wlk_reach, r4, gd_nI (by omega) (by decide), gd_nI (by omega) (by decide), gd_nI (by omega) (by decide), gd_nI (by omega) (by decide), nI_clamp (by omega), nI_clamp (by omega), hds, nI_1, nI_1, eA]
  refine ⟨_, rfl, ?_, ?_, ?_, ?_, r5, r6⟩
  · intro q hq
    dsimp only
    rw [upd_eq]
    by_cases c1 : q = t
    · rw [if_pos c1, if_pos (by rw [c1]; simp), upN, if_pos c1]
    · rw [if_neg c1, r1 q hq, upN, if_neg c1]
      simp [c1]
  · intro i hi
    dsimp only at hi ⊢
    rw [List.length_append, List.length_singleton] at hi
    rw [upd_eq]
    by_cases c1 : i = A.1.length
    · rw [if_pos c1, c1]; simp [List.getD_eq_getElem?_getD]
    · rw [if_neg c1, r2 i (by omega)]
      simp [List.getD_eq_getElem?_getD, List.getElem?_append_left (show i < A.1.length by omega)]
  · intro q hq hq0
    dsimp only at hq hq0 ⊢
    rw [upd_eq, upd_eq, upN, upN]
    by_cases c1 : q = t
    · rw [if_pos c1, if_pos c1, if_pos c1, if_pos c1]; exact ⟨rfl, rfl⟩
    · rw [if_neg c1, if_neg c1, if_neg c1, if_neg c1]
      rw [upN, if_neg c1] at hq0
      refine r3 q ?_ hq0
      rcases List.mem_append.mp hq with z | z
      · exact z
      · exact absurd (List.mem_singleton.mp z) c1
  · dsimp only; rw [List.length_append, List.length_singleton]
theorem p_leaveL {S s C : Nat} {ns : Nat → Int32} {nx : Nat → Nat → Option Nat} (hS : S ≤ 256) (hC : C ≤ 16) (hnx : ∀ c, c < C → nxOf ns s c (nx s c) ∧ ∀ t, nx s c = some t → t < S) :
    ∀ (k n c : Nat) (di od pa sp : Nat → Int32) (re du dS dC : Int32) (A : WA), c + k = C → k < n → RW S di od pa sp re du dS dC A → IA S A → s ∈ A.1 →
      ∃ v, L_Wlk_leave_26 ns (nI s) (nI C) n (nI c) di od pa sp re du dS dC = some v ∧ RW S v.1 v.2.1 v.2.2.1 v.2.2.2.1 v.2.2.2.2.1 v.2.2.2.2.2.1 v.2.2.2.2.2.2.1 v.2.2.2.2.2.2.2 ((List.range' c k).foldl (stepA nx s) A) ∧ IA S ((List.range' c k).foldl (stepA nx s) A) := by
  intro k
  induction k with
  | zero =>
    intro n c di od pa sp re du dS dC A h1 h2 hR hI hs
    obtain ⟨n, rfl⟩ : ∃ z, n = z + 1 := ⟨n - 1, by omega⟩
    rw [L_Wlk_leave_26, if_pos ((nI_leI (by omega) (by omega)).mpr (by omega))]
    exact ⟨_, rfl, hR, hI⟩
  | succ k ih =>
    intro n c di od pa sp re du dS dC A h1 h2 hR hI hs
    obtain ⟨n, rfl⟩ : ∃ z, n = z + 1 := ⟨n - 1, by omega⟩
    obtain ⟨hx1, hx2⟩ := hnx c (by omega)
    have hsS := (hI.2.1 s hs).1
    have e16 : nI s * (16 : Int32) + nI c = nI (s * 16 + c) := by rw [i16, pk_mul, nI_add]
    obtain ⟨hI2, hs2⟩ := IA_step (nx := nx) (c := c) hI hs hx2
    rw [List.range'_succ, List.foldl_cons]
    rw [L_Wlk_leave_26, if_neg (by rw [nI_leI (by omega) (by omega)]; omega), m_Tab_nextOf, e16, gd_nI (by omega) (by decide), Option.bind_some, nI_clamp (by omega), nI_1]
    cases e : nx s c with
    | none =>
      rw [e] at hx1
      have hx1' : ns (s * 16 + c) = -1 := hx1
      obtain ⟨v, v1, v2⟩ := RW_doubt hS hR hI hs e
      rw [if_pos hx1', v1, Option.bind_some]
      exact ih n (c + 1) _ _ _ _ _ _ _ _ _ (by omega) (by omega) v2 hI2 hs2
    | some t =>
      rw [e] at hx1
      have hx1' : ns (s * 16 + c) = nI t := hx1
      have ht := hx2 t e
      rw [hx1', if_neg (m1_ne (by omega)), gd_nI (by omega) (by decide), nI_clamp (by omega)]
      by_cases c1 : t ∈ A.1
      · have hb := (hI.2.1 t c1).2
        have hl := nodup_le hI.1 (fun q hq => (hI.2.1 q hq).1)
        rw [if_neg (by rw [hR.1 t ht, if_pos c1]; exact m1_ne (by omega))]
        have eA : stepA nx s A c = A := by rw [stepA, e]; dsimp only; rw [if_pos c1]
        rw [eA] at hI2 hs2 ⊢
        exact ih n (c + 1) _ _ _ _ _ _ _ _ _ (by omega) (by omega) hR hI2 hs2
      · rw [if_pos (by rw [hR.1 t ht, if_neg c1]), gd_nI (by omega) (by decide), nI_clamp (by omega)]
        obtain ⟨v, v1, v2⟩ := RW_reach hS hR hI hs e ht c1
        rw [v1, Option.bind_some]
        exact ih n (c + 1) _ _ _ _ _ _ _ _ _ (by omega) (by omega) v2 hI2 hs2
