/-! explore, whole -/
/-- the next state of the net -/
def nxA (gs : List Nat) (fs : List (Nat × Nat)) (nv : Nat → Nat) (s c : Nat) : Option Nat := if bL (SE gs fs (s / 4)) (s % 4 * 16 + c) = false then none else some (nxt (VA gs fs) nv (s / 4) (s % 4 * 16 + c) (gs.count 1))
theorem nxA_lt {gs : List Nat} {fs : List (Nat × Nat)} {nv : Nat → Nat} {s c t : Nat} (h : nxA gs fs nv s c = some t) : t < 2 ^ gs.count 1 := by
  rw [nxA] at h
  split at h
  · cases h
  · cases h; exact nxt_lt _
theorem nxA_of {gs : List Nat} {fs : List (Nat × Nat)} {nv : Nat → Nat} {ns : Nat → Int32} {s c : Nat} (h : ns (s * 16 + c) = NX gs fs nv s c) : nxOf ns s c (nxA gs fs nv s c) := by
  rw [nxA]
  rw [NX] at h
  split
  · rename_i e
    rw [if_pos e] at h
    exact h
  · rename_i e
    rw [if_neg e] at h
    exact h
/-- the walk of the net -/
def WK (gs : List Nat) (fs : List (Nat × Nat)) (nv : Nat → Nat) : WA := walkA (nxA gs fs nv) (2 ^ gs.count 0) 256 0 begA
def rdK (gs : List Nat) (fs : List (Nat × Nat)) (nv : Nat → Nat) (q : Nat) : Bool := decide (q ∈ (WK gs fs nv).1)
/-- the cells hold what is explored of the net -/
def EX (gs : List Nat) (fs : List (Nat × Nat)) (os : List Nat) (nv : Nat → Nat) (pn : Nat → Int32) (pt : Int32) (se va : Nat → Int64) (ns di od pa st : Nat → Int32) (sp : Nat → Int64) (wd re du dS dC : Int32) : Prop :=
  TI gs fs nv se va ns ∧ RW (2 ^ gs.count 1) di od pa st re du dS dC (WK gs fs nv) ∧ IA (2 ^ gs.count 1) (WK gs fs nv) ∧ PW (wt (gs.count 1)) se sp (WK gs fs nv).1 ∧ wd = nI (wt (gs.count 1)) ∧
  ∃ j, HN (2 ^ gs.count 1) (rdK gs fs nv) pn (spl se va (fun i => os.getD i 0) os.length (nxA gs fs nv) (2 ^ gs.count 0) (rdK gs fs nv) (j + 1)) ∧
    pt = nI (nPt (rdK gs fs nv) (spl se va (fun i => os.getD i 0) os.length (nxA gs fs nv) (2 ^ gs.count 0) (rdK gs fs nv) (j + 1)) 0 (2 ^ gs.count 1)) ∧
    ∀ q, q < 2 ^ gs.count 1 → rdK gs fs nv q = true → spl se va (fun i => os.getD i 0) os.length (nxA gs fs nv) (2 ^ gs.count 0) (rdK gs fs nv) (j + 1) q = spl se va (fun i => os.getD i 0) os.length (nxA gs fs nv) (2 ^ gs.count 0) (rdK gs fs nv) j q
section EXP
variable {so ra st li nl ou : Nat → Int32} {gT iT lT oT : Int32} {gs : List Nat} {fs : List (Nat × Nat)} {os : List Nat} {nv : Nat → Nat}
theorem p_explore0 (h : RC so ra st li nl ou gT iT lT oT gs fs os) (hw : WF gs fs os) (hn : ∀ k, k < gs.count 1 → nl k = nI (nv k) ∧ nv k < 2 * gs.length) (pn pf pb : Nat → Int32) (pt : Int32) (kn se va : Nat → Int64) (ns di od pa sp : Nat → Int32) (sq : Nat → Int64) (wd re du dS dC : Int32) :
    ∃ v, m_Exp_explore so ra st li nl ou gT iT lT oT pn pf pb pt kn se va ns di od pa sp sq wd re du dS dC 0 = some v ∧ v.1 = nI (WK gs fs nv).1.length ∧
      EX gs fs os nv v.2.1 v.2.2.2.2.1 v.2.2.2.2.2.2.1 v.2.2.2.2.2.2.2.1 v.2.2.2.2.2.2.2.2.1 v.2.2.2.2.2.2.2.2.2.1 v.2.2.2.2.2.2.2.2.2.2.1 v.2.2.2.2.2.2.2.2.2.2.2.1 v.2.2.2.2.2.2.2.2.2.2.2.2.1 v.2.2.2.2.2.2.2.2.2.2.2.2.2.1 v.2.2.2.2.2.2.2.2.2.2.2.2.2.2.1 v.2.2.2.2.2.2.2.2.2.2.2.2.2.2.2.1 v.2.2.2.2.2.2.2.2.2.2.2.2.2.2.2.2.1 v.2.2.2.2.2.2.2.2.2.2.2.2.2.2.2.2.2.1 v.2.2.2.2.2.2.2.2.2.2.2.2.2.2.2.2.2.2.1 ∧ v.2.2.2.2.2.2.2.2.2.2.2.2.2.2.2.2.2.2.2 = 1 := by
  have hK := hw.2.2.1
  have hI := hw.2.1
  have hG := hw.1
  have hO : os.length ≤ 6 := hw.2.2.2.2.2.2.1
  have hos := hw.2.2.2.2.2.2.2
  have hpK := pow8 hK
  have hiT : iT = nI (gs.count 0) := h.2.1
  have hlT : lT = nI (gs.count 1) := h.2.2.1
  have hoT : oT = nI os.length := h.2.2.2.1
  have hou : ∀ i, i < os.length → ou i = nI (os.getD i 0) ∧ os.getD i 0 < 60 := by
    intro i hi
    refine ⟨h.2.2.2.2.2.2.2.2 i hi, ?_⟩
    have : os.getD i 0 ∈ os := by simp [List.getD_eq_getElem?_getD, hi]
    have := hos _ this
    omega
  obtain ⟨v2, a1, a2⟩ := p_fill h hw hn kn se va ns
  have hnx : ∀ s, s < 2 ^ gs.count 1 → ∀ c, c < 2 ^ gs.count 0 → nxOf v2.2.2.2 s c (nxA gs fs nv s c) ∧ ∀ t, nxA gs fs nv s c = some t → t < 2 ^ gs.count 1 := fun s hs c hc => ⟨nxA_of (a2.2 s hs c hc), fun t ht => nxA_lt ht⟩
  obtain ⟨v4, b1, b2, b3, b4, b5⟩ := p_run (se := v2.2.1) hK hI hnx di od pa sp sq wd re du dS dC
  have hcl : ∀ s, s < 2 ^ gs.count 1 → rdK gs fs nv s = true → ∀ c, c < 2 ^ gs.count 0 → ∀ t, nxA gs fs nv s c = some t → rdK gs fs nv t = true := by
    intro s hs hr c hc t ht
    rw [rdK, decide_eq_true_eq] at hr ⊢
    exact walk_closed hpK.2 (fun s _ c _ t ht => nxA_lt ht) 256 0 begA (by omega) (IA_beg hpK.1) (fun s hs => absurd hs (by simp)) s hr c hc t ht
  have hdi : ∀ q, q < 2 ^ gs.count 1 → (v4.1 q = -1 ↔ rdK gs fs nv q = false) := by
    intro q hq
    have e := b2.1 q hq
    have hlen := nodup_le b3.1 (fun q hq => (b3.2.1 q hq).1)
    rw [rdK, decide_eq_false_iff_not, e]
    by_cases c : q ∈ (WK gs fs nv).1
    · have c' : q ∈ (walkA (nxA gs fs nv) (2 ^ gs.count 0) 256 0 begA).1 := c
      have := (b3.2.1 q c').2
      rw [if_pos c']
      exact ⟨fun z => absurd z (m1_ne (by omega)), fun z => absurd c z⟩
    · have c' : q ∉ (walkA (nxA gs fs nv) (2 ^ gs.count 0) 256 0 begA).1 := c
      rw [if_neg c']
      exact ⟨fun _ => c, fun _ => rfl⟩
  obtain ⟨v6, j, c1, c2, c3, c4⟩ := p_split (se := v2.2.1) (va := v2.2.2.1) (ov := fun i => os.getD i 0) hO hou hI hK hnx hcl hdi (decide_eq_true walk_0) pn pf pb pt
  rw [m_Exp_explore, if_pos rfl, hiT, hlT, hoT]
  rw [hiT, hlT] at a1
  rw [a1, Option.bind_some, b1, Option.bind_some, c1, Option.bind_some]
  exact ⟨_, rfl, b2.2.2.2.1, ⟨a2, b2, b3, b4, b5, j, c2, c3, c4⟩, rfl⟩
end EXP
