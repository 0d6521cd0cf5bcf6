/-! one round of splitting -/
/-- the parts of the group L among the states below x, each by its least state, as they come -/
def prt (rd : Nat → Bool) (N : Nat → Nat) (al : Nat → Nat → Bool) (L : Nat) : Nat → List Nat
  | 0 => []
  | x + 1 => if rd x = true ∧ N x = L ∧ (prt rd N al L x).find? (fun p => al p x) = none then prt rd N al L x ++ [x] else prt rd N al L x
/-- the part of a state -/
def fiN (rd : Nat → Bool) (N : Nat → Nat) (al : Nat → Nat → Bool) (x : Nat) : Nat := ((prt rd N al (N x) x).find? (fun p => al p x)).getD x
section PR
variable {rd : Nat → Bool} {N : Nat → Nat} {al : Nat → Nat → Bool}
theorem prt_mem {L : Nat} : ∀ {x p : Nat}, p ∈ prt rd N al L x → p < x ∧ rd p = true ∧ N p = L
  | 0, p, h => by simp [prt] at h
  | x + 1, p, h => by
    rw [prt] at h
    split at h
    · rename_i c
      rcases List.mem_append.mp h with h | h
      · have := prt_mem h
        exact ⟨by omega, this.2⟩
      · rw [List.mem_singleton.mp h]
        exact ⟨by omega, c.1, c.2.1⟩
    · have := prt_mem h
      exact ⟨by omega, this.2⟩
theorem prt_nodup {L : Nat} : ∀ {x : Nat}, (prt rd N al L x).Nodup
  | 0 => by simp [prt]
  | x + 1 => by
    rw [prt]
    split
    · rw [List.nodup_append]
      refine ⟨prt_nodup, by simp, fun a ha b hb => ?_⟩
      rw [List.mem_singleton.mp hb]
      have := (prt_mem ha).1
      omega
    · exact prt_nodup
theorem prt_none {L x : Nat} (hN : ∀ q, q < x → rd q = true → N q ≤ q) (h : x ≤ L) : prt rd N al L x = [] := by
  apply List.eq_nil_iff_forall_not_mem.mpr
  intro p hp
  obtain ⟨h1, h2, h3⟩ := prt_mem hp
  have := hN p h1 h2
  omega
theorem prt_head {L : Nat} (hr : rd L = true) (hL : N L = L) : ∀ {x : Nat}, L < x → (∀ q, q < x → rd q = true → N q ≤ q) → ∃ t, prt rd N al L x = L :: t
  | 0, h, _ => absurd h (by omega)
  | x + 1, h, hN => by
    rw [prt]
    rcases Nat.lt_or_ge L x with c | c
    · obtain ⟨t, ht⟩ := prt_head hr hL c (fun q hq => hN q (by omega))
      rw [ht]
      split
      · exact ⟨t ++ [x], rfl⟩
      · exact ⟨t, rfl⟩
    · have : x = L := by omega
      subst this
      rw [prt_none (fun q hq => hN q (by omega)) (Nat.le_refl _), if_pos ⟨hr, hL, rfl⟩]
      exact ⟨[], rfl⟩
end PR
theorem lastI_mem : ∀ (m : List Nat) (b : Nat), lastI b m ∈ b :: m
  | [], b => List.mem_singleton_self _
  | c :: m, b => by rw [lastI]; exact List.mem_cons_of_mem _ (lastI_mem m c)
section PS
variable {se va : Nat → Int64} {ou nm ns : Nat → Int32} {ov : Nat → Nat} {nx : Nat → Nat → Option Nat} {O I S : Nat} {rd : Nat → Bool} {N : Nat → Nat}
/-- the names of the groups: each the least of its own -/
def HN (S : Nat) (rd : Nat → Bool) (nm : Nat → Int32) (N : Nat → Nat) : Prop := ∀ q, q < S → rd q = true → nm q = nI (N q) ∧ N q ≤ q ∧ rd (N q) = true ∧ N (N q) = N q
theorem p_place (hO : O ≤ 6) (hou : ∀ i, i < O → ou i = nI (ov i) ∧ ov i < 60) (hI : I ≤ 4) (hS : S ≤ 256) (hnx : ∀ s, s < S → ∀ c, c < 2 ^ I → nxOf ns s c (nx s c) ∧ ∀ t, nx s c = some t → t < 256) (hN : HN S rd nm N)
    {x : Nat} (hx : x < S) (hr : rd x = true) {be : Nat → Int32} (hC : ∀ L, Ch be (prt rd N (alA se va ov O nm nx (2 ^ I)) L x)) :
    ∃ b2, m_Par_place ou (nI I) (nI O) nm be se va ns (nI x) = some (nI (fiN rd N (alA se va ov O nm nx (2 ^ I)) x), b2) ∧ ∀ L, Ch b2 (prt rd N (alA se va ov O nm nx (2 ^ I)) L (x + 1)) := by
  have hpl := p_placeL (se := se) (va := va) (nm := nm) hO hou hI hS hx hnx (be := be)
  generalize alA se va ov O nm nx (2 ^ I) = al at hpl hC ⊢
  obtain ⟨n1, n2, n3, n4⟩ := hN x hx hr
  have hNq : ∀ q, q < x → rd q = true → N q ≤ q := fun q hq hq2 => (hN q (by omega) hq2).2.1
  have hother : ∀ L, N x ≠ L → prt rd N al L (x + 1) = prt rd N al L x := fun L hL => by rw [prt, if_neg (fun z => hL z.2.1)]
  rw [m_Par_place, gd_nI (by omega) (by decide), nI_clamp (by omega), n1]
  simp only [nI_eq (show N x < 2 ^ 31 by omega) (show x < 2 ^ 31 by omega)]
  by_cases c : N x = x
  · have e0 : prt rd N al x x = [] := prt_none hNq (Nat.le_refl _)
    have ef : fiN rd N al x = x := by rw [fiN, c, e0]; rfl
    rw [if_pos c, gd_nI (by omega) (by decide), ef]
    refine ⟨_, rfl, fun L => ?_⟩
    by_cases d : N x = L
    · rw [← d, c, prt, e0, if_pos ⟨hr, c, rfl⟩]
      exact ⟨by rw [upd_eq, if_pos rfl]; rfl, trivial⟩
    · rw [hother L d]
      exact Ch_of (hC L) fun p hp => by rw [upd_eq, if_neg (by have := (prt_mem hp).1; omega)]
  · obtain ⟨t, ht⟩ := prt_head (al := al) n3 n4 (show N x < x by omega) hNq
    have hlen := nodup_le (prt_nodup (rd := rd) (N := N) (al := al) (L := N x) (x := x)) (fun q hq => (prt_mem hq).1)
    have hq := hpl (prt rd N al (N x) x) fu (N x) 0 (hC _) (by rw [fu]; omega) (by omega) (fun p hp => by have := (prt_mem hp).1; omega)
    have ehd : hdI (prt rd N al (N x) x) = nI (N x) := by rw [ht]; rfl
    rw [ehd] at hq
    have hq' : L_Par_place_30 ou (nI I) (nI O) nm be se va ns (nI x) fu (nI (N x)) (nI (N x)) (0 : Int32) = _ := hq
    rw [if_neg c, hq', Option.bind_some]
    cases e : (prt rd N al (N x) x).find? (fun p => al p x) with
    | some p =>
      have ef : fiN rd N al x = p := by rw [fiN, e]; rfl
      rw [ef]
      refine ⟨be, rfl, fun L => ?_⟩
      rw [prt]
      by_cases d : N x = L
      · rw [if_neg (fun z => by rw [← d, e] at z; exact absurd z.2.2 (by simp))]; exact hC L
      · rw [if_neg (fun z => d z.2.1)]; exact hC L
    | none =>
      have ef : fiN rd N al x = x := by rw [fiN, e]; rfl
      have hla : lastI (N x) (prt rd N al (N x) x) ∈ prt rd N al (N x) x := by
        have := lastI_mem (prt rd N al (N x) x) (N x)
        rcases List.mem_cons.mp this with z | z
        · rw [z, ht]; exact List.mem_cons_self
        · exact z
      have hlx := prt_mem hla
      dsimp only [Sum.elim_inr]
      rw [ef, gd_nI (by omega) (by decide), gd_nI (by omega) (by decide), nI_clamp (by omega)]
      refine ⟨_, rfl, fun L => ?_⟩
      by_cases d : N x = L
      · subst d
        rw [prt, if_pos ⟨hr, rfl, e⟩]
        exact Ch_app (by rw [ht]; simp) prt_nodup (fun z => by have := (prt_mem z).1; omega) (hC _)
      · rw [hother L d]
        refine Ch_of (hC L) fun p hp => ?_
        have hp2 := prt_mem hp
        rw [upd_eq, if_neg (by omega), upd_eq, if_neg (fun z => d (by rw [← hp2.2.2, z]; exact hlx.2.2.symm))]
end PS
