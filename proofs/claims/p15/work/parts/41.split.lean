/-! splitOnce, whole -/
section PR
variable {rd : Nat → Bool} {N : Nat → Nat} {al : Nat → Nat → Bool}
theorem prt_fi {L : Nat} : ∀ {x p : Nat}, p ∈ prt rd N al L x → fiN rd N al p = p
  | 0, p, h => by simp [prt] at h
  | x + 1, p, h => by
    rw [prt] at h
    split at h
    · rename_i c
      rcases List.mem_append.mp h with h | h
      · exact prt_fi h
      · rw [List.mem_singleton.mp h, fiN, c.2.1, c.2.2]; rfl
    · exact prt_fi h
theorem fiN_of {x : Nat} (hr : rd x = true) : fiN rd N al x ≤ x ∧ rd (fiN rd N al x) = true ∧ N (fiN rd N al x) = N x ∧ fiN rd N al (fiN rd N al x) = fiN rd N al x := by
  cases e : (prt rd N al (N x) x).find? (fun p => al p x) with
  | some p =>
    have ef : fiN rd N al x = p := by rw [fiN, e]; rfl
    have hm := List.mem_of_find?_eq_some e
    have h := prt_mem hm
    rw [ef]
    exact ⟨by omega, h.2.1, h.2.2, prt_fi hm⟩
  | none =>
    have ef : fiN rd N al x = x := by rw [fiN, e]; rfl
    rw [ef]
    exact ⟨Nat.le_refl _, hr, rfl, ef⟩
def nPt (rd : Nat → Bool) (f : Nat → Nat) (x k : Nat) : Nat := (List.range' x k).countP (fun q => rd q && decide (f q = q))
theorem nPt_le {f : Nat → Nat} {x k : Nat} : nPt rd f x k ≤ k := by
  have := List.countP_le_length (p := fun q => rd q && decide (f q = q)) (l := List.range' x k)
  rw [List.length_range'] at this
  exact this
end PR
section PS
variable {se va : Nat → Int64} {ou nm ns di : Nat → Int32} {ov : Nat → Nat} {nx : Nat → Nat → Option Nat} {O I S : Nat} {rd : Nat → Bool} {N : Nat → Nat}
theorem p_splitL (hO : O ≤ 6) (hou : ∀ i, i < O → ou i = nI (ov i) ∧ ov i < 60) (hI : I ≤ 4) (hS : S ≤ 256) (hnx : ∀ s, s < S → ∀ c, c < 2 ^ I → nxOf ns s c (nx s c) ∧ ∀ t, nx s c = some t → t < 256) (hN : HN S rd nm N) (hdi : ∀ q, q < S → (di q = -1 ↔ rd q = false)) :
    ∀ (k n x m : Nat) (fi be : Nat → Int32), x + k = S → k < n → (∀ L, Ch be (prt rd N (alA se va ov O nm nx (2 ^ I)) L x)) → (∀ q, q < x → rd q = true → fi q = nI (fiN rd N (alA se va ov O nm nx (2 ^ I)) q)) →
      ∃ f2 b2, L_Par_splitOnce_12 ou (nI I) (nI O) nm se va ns di (nI S) n (nI m) (nI x) fi be = some (nI (m + nPt rd (fiN rd N (alA se va ov O nm nx (2 ^ I))) x k), f2, b2) ∧ ∀ q, q < S → rd q = true → f2 q = nI (fiN rd N (alA se va ov O nm nx (2 ^ I)) q) := by
  intro k
  induction k with
  | zero =>
    intro n x m fi be h1 h2 hC hf
    obtain ⟨n, rfl⟩ : ∃ z, n = z + 1 := ⟨n - 1, by omega⟩
    rw [L_Par_splitOnce_12, if_pos ((nI_leI (by omega) (by omega)).mpr (by omega))]
    exact ⟨fi, be, rfl, fun q hq => hf q (by omega)⟩
  | succ k ih =>
    intro n x m fi be h1 h2 hC hf
    obtain ⟨n, rfl⟩ : ∃ z, n = z + 1 := ⟨n - 1, by omega⟩
    have hx : x < S := by omega
    rw [L_Par_splitOnce_12, if_neg (by rw [nI_leI (by omega) (by omega)]; omega), gd_nI (by omega) (by decide), nI_clamp (by omega), nI_1, nI_1, nPt, List.range'_succ, List.countP_cons]
    cases hr : rd x with
    | false =>
      rw [if_pos ((hdi x hx).mpr hr)]
      obtain ⟨f2, b2, r1, r2⟩ := ih n (x + 1) m fi be (by omega) (by omega) (fun L => by rw [prt, if_neg (fun z => by rw [hr] at z; exact absurd z.1 (by decide))]; exact hC L) (fun q hq hq2 => by
        rcases Nat.lt_or_ge q x with c | c
        · exact hf q c hq2
        · rw [show q = x by omega, hr] at hq2; cases hq2)
      refine ⟨f2, b2, ?_, r2⟩
      rw [r1]
      rfl
    | true =>
      obtain ⟨b3, p1, p2⟩ := p_place hO hou hI hS hnx hN hx hr hC
      have hfi := (fiN_of (rd := rd) (N := N) (al := alA se va ov O nm nx (2 ^ I)) hr).1
      rw [if_neg (fun z => by have := (hdi x hx).mp z; rw [hr] at this; cases this), p1, Option.bind_some, gd_nI (by omega) (by decide), gd_nI (by omega) (by decide)]
      dsimp only
      rw [upd_eq, if_pos rfl]
      have hf2 : ∀ q, q < x + 1 → rd q = true → upd fi x (nI (fiN rd N (alA se va ov O nm nx (2 ^ I)) x)) q = nI (fiN rd N (alA se va ov O nm nx (2 ^ I)) q) := by
        intro q hq hq2
        rw [upd_eq]
        by_cases c : q = x
        · rw [if_pos c, c]
        · rw [if_neg c]; exact hf q (by omega) hq2
      simp only [nI_eq (show fiN rd N (alA se va ov O nm nx (2 ^ I)) x < 2 ^ 31 by omega) (show x < 2 ^ 31 by omega)]
      by_cases c : fiN rd N (alA se va ov O nm nx (2 ^ I)) x = x
      · rw [if_pos c]
        obtain ⟨f2, b2, r1, r2⟩ := ih n (x + 1) (m + 1) _ b3 (by omega) (by omega) p2 hf2
        refine ⟨f2, b2, ?_, r2⟩
        rw [r1, nPt, if_pos (by simp [c]), Nat.add_assoc, Nat.add_comm 1]
      · rw [if_neg c]
        obtain ⟨f2, b2, r1, r2⟩ := ih n (x + 1) m _ b3 (by omega) (by omega) p2 hf2
        refine ⟨f2, b2, ?_, r2⟩
        rw [r1, nPt, if_neg (by simp [c])]
        rfl
end PS
