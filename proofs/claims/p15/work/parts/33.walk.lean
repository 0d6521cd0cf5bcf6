/-! THE WALK, as lists: the reached states in their order; distances, parents, steps; how many doubts; the first doubt -/
abbrev WA : Type := List Nat × (Nat → Nat) × (Nat → Nat) × (Nat → Nat) × Nat × Option (Nat × Nat)
def upN (f : Nat → Nat) (k x : Nat) : Nat → Nat := fun j => if j = k then x else f j
/-- a state is left by a choice -/
def stepA (nx : Nat → Nat → Option Nat) (s : Nat) (A : WA) (c : Nat) : WA :=
  match nx s c with
  | none => (A.1, A.2.1, A.2.2.1, A.2.2.2.1, A.2.2.2.2.1 + 1, match A.2.2.2.2.2 with
    | none => some (s, c)
    | some d => if A.2.1 s = A.2.1 d.1 ∧ s < d.1 then some (s, c) else some d)
  | some t => if t ∈ A.1 then A else (A.1 ++ [t], upN A.2.1 t (A.2.1 s + 1), upN A.2.2.1 t s, upN A.2.2.2.1 t c, A.2.2.2.2.1, A.2.2.2.2.2)
/-- the class's cells hold the walk -/
def RW (S : Nat) (di od pa sp : Nat → Int32) (re du dS dC : Int32) (A : WA) : Prop :=
  (∀ s, s < S → di s = if s ∈ A.1 then nI (A.2.1 s) else -1) ∧ (∀ i, i < A.1.length → od i = nI (A.1.getD i 0)) ∧
  (∀ s, s ∈ A.1 → A.2.1 s ≠ 0 → pa s = nI (A.2.2.1 s) ∧ sp s = nI (A.2.2.2.1 s)) ∧ re = nI A.1.length ∧ du = nI A.2.2.2.2.1 ∧
  (match A.2.2.2.2.2 with
    | none => dS = -1 ∧ dC = -1
    | some d => dS = nI d.1 ∧ dC = nI d.2)
/-- what holds of it -/
def IA (S : Nat) (A : WA) : Prop :=
  A.1.Nodup ∧ (∀ s, s ∈ A.1 → s < S ∧ A.2.1 s < A.1.length) ∧ (∀ s, s ∈ A.1 → A.2.1 s ≠ 0 → A.2.2.1 s ∈ A.1 ∧ A.2.1 (A.2.2.1 s) + 1 = A.2.1 s) ∧ (∀ d, A.2.2.2.2.2 = some d → d.1 ∈ A.1)
theorem nodup_le {S : Nat} {l : List Nat} (h : l.Nodup) (hl : ∀ s, s ∈ l → s < S) : l.length ≤ S := by
  have h1 : l ⊆ List.range S := fun s hs => List.mem_range.mpr (hl s hs)
  have h2 := List.Nodup.length_le_of_subset h h1
  rwa [List.length_range] at h2
theorem IA_step {S s c : Nat} {nx : Nat → Nat → Option Nat} {A : WA} (h : IA S A) (hs : s ∈ A.1) (hnx : ∀ t, nx s c = some t → t < S) : IA S (stepA nx s A c) ∧ s ∈ (stepA nx s A c).1 := by
  obtain ⟨h1, h2, h3, h4⟩ := h
  cases e : nx s c with
  | none =>
    rw [stepA, e]
    refine ⟨⟨h1, h2, h3, fun d hd => ?_⟩, hs⟩
    dsimp only at hd ⊢
    cases e2 : A.2.2.2.2.2 with
    | none => rw [e2] at hd; cases hd; exact hs
    | some d2 =>
      rw [e2] at hd
      dsimp only at hd
      split at hd
      · cases hd; exact hs
      · cases hd; exact h4 _ e2
  | some t =>
    rw [stepA, e]
    dsimp only
    by_cases c1 : t ∈ A.1
    · rw [if_pos c1]; exact ⟨⟨h1, h2, h3, h4⟩, hs⟩
    · rw [if_neg c1]
      have hst : s ≠ t := fun q => c1 (by rw [← q]; exact hs)
      refine ⟨⟨?_, ?_, ?_, ?_⟩, by dsimp only; exact List.mem_append_left _ hs⟩
      · dsimp only
        rw [List.nodup_append]
        exact ⟨h1, by simp, fun a ha b hb => by rw [List.mem_singleton.mp hb]; exact fun q => c1 (by rw [← q]; exact ha)⟩
      · intro q hq
        dsimp only at hq ⊢
        rw [List.length_append, List.length_singleton]
        rcases List.mem_append.mp hq with hq | hq
        · have := h2 q hq
          rw [upN, if_neg (fun z => c1 (by rw [← z]; exact hq))]
          omega
        · rw [List.mem_singleton.mp hq, upN, if_pos rfl]
          have := h2 s hs
          exact ⟨hnx t e, by omega⟩
      · intro q hq hq0
        dsimp only at hq hq0 ⊢
        rcases List.mem_append.mp hq with hq | hq
        · have hqt : q ≠ t := fun z => c1 (by rw [← z]; exact hq)
          rw [upN, if_neg hqt] at hq0
          rw [upN, upN, upN, if_neg hqt, if_neg hqt]
          obtain ⟨k1, k2⟩ := h3 q hq hq0
          rw [if_neg (fun z => c1 (by rw [← z]; exact k1))]
          exact ⟨List.mem_append_left _ k1, k2⟩
        · rw [List.mem_singleton.mp hq]
          rw [upN, upN, upN, if_pos rfl, if_pos rfl, if_neg hst]
          exact ⟨List.mem_append_left _ hs, rfl⟩
      · intro d hd
        dsimp only at hd ⊢
        exact List.mem_append_left _ (h4 d hd)
