/-! the walk is closed under the next states -/
theorem step_in {nx : Nat → Nat → Option Nat} {s c t : Nat} {A : WA} (h : nx s c = some t) : t ∈ (stepA nx s A c).1 := by
  rw [stepA, h]
  dsimp only
  split
  · assumption
  · exact List.mem_append_right _ (List.mem_singleton_self _)
theorem fold_in {nx : Nat → Nat → Option Nat} {s c t : Nat} (h : nx s c = some t) : ∀ {l : List Nat} {A : WA}, c ∈ l → t ∈ (l.foldl (stepA nx s) A).1
  | [], _, hc => absurd hc (by simp)
  | d :: l, A, hc => by
    rw [List.foldl_cons]
    rcases List.mem_cons.mp hc with z | z
    · obtain ⟨u, hu⟩ := fold_pre (nx := nx) (s := s) l (stepA nx s A d)
      rw [hu, ← z]
      exact List.mem_append_left _ (step_in h)
    · exact fold_in h z
theorem leave_pre {nx : Nat → Nat → Option Nat} {C s : Nat} (A : WA) : ∃ t, (leaveA nx C A s).1 = A.1 ++ t := fold_pre _ _
theorem walk_pre {nx : Nat → Nat → Option Nat} {C : Nat} : ∀ (k i : Nat) (A : WA), ∃ t, (walkA nx C k i A).1 = A.1 ++ t
  | 0, _, A => ⟨[], by rw [walkA]; simp⟩
  | k + 1, i, A => by
    rw [walkA]
    split
    · exact ⟨[], by simp⟩
    · obtain ⟨u, hu⟩ := leave_pre (nx := nx) (C := C) (s := A.1.getD i 0) A
      obtain ⟨v, hv⟩ := walk_pre (nx := nx) (C := C) k (i + 1) (leaveA nx C A (A.1.getD i 0))
      exact ⟨u ++ v, by rw [hv, hu, List.append_assoc]⟩
theorem IA_fold {S s : Nat} {nx : Nat → Nat → Option Nat} : ∀ {l : List Nat} {A : WA}, IA S A → s ∈ A.1 → (∀ c, c ∈ l → ∀ t, nx s c = some t → t < S) → IA S (l.foldl (stepA nx s) A)
  | [], _, h, _, _ => h
  | c :: l, A, h, hs, hn => by
    obtain ⟨h1, h2⟩ := IA_step (nx := nx) (c := c) h hs (hn c List.mem_cons_self)
    rw [List.foldl_cons]
    exact IA_fold h1 h2 (fun d hd => hn d (List.mem_cons_of_mem _ hd))
theorem walk_closed {S C : Nat} {nx : Nat → Nat → Option Nat} (hS : S ≤ 256) (hn : ∀ s, s < S → ∀ c, c < C → ∀ t, nx s c = some t → t < S) : ∀ (k i : Nat) (A : WA), i + k = 256 → IA S A → (∀ s, s ∈ A.1.take i → ∀ c, c < C → ∀ t, nx s c = some t → t ∈ A.1) →
    ∀ s, s ∈ (walkA nx C k i A).1 → ∀ c, c < C → ∀ t, nx s c = some t → t ∈ (walkA nx C k i A).1
  | 0, i, A, h1, hI, hc => by
    have hlen := nodup_le hI.1 (fun q hq => (hI.2.1 q hq).1)
    rw [List.take_of_length_le (by omega)] at hc
    exact hc
  | k + 1, i, A, h1, hI, hc => by
    rw [walkA]
    by_cases c : A.1.length ≤ i
    · rw [if_pos c]
      rw [List.take_of_length_le c] at hc
      exact hc
    · rw [if_neg c]
      have eg : A.1.getD i 0 = A.1[i]'(by omega) := by rw [List.getD_eq_getElem?_getD, List.getElem?_eq_getElem (by omega)]; rfl
      have hm : A.1.getD i 0 ∈ A.1 := by rw [eg]; exact List.getElem_mem _
      have hmS := (hI.2.1 _ hm).1
      obtain ⟨u, hu⟩ := leave_pre (nx := nx) (C := C) (s := A.1.getD i 0) A
      have hI2 : IA S (leaveA nx C A (A.1.getD i 0)) := IA_fold hI hm (fun d hd => hn _ hmS d (by have := List.mem_range'_1.mp hd; omega))
      refine walk_closed hS hn k (i + 1) _ (by omega) hI2 ?_
      have ht : (leaveA nx C A (A.1.getD i 0)).1.take (i + 1) = A.1.take i ++ [A.1.getD i 0] := by
        rw [hu, List.take_append_of_le_length (by omega), eg, List.take_succ_eq_append_getElem (by omega)]
      rw [ht]
      intro s hs d hd t e
      rcases List.mem_append.mp hs with z | z
      · rw [hu]; exact List.mem_append_left _ (hc s z d hd t e)
      · rw [List.mem_singleton.mp z] at e
        exact fold_in e (List.mem_range'_1.mpr ⟨Nat.zero_le _, by omega⟩)
theorem walk_0 {nx : Nat → Nat → Option Nat} {C k i : Nat} : 0 ∈ (walkA nx C k i begA).1 := by
  obtain ⟨t, ht⟩ := walk_pre (nx := nx) (C := C) k i begA
  rw [ht]
  exact List.mem_append_left _ (List.mem_singleton_self _)
