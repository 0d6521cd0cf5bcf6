/-! the walk's distances are the least -/
def Pth (nx : Nat → Nat → Option Nat) (C : Nat) : Nat → Nat → Prop
  | 0, s => s = 0
  | n + 1, s => ∃ q, Pth nx C n q ∧ ∃ c, c < C ∧ nx q c = some s
section WDS
variable {nx : Nat → Nat → Option Nat} {C : Nat}
def QB (nx : Nat → Nat → Option Nat) (C s : Nat) (A : WA) : Prop :=
  (∀ x, x ∈ A.1 → Pth nx C (A.2.1 x) x) ∧ A.1.Pairwise (fun a b => A.2.1 a ≤ A.2.1 b) ∧ (∀ x, x ∈ A.1 → A.2.1 x ≤ A.2.1 s + 1) ∧ s ∈ A.1
theorem QB_step {s c : Nat} {A : WA} (hc : c < C) (h : QB nx C s A) : QB nx C s (stepA nx s A c) ∧ (∀ x, x ∈ A.1 → x ∈ (stepA nx s A c).1 ∧ (stepA nx s A c).2.1 x = A.2.1 x) ∧ ∀ t, nx s c = some t → t ∈ (stepA nx s A c).1 ∧ (stepA nx s A c).2.1 t ≤ (stepA nx s A c).2.1 s + 1 := by
  obtain ⟨h1, h2, h3, h4⟩ := h
  cases e : nx s c with
  | none =>
    rw [stepA, e]
    exact ⟨⟨h1, h2, h3, h4⟩, fun x hx => ⟨hx, rfl⟩, fun t ht => by cases ht⟩
  | some t =>
    rw [stepA, e]
    dsimp only
    by_cases c1 : t ∈ A.1
    · rw [if_pos c1]
      exact ⟨⟨h1, h2, h3, h4⟩, fun x hx => ⟨hx, rfl⟩, fun t' ht => by cases ht; exact ⟨c1, h3 t c1⟩⟩
    · rw [if_neg c1]
      have hold : ∀ x, x ∈ A.1 → upN A.2.1 t (A.2.1 s + 1) x = A.2.1 x := fun x hx => by
        rw [upN, if_neg (fun z => c1 (by rw [← z]; exact hx))]
      have hnew : upN A.2.1 t (A.2.1 s + 1) t = A.2.1 s + 1 := by rw [upN, if_pos rfl]
      refine ⟨⟨fun x hx => ?_, ?_, fun x hx => ?_, List.mem_append_left _ h4⟩, fun x hx => ⟨List.mem_append_left _ hx, hold x hx⟩, fun t' ht => ?_⟩
      · dsimp only at hx ⊢
        rcases List.mem_append.mp hx with z | z
        · rw [hold x z]; exact h1 x z
        · rw [List.mem_singleton.mp z, hnew]
          exact ⟨s, h1 s h4, c, hc, e⟩
      · dsimp only
        rw [List.pairwise_append]
        refine ⟨List.Pairwise.imp_of_mem (fun {a b} ha hb hab => by rw [hold a ha, hold b hb]; exact hab) h2, List.pairwise_singleton _ _, fun a ha b hb => ?_⟩
        rw [List.mem_singleton.mp hb, hnew, hold a ha]
        exact h3 a ha
      · dsimp only at hx ⊢
        rw [hold s h4]
        rcases List.mem_append.mp hx with z | z
        · rw [hold x z]; exact h3 x z
        · rw [List.mem_singleton.mp z, hnew]; exact Nat.le_refl _
      · cases ht
        dsimp only
        rw [hnew, hold s h4]
        exact ⟨List.mem_append_right _ (List.mem_singleton_self _), Nat.le_refl _⟩
theorem QB_fold {s : Nat} : ∀ {l : List Nat} {A : WA}, (∀ c, c ∈ l → c < C) → QB nx C s A → QB nx C s (l.foldl (stepA nx s) A) ∧ (∀ x, x ∈ A.1 → x ∈ (l.foldl (stepA nx s) A).1 ∧ (l.foldl (stepA nx s) A).2.1 x = A.2.1 x) ∧ ∀ c, c ∈ l → ∀ t, nx s c = some t → t ∈ (l.foldl (stepA nx s) A).1 ∧ (l.foldl (stepA nx s) A).2.1 t ≤ (l.foldl (stepA nx s) A).2.1 s + 1
  | [], A, _, h => ⟨h, fun x hx => ⟨hx, rfl⟩, fun c hc => absurd hc (by simp)⟩
  | d :: l, A, hl, h => by
    obtain ⟨a1, a2, a3⟩ := QB_step (hl d List.mem_cons_self) h
    obtain ⟨b1, b2, b3⟩ := QB_fold (l := l) (fun c hc => hl c (List.mem_cons_of_mem _ hc)) a1
    rw [List.foldl_cons]
    refine ⟨b1, fun x hx => ?_, fun c hc t ht => ?_⟩
    · obtain ⟨c1, c2⟩ := a2 x hx
      obtain ⟨d1, d2⟩ := b2 x c1
      exact ⟨d1, d2.trans c2⟩
    · rcases List.mem_cons.mp hc with z | z
      · rw [z] at ht
        obtain ⟨c1, c2⟩ := a3 t ht
        obtain ⟨d1, d2⟩ := b2 t c1
        rw [d2, (b2 s a1.2.2.2).2]
        exact ⟨d1, c2⟩
      · exact b3 c z t ht
def QA (nx : Nat → Nat → Option Nat) (C i : Nat) (A : WA) : Prop :=
  (∀ x, x ∈ A.1 → Pth nx C (A.2.1 x) x) ∧ A.1.Pairwise (fun a b => A.2.1 a ≤ A.2.1 b) ∧ (i < A.1.length → ∀ x, x ∈ A.1 → A.2.1 x ≤ A.2.1 (A.1.getD i 0) + 1) ∧ (∀ x, x ∈ A.1.take i → ∀ c, c < C → ∀ t, nx x c = some t → t ∈ A.1 ∧ A.2.1 t ≤ A.2.1 x + 1)
theorem getD_at {l : List Nat} {i : Nat} (h : i < l.length) : l.getD i 0 = l[i]'h := by rw [List.getD_eq_getElem?_getD, List.getElem?_eq_getElem h]; rfl
theorem walk_QA {S : Nat} (hS : S ≤ 256) (hn : ∀ s, s < S → ∀ c, c < C → ∀ t, nx s c = some t → t < S) : ∀ (k i : Nat) (A : WA), i + k = 256 → IA S A → QA nx C i A → QA nx C 256 (walkA nx C k i A) ∧ (walkA nx C k i A).1.length ≤ 256
  | 0, i, A, h1, hI, hq => by
    have hlen := nodup_le hI.1 (fun q hq => (hI.2.1 q hq).1)
    rw [walkA]
    have : i = 256 := by omega
    rw [← this]
    exact ⟨hq, by omega⟩
  | k + 1, i, A, h1, hI, hq => by
    have hlen := nodup_le hI.1 (fun q hq => (hI.2.1 q hq).1)
    rw [walkA]
    by_cases c : A.1.length ≤ i
    · rw [if_pos c]
      obtain ⟨a1, a2, a3, a4⟩ := hq
      rw [List.take_of_length_le c] at a4
      refine ⟨⟨a1, a2, fun z => absurd z (by omega), ?_⟩, by omega⟩
      rw [List.take_of_length_le (by omega)]
      exact a4
    · rw [if_neg c]
      have hil : i < A.1.length := by omega
      have eg := getD_at hil
      have hm : A.1.getD i 0 ∈ A.1 := by rw [eg]; exact List.getElem_mem _
      have hmS := (hI.2.1 _ hm).1
      obtain ⟨u, hu⟩ := leave_pre (nx := nx) (C := C) (s := A.1.getD i 0) A
      have hI2 : IA S (leaveA nx C A (A.1.getD i 0)) := IA_fold hI hm (fun d hd => hn _ hmS d (by have := List.mem_range'_1.mp hd; omega))
      refine walk_QA hS hn k (i + 1) _ (by omega) hI2 ?_
      obtain ⟨a1, a2, a3, a4⟩ := hq
      obtain ⟨⟨b1, b2, b3, b4⟩, b5, b6⟩ := QB_fold (nx := nx) (C := C) (s := A.1.getD i 0) (l := List.range' 0 C) (A := A) (fun d hd => by have := List.mem_range'_1.mp hd; omega) ⟨a1, a2, a3 hil, hm⟩
      have eL : (List.range' 0 C).foldl (stepA nx (A.1.getD i 0)) A = leaveA nx C A (A.1.getD i 0) := rfl
      rw [eL] at b1 b2 b3 b4 b5 b6
      have ht : (leaveA nx C A (A.1.getD i 0)).1.take (i + 1) = A.1.take i ++ [A.1.getD i 0] := by
        rw [hu, List.take_append_of_le_length (by omega), eg, List.take_succ_eq_append_getElem (by omega)]
      refine ⟨b1, b2, fun z x hx => ?_, ?_⟩
      · have hp := (List.pairwise_iff_getElem.mp b2) i (i + 1) (by omega) z (by omega)
        rw [getD_at z]
        have e2 : (leaveA nx C A (A.1.getD i 0)).1[i]'(by omega) = A.1.getD i 0 := by
          rw [← getD_at (show i < (leaveA nx C A (A.1.getD i 0)).1.length by omega), hu]
          simp [List.getD_eq_getElem?_getD, List.getElem?_append_left hil]
        rw [e2] at hp
        have := b3 x hx
        omega
      · rw [ht]
        intro x hx d hd t e
        rcases List.mem_append.mp hx with z | z
        · have hxA : x ∈ A.1 := List.mem_of_mem_take z
          obtain ⟨c1, c2⟩ := a4 x z d hd t e
          obtain ⟨d1, d2⟩ := b5 t c1
          rw [d2, (b5 x hxA).2]
          exact ⟨d1, c2⟩
        · rw [List.mem_singleton.mp z] at e ⊢
          exact b6 d (List.mem_range'_1.mpr ⟨Nat.zero_le _, by omega⟩) t e
theorem QA_beg : QA nx C 0 begA := by
  refine ⟨fun x hx => ?_, ?_, fun _ x hx => ?_, fun x hx => absurd hx (by simp)⟩
  · have : x = 0 := by simpa [begA] using hx
    subst this; rfl
  · simp [begA]
  · have : x = 0 := by simpa [begA] using hx
    subst this
    simp [begA]
/-- all that is reached, and how soon -/
theorem walk_least {S : Nat} (hS : S ≤ 256) (h1 : 1 ≤ S) (hn : ∀ s, s < S → ∀ c, c < C → ∀ t, nx s c = some t → t < S) : (∀ x, x ∈ (walkA nx C 256 0 begA).1 → Pth nx C ((walkA nx C 256 0 begA).2.1 x) x) ∧ (walkA nx C 256 0 begA).1.Pairwise (fun a b => (walkA nx C 256 0 begA).2.1 a ≤ (walkA nx C 256 0 begA).2.1 b) ∧
    ∀ m x, Pth nx C m x → x ∈ (walkA nx C 256 0 begA).1 ∧ (walkA nx C 256 0 begA).2.1 x ≤ m := by
  obtain ⟨⟨a1, a2, _, a4⟩, hl⟩ := walk_QA (nx := nx) (C := C) hS hn 256 0 begA (by omega) (IA_beg h1) QA_beg
  rw [List.take_of_length_le hl] at a4
  refine ⟨a1, a2, ?_⟩
  have h0 : (walkA nx C 256 0 begA).2.1 0 = 0 := by
    have key : ∀ (k i : Nat) (A : WA), 0 ∈ A.1 → A.2.1 0 = 0 → (walkA nx C k i A).2.1 0 = 0 := by
      have kf : ∀ (l : List Nat) (s : Nat) (A : WA), 0 ∈ A.1 → A.2.1 0 = 0 → 0 ∈ (l.foldl (stepA nx s) A).1 ∧ (l.foldl (stepA nx s) A).2.1 0 = 0 := by
        intro l s
        induction l with
        | nil => intro A h1 h2; exact ⟨h1, h2⟩
        | cons d l ih =>
          intro A h1 h2
          rw [List.foldl_cons]
          apply ih
          · rw [stepA]
            split
            · exact h1
            · split
              · exact h1
              · exact List.mem_append_left _ h1
          · rw [stepA]
            split
            · exact h2
            · split
              · exact h2
              · rename_i t _ ht
                dsimp only
                rw [upN, if_neg (fun z => ht (by rw [← z]; exact h1))]
                exact h2
      intro k
      induction k with
      | zero => intro i A h1 h2; exact h2
      | succ k ih =>
        intro i A h1 h2
        rw [walkA]
        split
        · exact h2
        · obtain ⟨x1, x2⟩ := kf (List.range' 0 C) (A.1.getD i 0) A h1 h2
          exact ih (i + 1) _ x1 x2
    exact key 256 0 begA (by simp [begA]) rfl
  intro m
  induction m with
  | zero =>
    intro x hx
    have : x = 0 := hx
    subst this
    exact ⟨walk_0, by omega⟩
  | succ m ih =>
    intro x ⟨q, hq, c, hc, e⟩
    obtain ⟨b1, b2⟩ := ih q hq
    obtain ⟨c1, c2⟩ := a4 q b1 c hc x e
    exact ⟨c1, by omega⟩
end WDS
