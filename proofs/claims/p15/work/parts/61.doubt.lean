/-! the walk's doubts -/
def DBq (nx : Nat → Nat → Option Nat) (f : Nat → Nat) (D : Option (Nat × Nat)) (Q : Nat → Nat → Prop) : Prop := match D with
  | none => ∀ s c, Q s c → nx s c ≠ none
  | some d => Q d.1 d.2 ∧ nx d.1 d.2 = none ∧ ∀ s c, Q s c → nx s c = none → f d.1 < f s ∨ (f d.1 = f s ∧ (d.1 < s ∨ (d.1 = s ∧ d.2 ≤ c)))
def uN (nx : Nat → Nat → Option Nat) (C s : Nat) : Nat := (List.range' 0 C).countP (fun c => (nx s c).isNone)
section WDB
variable {nx : Nat → Nat → Option Nat} {C : Nat}
theorem DBq_congr {f h : Nat → Nat} {D : Option (Nat × Nat)} {Q P : Nat → Nat → Prop} (hf : ∀ s c, Q s c → f s = h s) (hQ : ∀ s c, Q s c ↔ P s c) (hd : DBq nx f D Q) : DBq nx h D P := by
  cases D with
  | none => exact fun s c q => hd s c ((hQ s c).mpr q)
  | some d =>
    obtain ⟨a, b, c⟩ := hd
    refine ⟨(hQ _ _).mp a, b, fun s e q w => ?_⟩
    have q' := (hQ s e).mpr q
    rw [← hf _ _ a, ← hf _ _ q']
    exact c s e q' w
theorem DB_step {A : WA} {s c : Nat} {Q : Nat → Nat → Prop} (hs : s ∈ A.1) (hQ : ∀ a b, Q a b → a ∈ A.1 ∧ A.2.1 a ≤ A.2.1 s ∧ (a = s → b < c)) (hd : DBq nx A.2.1 A.2.2.2.2.2 Q) : DBq nx (stepA nx s A c).2.1 (stepA nx s A c).2.2.2.2.2 (fun a b => Q a b ∨ (a = s ∧ b = c)) := by
  cases e : nx s c with
  | none =>
    rw [stepA, e]
    dsimp only
    cases e2 : A.2.2.2.2.2 with
    | none =>
      rw [e2] at hd
      refine ⟨Or.inr ⟨rfl, rfl⟩, e, fun a b q w => ?_⟩
      rcases q with q | ⟨q1, q2⟩
      · exact absurd w (hd a b q)
      · rw [q1, q2]; exact Or.inr ⟨rfl, Or.inr ⟨rfl, Nat.le_refl _⟩⟩
    | some d =>
      rw [e2] at hd
      obtain ⟨h1, h2, h3⟩ := hd
      obtain ⟨k1, k2, k3⟩ := hQ _ _ h1
      dsimp only
      by_cases c1 : A.2.1 s = A.2.1 d.1 ∧ s < d.1
      · rw [if_pos c1]
        refine ⟨Or.inr ⟨rfl, rfl⟩, e, fun a b q w => ?_⟩
        dsimp only
        rcases q with q | ⟨q1, q2⟩
        · have := h3 a b q w
          omega
        · rw [q1, q2]; exact Or.inr ⟨rfl, Or.inr ⟨rfl, Nat.le_refl _⟩⟩
      · rw [if_neg c1]
        refine ⟨Or.inl h1, h2, fun a b q w => ?_⟩
        rcases q with q | ⟨q1, q2⟩
        · exact h3 a b q w
        · rw [q1, q2]
          by_cases z : d.1 = s
          · have := k3 z
            exact Or.inr ⟨by rw [z], Or.inr ⟨z, by omega⟩⟩
          · omega
  | some t =>
    rw [stepA, e]
    dsimp only
    have key : ∀ f : Nat → Nat, (∀ a, a ∈ A.1 → f a = A.2.1 a) → DBq nx f A.2.2.2.2.2 (fun a b => Q a b ∨ (a = s ∧ b = c)) := by
      intro f hf
      cases e2 : A.2.2.2.2.2 with
      | none =>
        rw [e2] at hd
        intro a b q
        rcases q with q | ⟨q1, q2⟩
        · exact hd a b q
        · rw [q1, q2, e]; exact fun z => (nomatch z)
      | some d =>
        rw [e2] at hd
        obtain ⟨h1, h2, h3⟩ := hd
        refine ⟨Or.inl h1, h2, fun a b q w => ?_⟩
        rcases q with q | ⟨q1, q2⟩
        · rw [hf _ (hQ _ _ h1).1, hf _ (hQ _ _ q).1]; exact h3 a b q w
        · rw [q1, q2, e] at w; exact (nomatch w)
    by_cases c1 : t ∈ A.1
    · rw [if_pos c1]; exact key _ (fun _ _ => rfl)
    · rw [if_neg c1]
      refine key _ (fun a ha => ?_)
      show upN A.2.1 t (A.2.1 s + 1) a = A.2.1 a
      rw [upN, if_neg (fun z => c1 (by rw [← z]; exact ha))]
def Qs (C : Nat) (L : List Nat) (s c : Nat) : Nat → Nat → Prop := fun a b => (a ∈ L ∧ b < C) ∨ (a = s ∧ b < c)
theorem DB_fold {s : Nat} {L : List Nat} (hsL : s ∉ L) : ∀ (k c : Nat) (A : WA), c + k = C → QB nx C s A → (∀ x, x ∈ L → x ∈ A.1 ∧ A.2.1 x ≤ A.2.1 s) → DBq nx A.2.1 A.2.2.2.2.2 (Qs C L s c) →
    DBq nx ((List.range' c k).foldl (stepA nx s) A).2.1 ((List.range' c k).foldl (stepA nx s) A).2.2.2.2.2 (Qs C L s C) ∧ ((List.range' c k).foldl (stepA nx s) A).2.2.2.2.1 = A.2.2.2.2.1 + (List.range' c k).countP (fun c => (nx s c).isNone)
  | 0, c, A, h1, _, _, hd => by
    have : c = C := by omega
    subst this
    exact ⟨hd, rfl⟩
  | k + 1, c, A, h1, hq, hL, hd => by
    rw [List.range'_succ, List.foldl_cons, List.countP_cons]
    obtain ⟨a1, a2, _⟩ := QB_step (show c < C by omega) hq
    have hstep := DB_step (nx := nx) (c := c) hq.2.2.2 (Q := Qs C L s c) (fun a b q => by
      rcases q with ⟨q1, q2⟩ | ⟨q1, q2⟩
      · exact ⟨(hL a q1).1, (hL a q1).2, fun z => absurd (by rw [← z]; exact q1) hsL⟩
      · rw [q1]; exact ⟨hq.2.2.2, Nat.le_refl _, fun _ => q2⟩) hd
    have ih := DB_fold hsL k (c + 1) (stepA nx s A c) (by omega) a1 (fun x hx => by
      obtain ⟨b1, b2⟩ := hL x hx
      obtain ⟨c1, c2⟩ := a2 x b1
      rw [c2, (a2 s hq.2.2.2).2]
      exact ⟨c1, b2⟩) (DBq_congr (fun _ _ _ => rfl) (fun a b => by
        constructor
        · intro q
          rcases q with (q | ⟨q1, q2⟩) | ⟨q1, q2⟩
          · exact Or.inl q
          · exact Or.inr ⟨q1, by omega⟩
          · exact Or.inr ⟨q1, by omega⟩
        · intro q
          rcases q with q | ⟨q1, q2⟩
          · exact Or.inl (Or.inl q)
          · by_cases z : b = c
            · exact Or.inr ⟨q1, z⟩
            · exact Or.inl (Or.inr ⟨q1, by omega⟩)) hstep)
    refine ⟨ih.1, ?_⟩
    rw [ih.2]
    have e : (stepA nx s A c).2.2.2.2.1 = A.2.2.2.2.1 + if (nx s c).isNone = true then 1 else 0 := by
      rw [stepA]
      cases e2 : nx s c with
      | none => rfl
      | some t =>
        dsimp only
        split <;> rfl
    rw [e]
    omega
theorem QA_leave {A : WA} {i : Nat} (hil : i < A.1.length) (hq : QA nx C i A) : QA nx C (i + 1) (leaveA nx C A (A.1.getD i 0)) := by
  have eg := getD_at hil
  have hm : A.1.getD i 0 ∈ A.1 := by rw [eg]; exact List.getElem_mem _
  obtain ⟨u, hu⟩ := leave_pre (nx := nx) (C := C) (s := A.1.getD i 0) A
  obtain ⟨a1, a2, a3, a4⟩ := hq
  obtain ⟨⟨b1, b2, b3, b4⟩, b5, b6⟩ := QB_fold (nx := nx) (C := C) (s := A.1.getD i 0) (l := List.range' 0 C) (A := A) (fun d hd => by have := List.mem_range'_1.mp hd; omega) ⟨a1, a2, a3 hil, hm⟩
  have eL : (List.range' 0 C).foldl (stepA nx (A.1.getD i 0)) A = leaveA nx C A (A.1.getD i 0) := rfl
  rw [eL] at b1 b2 b3 b4 b5 b6
  have ht : (leaveA nx C A (A.1.getD i 0)).1.take (i + 1) = A.1.take i ++ [A.1.getD i 0] := by
    rw [hu, List.take_append_of_le_length (by omega), eg, List.take_succ_eq_append_getElem (by omega)]
  refine ⟨b1, b2, fun z x hx => ?_, ?_⟩
  · have hp := (List.pairwise_iff_getElem.mp b2) i (i + 1) (by omega) z (by omega)
    rw [getD_at z]
    have e2 : (leaveA nx C A (A.1.getD i 0)).1[i]'(by omega) = A.1.getD i 0 := by
      rw [← getD_at (show i < (leaveA nx C A (A.1.getD i 0)).1.length by omega), hu]
      simp [List.getD_eq_getElem?_getD, List.getElem?_append_left hil]
    rw [e2] at hp
    have := b3 x hx
    omega
  · rw [ht]
    intro x hx d hd t e
    rcases List.mem_append.mp hx with z | z
    · have hxA : x ∈ A.1 := List.mem_of_mem_take z
      obtain ⟨c1, c2⟩ := a4 x z d hd t e
      obtain ⟨d1, d2⟩ := b5 t c1
      rw [d2, (b5 x hxA).2]
      exact ⟨d1, c2⟩
    · rw [List.mem_singleton.mp z] at e ⊢
      exact b6 d (List.mem_range'_1.mpr ⟨Nat.zero_le _, by omega⟩) t e
theorem DB_walk {S : Nat} (hS : S ≤ 256) (hn : ∀ s, s < S → ∀ c, c < C → ∀ t, nx s c = some t → t < S) : ∀ (k i : Nat) (A : WA), i + k = 256 → IA S A → QA nx C i A → DBq nx A.2.1 A.2.2.2.2.2 (fun a b => a ∈ A.1.take i ∧ b < C) → A.2.2.2.2.1 = ((A.1.take i).map (uN nx C)).sum →
    DBq nx (walkA nx C k i A).2.1 (walkA nx C k i A).2.2.2.2.2 (fun a b => a ∈ (walkA nx C k i A).1 ∧ b < C) ∧ (walkA nx C k i A).2.2.2.2.1 = ((walkA nx C k i A).1.map (uN nx C)).sum
  | 0, i, A, h1, hI, _, hd, hc => by
    have hlen := nodup_le hI.1 (fun q hq => (hI.2.1 q hq).1)
    rw [List.take_of_length_le (by omega)] at hd hc
    exact ⟨hd, hc⟩
  | k + 1, i, A, h1, hI, hq, hd, hc => by
    have hlen := nodup_le hI.1 (fun q hq => (hI.2.1 q hq).1)
    rw [walkA]
    by_cases c : A.1.length ≤ i
    · rw [if_pos c]
      rw [List.take_of_length_le (by omega)] at hd hc
      exact ⟨hd, hc⟩
    · rw [if_neg c]
      have hil : i < A.1.length := by omega
      have eg := getD_at hil
      have hm : A.1.getD i 0 ∈ A.1 := by rw [eg]; exact List.getElem_mem _
      have hmS := (hI.2.1 _ hm).1
      have et : A.1.take (i + 1) = A.1.take i ++ [A.1.getD i 0] := by rw [eg, List.take_succ_eq_append_getElem (by omega)]
      obtain ⟨u, hu⟩ := leave_pre (nx := nx) (C := C) (s := A.1.getD i 0) A
      have hI2 : IA S (leaveA nx C A (A.1.getD i 0)) := IA_fold hI hm (fun d hd => hn _ hmS d (by have := List.mem_range'_1.mp hd; omega))
      have ht : (leaveA nx C A (A.1.getD i 0)).1.take (i + 1) = A.1.take i ++ [A.1.getD i 0] := by
        rw [hu, List.take_append_of_le_length (by omega), et]
      -- the walk's own invariant, once more
      have hq2 : QA nx C (i + 1) (leaveA nx C A (A.1.getD i 0)) := QA_leave hil hq
      have hnd : A.1.getD i 0 ∉ A.1.take i := by
        intro z
        have h2 : (A.1.take (i + 1)).Nodup := List.Nodup.sublist (List.take_sublist _ _) hI.1
        rw [et, List.nodup_append] at h2
        exact h2.2.2 _ z _ (List.mem_singleton_self _) rfl
      have hle : ∀ x, x ∈ A.1.take i → x ∈ A.1 ∧ A.2.1 x ≤ A.2.1 (A.1.getD i 0) := by
        intro x hx
        refine ⟨List.mem_of_mem_take hx, ?_⟩
        have h2 : (A.1.take (i + 1)).Pairwise (fun a b => A.2.1 a ≤ A.2.1 b) := List.Pairwise.sublist (List.take_sublist _ _) hq.2.1
        rw [et, List.pairwise_append] at h2
        exact h2.2.2 x hx _ (List.mem_singleton_self _)
      obtain ⟨f1, f2⟩ := DB_fold (nx := nx) (C := C) hnd C 0 A (by omega) ⟨hq.1, hq.2.1, hq.2.2.1 hil, hm⟩ hle (DBq_congr (fun _ _ _ => rfl) (fun a b => by
        constructor
        · intro q; exact Or.inl q
        · intro q
          rcases q with q | ⟨_, q⟩
          · exact q
          · omega) hd)
      have eL : (List.range' 0 C).foldl (stepA nx (A.1.getD i 0)) A = leaveA nx C A (A.1.getD i 0) := rfl
      rw [eL] at f1 f2
      refine DB_walk hS hn k (i + 1) _ (by omega) hI2 hq2 ?_ ?_
      · rw [ht]
        refine DBq_congr (fun _ _ _ => rfl) (fun a b => ?_) f1
        rw [List.mem_append, List.mem_singleton]
        constructor
        · intro q
          rcases q with ⟨q1, q2⟩ | ⟨q1, q2⟩
          · exact ⟨Or.inl q1, q2⟩
          · exact ⟨Or.inr q1, q2⟩
        · intro ⟨q1, q2⟩
          rcases q1 with q1 | q1
          · exact Or.inl ⟨q1, q2⟩
          · exact Or.inr ⟨q1, q2⟩
      · rw [ht, f2, hc, List.map_append, List.sum_append]
        simp [uN]
end WDB
