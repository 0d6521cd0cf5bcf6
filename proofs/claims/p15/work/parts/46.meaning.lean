/-! THE NET'S MEANING: which literals become known -/
theorem xo (a : Nat) : (a ^^^ 1) / 2 = a / 2 ∧ (a ^^^ 1) % 2 = 1 - a % 2 := by
  have h1 : (a ^^^ 1) / 2 = a / 2 := by
    apply Nat.eq_of_testBit_eq
    intro i
    have h0 : Nat.testBit 1 (i + 1) = false := by rw [Nat.testBit_succ]; simp
    rw [Nat.testBit_div_two, Nat.testBit_div_two, Nat.testBit_xor, h0]
    simp
  have h2 : (a ^^^ 1) % 2 = 1 - a % 2 := by
    have := Nat.xor_mod_two_eq_one (a := a) (b := 1)
    omega
  exact ⟨h1, h2⟩
theorem xx (a : Nat) : a ^^^ 1 ^^^ 1 = a := by rw [Nat.xor_assoc, Nat.xor_self, Nat.xor_zero]
/-- what a set of literals must hold -/
def DvC (gs : List Nat) (fs : List (Nat × Nat)) (bv : Nat → Bool) (P : Nat → Prop) : Prop :=
  (∀ g, g < gs.length → gs.getD g 9 ≤ 1 → P (2 * g + if bv g = true then 0 else 1)) ∧
  (∀ g fl, g < gs.length → fl < 2 → gs.getD g 9 = 2 + fl → (∀ l, l ∈ fOf fs g → P (l ^^^ fl)) → P (2 * g + fl)) ∧
  (∀ g fl l, g < gs.length → fl < 2 → gs.getD g 9 = 2 + fl → l ∈ fOf fs g → P (l ^^^ fl ^^^ 1) → P ((2 * g + fl) ^^^ 1))
/-- the least such set -/
def Dv (gs : List Nat) (fs : List (Nat × Nat)) (bv : Nat → Bool) (l : Nat) : Prop := ∀ P, DvC gs fs bv P → P l
section MEAN
variable {gs : List Nat} {fs : List (Nat × Nat)} {bv : Nat → Bool}
theorem Dv_base (g : Nat) (h1 : g < gs.length) (h2 : gs.getD g 9 ≤ 1) : Dv gs fs bv (2 * g + if bv g = true then 0 else 1) := fun _ h => h.1 g h1 h2
theorem Dv_all (g fl : Nat) (h1 : g < gs.length) (h2 : fl < 2) (h3 : gs.getD g 9 = 2 + fl) (h4 : ∀ l, l ∈ fOf fs g → Dv gs fs bv (l ^^^ fl)) : Dv gs fs bv (2 * g + fl) := fun P h => h.2.1 g fl h1 h2 h3 (fun l hl => h4 l hl P h)
theorem Dv_one (g fl l : Nat) (h1 : g < gs.length) (h2 : fl < 2) (h3 : gs.getD g 9 = 2 + fl) (h4 : l ∈ fOf fs g) (h5 : Dv gs fs bv (l ^^^ fl ^^^ 1)) : Dv gs fs bv ((2 * g + fl) ^^^ 1) := fun P h => h.2.2 g fl l h1 h2 h3 h4 (h5 P h)
theorem Dv_rec {P : Nat → Prop} (h1 : ∀ g, g < gs.length → gs.getD g 9 ≤ 1 → P (2 * g + if bv g = true then 0 else 1))
    (h2 : ∀ g fl, g < gs.length → fl < 2 → gs.getD g 9 = 2 + fl → (∀ l, l ∈ fOf fs g → Dv gs fs bv (l ^^^ fl)) → (∀ l, l ∈ fOf fs g → P (l ^^^ fl)) → P (2 * g + fl))
    (h3 : ∀ g fl l, g < gs.length → fl < 2 → gs.getD g 9 = 2 + fl → l ∈ fOf fs g → Dv gs fs bv (l ^^^ fl ^^^ 1) → P (l ^^^ fl ^^^ 1) → P ((2 * g + fl) ^^^ 1)) {l : Nat} (h : Dv gs fs bv l) : P l := by
  refine (h (fun l => Dv gs fs bv l ∧ P l) ⟨fun g a b => ⟨Dv_base g a b, h1 g a b⟩, fun g fl a b c d => ⟨Dv_all g fl a b c (fun l hl => (d l hl).1), h2 g fl a b c (fun l hl => (d l hl).1) (fun l hl => (d l hl).2)⟩, fun g fl l a b c d e => ⟨Dv_one g fl l a b c d e.1, h3 g fl l a b c d e.1 e.2⟩⟩).2
theorem Dv_inv {m : Nat} (h : Dv gs fs bv m) : (∃ g, g < gs.length ∧ gs.getD g 9 ≤ 1 ∧ m = 2 * g + if bv g = true then 0 else 1) ∨
    (∃ g fl, g < gs.length ∧ fl < 2 ∧ gs.getD g 9 = 2 + fl ∧ (∀ l, l ∈ fOf fs g → Dv gs fs bv (l ^^^ fl)) ∧ m = 2 * g + fl) ∨
    (∃ g fl l, g < gs.length ∧ fl < 2 ∧ gs.getD g 9 = 2 + fl ∧ l ∈ fOf fs g ∧ Dv gs fs bv (l ^^^ fl ^^^ 1) ∧ m = (2 * g + fl) ^^^ 1) :=
  Dv_rec (P := fun m => (∃ g, g < gs.length ∧ gs.getD g 9 ≤ 1 ∧ m = 2 * g + if bv g = true then 0 else 1) ∨
    (∃ g fl, g < gs.length ∧ fl < 2 ∧ gs.getD g 9 = 2 + fl ∧ (∀ l, l ∈ fOf fs g → Dv gs fs bv (l ^^^ fl)) ∧ m = 2 * g + fl) ∨
    (∃ g fl l, g < gs.length ∧ fl < 2 ∧ gs.getD g 9 = 2 + fl ∧ l ∈ fOf fs g ∧ Dv gs fs bv (l ^^^ fl ^^^ 1) ∧ m = (2 * g + fl) ^^^ 1))
    (fun g a b => Or.inl ⟨g, a, b, rfl⟩) (fun g fl a b c d _ => Or.inr (Or.inl ⟨g, fl, a, b, c, d, rfl⟩)) (fun g fl l a b c d e _ => Or.inr (Or.inr ⟨g, fl, l, a, b, c, d, e, rfl⟩)) h
theorem Dv_lt {l : Nat} (h : Dv gs fs bv l) : l < 2 * gs.length := by
  rcases Dv_inv h with ⟨g, hg, _, e⟩ | ⟨g, fl, hg, hf, _, _, e⟩ | ⟨g, fl, l, hg, hf, _, _, _, e⟩
  · revert e; split <;> omega
  · omega
  · have := xo (2 * g + fl); omega
/-- never both -/
theorem Dv_cons {l : Nat} (h : Dv gs fs bv l) : ∀ {m : Nat}, Dv gs fs bv m → m = l ^^^ 1 → False := by
  refine Dv_rec (P := fun l => ∀ {m : Nat}, Dv gs fs bv m → m = l ^^^ 1 → False) ?_ ?_ ?_ h
  · intro g hg hs m hm e
    have x := xo (2 * g + if bv g = true then 0 else 1)
    rw [← e] at x
    rcases Dv_inv hm with ⟨g', hg', hs', e'⟩ | ⟨g', fl', hg', hf', hs', _, e'⟩ | ⟨g', fl', l', hg', hf', hs', _, _, e'⟩
    · have : g' = g := by
        revert x e'; split <;> split <;> omega
      subst this
      revert x e'; split <;> omega
    · have : g' = g := by
        revert x; split <;> omega
      subst this; omega
    · have y := xo (2 * g' + fl')
      have : g' = g := by
        revert x; split <;> omega
      subst this; omega
  · intro g fl hg hf hs ha ih m hm e
    have x := xo (2 * g + fl)
    rw [← e] at x
    rcases Dv_inv hm with ⟨g', hg', hs', e'⟩ | ⟨g', fl', hg', hf', hs', _, e'⟩ | ⟨g', fl', l', hg', hf', hs', hl', hd', e'⟩
    · have : g' = g := by
        revert e'; split <;> omega
      subst this; omega
    · have : g' = g := by omega
      subst this; omega
    · have y := xo (2 * g' + fl')
      rw [← e'] at y
      have : g' = g := by omega
      subst this
      have : fl' = fl := by omega
      subst this
      exact ih l' hl' hd' rfl
  · intro g fl l hg hf hs hl hd ih m hm e
    rw [xx] at e
    rcases Dv_inv hm with ⟨g', hg', hs', e'⟩ | ⟨g', fl', hg', hf', hs', ha, e'⟩ | ⟨g', fl', l', hg', hf', hs', hl', hd', e'⟩
    · have : g' = g := by
        revert e'; split <;> omega
      subst this; omega
    · have : g' = g := by omega
      subst this
      have : fl' = fl := by omega
      subst this
      exact ih (ha l hl) (xx _).symm
    · have y := xo (2 * g' + fl')
      rw [← e', e] at y
      have : g' = g := by omega
      subst this; omega
/-- one pair's literals: a gate learns -/
def stB (gs : List Nat) (fs : List (Nat × Nat)) (k : Nat → Bool) (g : Nat) : Nat → Bool :=
  if gs.getD g 9 = 2 ∨ gs.getD g 9 = 3 then fun j => if j = (2 * g + (gs.getD g 9 - 2)) ^^^ 1 then (fOf fs g).any (fun l => k (l ^^^ (gs.getD g 9 - 2) ^^^ 1)) else if j = 2 * g + (gs.getD g 9 - 2) then (fOf fs g).all (fun l => k (l ^^^ (gs.getD g 9 - 2))) else k j
  else k
def swB (gs : List Nat) (fs : List (Nat × Nat)) (k : Nat → Bool) : Nat → Bool := (List.range' 0 gs.length).foldl (stB gs fs) k
/-- what is kept: only known literals; each has its ground; inputs and latches are known -/
def SB (gs : List Nat) (fs : List (Nat × Nat)) (bv : Nat → Bool) (k : Nat → Bool) : Prop :=
  (∀ l, k l = true → Dv gs fs bv l) ∧
  (∀ g fl, g < gs.length → fl < 2 → gs.getD g 9 = 2 + fl → (k (2 * g + fl) = true → ∀ l, l ∈ fOf fs g → k (l ^^^ fl) = true) ∧ (k ((2 * g + fl) ^^^ 1) = true → ∃ l, l ∈ fOf fs g ∧ k (l ^^^ fl ^^^ 1) = true)) ∧
  (∀ g, g < gs.length → gs.getD g 9 ≤ 1 → k (2 * g + if bv g = true then 0 else 1) = true)
theorem stB_op {k : Nat → Bool} {g fl : Nat} (hf : fl < 2) (hs : gs.getD g 9 = 2 + fl) (j : Nat) : stB gs fs k g j = if j = (2 * g + fl) ^^^ 1 then (fOf fs g).any (fun l => k (l ^^^ fl ^^^ 1)) else if j = 2 * g + fl then (fOf fs g).all (fun l => k (l ^^^ fl)) else k j := by
  have e : gs.getD g 9 - 2 = fl := by omega
  rw [stB, if_pos (by omega), e]
theorem SB_st {k : Nat → Bool} {g : Nat} (hg : g < gs.length) (h : SB gs fs bv k) : SB gs fs bv (stB gs fs k g) ∧ ∀ j, k j = true → stB gs fs k g j = true := by
  by_cases c : gs.getD g 9 = 2 ∨ gs.getD g 9 = 3
  · obtain ⟨fl, hf, hs⟩ : ∃ fl, fl < 2 ∧ gs.getD g 9 = 2 + fl := ⟨gs.getD g 9 - 2, by omega, by omega⟩
    obtain ⟨h1, h2, h3⟩ := h
    have hm : ∀ j, k j = true → stB gs fs k g j = true := by
      intro j hj
      rw [stB_op hf hs]
      split
      · rename_i e
        obtain ⟨l, a, b⟩ := (h2 g fl hg hf hs).2 (by rw [← e]; exact hj)
        exact List.any_eq_true.mpr ⟨l, a, b⟩
      · split
        · rename_i e
          exact List.all_eq_true.mpr ((h2 g fl hg hf hs).1 (by rw [← e]; exact hj))
        · exact hj
    refine ⟨⟨?_, ?_, fun g' hg' hs' => hm _ (h3 g' hg' hs')⟩, hm⟩
    · intro j hj
      rw [stB_op hf hs] at hj
      split at hj
      · rename_i e
        obtain ⟨l, a, b⟩ := List.any_eq_true.mp hj
        rw [e]
        exact Dv_one g fl l hg hf hs a (h1 _ b)
      · split at hj
        · rename_i e
          rw [e]
          exact Dv_all g fl hg hf hs (fun l hl => h1 _ (List.all_eq_true.mp hj l hl))
        · exact h1 _ hj
    · intro g' fl' hg' hf' hs'
      have y := xo (2 * g' + fl')
      have x := xo (2 * g + fl)
      constructor
      · intro hj l hl
        rw [stB_op hf hs] at hj
        apply hm
        split at hj
        · rename_i e
          rw [← e] at x
          have : g' = g := by omega
          subst this; omega
        · split at hj
          · rename_i e
            have : g' = g := by omega
            subst this
            have : fl' = fl := by omega
            subst this
            exact List.all_eq_true.mp hj l hl
          · exact (h2 g' fl' hg' hf' hs').1 hj l hl
      · intro hj
        rw [stB_op hf hs] at hj
        split at hj
        · rename_i e
          rw [← e] at x
          have : g' = g := by omega
          subst this
          have : fl' = fl := by omega
          subst this
          obtain ⟨l, a, b⟩ := List.any_eq_true.mp hj
          exact ⟨l, a, hm _ b⟩
        · split at hj
          · rename_i e
            rw [e] at y
            have : g' = g := by omega
            subst this; omega
          · obtain ⟨l, a, b⟩ := (h2 g' fl' hg' hf' hs').2 hj
            exact ⟨l, a, hm _ b⟩
  · have e : stB gs fs k g = k := by rw [stB, if_neg c]
    rw [e]
    exact ⟨h, fun _ h => h⟩
theorem SB_fold : ∀ {l : List Nat} {k : Nat → Bool}, (∀ g, g ∈ l → g < gs.length) → SB gs fs bv k → SB gs fs bv (l.foldl (stB gs fs) k) ∧ (∀ j, k j = true → l.foldl (stB gs fs) k j = true) ∧ (l.foldl (stB gs fs) k = k → ∀ g, g ∈ l → stB gs fs k g = k)
  | [], k, _, h => ⟨h, fun _ h => h, fun _ g hg => absurd hg (by simp)⟩
  | g :: l, k, hl, h => by
    obtain ⟨a1, a2⟩ := SB_st (hl g List.mem_cons_self) h
    obtain ⟨b1, b2, b3⟩ := SB_fold (l := l) (fun q hq => hl q (List.mem_cons_of_mem _ hq)) a1
    rw [List.foldl_cons]
    refine ⟨b1, fun j hj => b2 j (a2 j hj), fun e q hq => ?_⟩
    have e1 : stB gs fs k g = k := by
      funext j
      cases hk : k j with
      | true => exact a2 j hk
      | false =>
        cases hs : stB gs fs k g j with
        | false => rfl
        | true => have := b2 j hs; rw [e, hk] at this; exact absurd this (by simp)
    rcases List.mem_cons.mp hq with z | z
    · rw [z]; exact e1
    · have e2 := b3 (by rw [e, e1]) q z
      rw [e1] at e2
      exact e2
theorem SB_sw {k : Nat → Bool} (h : SB gs fs bv k) : SB gs fs bv (swB gs fs k) ∧ (∀ j, k j = true → swB gs fs k j = true) ∧ (swB gs fs k = k → ∀ g, g < gs.length → stB gs fs k g = k) := by
  obtain ⟨a, b, c⟩ := SB_fold (gs := gs) (fs := fs) (bv := bv) (l := List.range' 0 gs.length) (k := k) (fun g hg => by have := List.mem_range'_1.mp hg; omega) h
  exact ⟨a, b, fun e g hg => c e g (List.mem_range'_1.mpr ⟨by omega, by omega⟩)⟩
/-- a pair at which nothing more changes knows all -/
theorem SB_fix {k : Nat → Bool} (h : SB gs fs bv k) (e : ∀ g, g < gs.length → stB gs fs k g = k) {l : Nat} (hd : Dv gs fs bv l) : k l = true := by
  refine Dv_rec (P := fun l => k l = true) ?_ ?_ ?_ hd
  · intro g hg hs; exact h.2.2 g hg hs
  · intro g fl hg hf hs _ ih
    rw [← e g hg, stB_op hf hs]
    have x := xo (2 * g + fl)
    rw [if_neg (by omega), if_pos rfl]
    exact List.all_eq_true.mpr ih
  · intro g fl l hg hf hs hl _ ih
    rw [← e g hg, stB_op hf hs, if_pos rfl]
    exact List.any_eq_true.mpr ⟨l, hl, ih⟩
def cnB (G : Nat) (k : Nat → Bool) : Nat := (List.range' 0 G).countP (fun g => k (2 * g) || k (2 * g + 1))
theorem cnB_le {G : Nat} {k : Nat → Bool} : cnB G k ≤ G := by
  have := List.countP_le_length (p := fun g => k (2 * g) || k (2 * g + 1)) (l := List.range' 0 G)
  rw [List.length_range'] at this
  exact this
theorem cnt_lt {p q : Nat → Bool} : ∀ {l : List Nat}, (∀ x, x ∈ l → p x = true → q x = true) → (∃ x, x ∈ l ∧ p x = false ∧ q x = true) → l.countP p < l.countP q := by
  intro l h ⟨x, hx, h1, h2⟩
  rcases Nat.lt_or_ge (l.countP p) (l.countP q) with c | c
  · exact c
  · have := cnt_eq h (Nat.le_antisymm (cnt_le h) c) x hx h2
    rw [h1] at this
    exact absurd this (by simp)
theorem cnB_up {k k2 : Nat → Bool} (hs : SB gs fs bv k2) (hm : ∀ j, k j = true → k2 j = true) (hn : k2 ≠ k) : cnB gs.length k < cnB gs.length k2 := by
  obtain ⟨l, hl⟩ : ∃ l, k2 l ≠ k l := by
    by_cases c : ∃ l, k2 l ≠ k l
    · exact c
    · exact absurd (funext fun l => Classical.byContradiction fun q => c ⟨l, q⟩) hn
  have h1 : k l = false := by
    cases e : k l with
    | false => rfl
    | true => rw [e, hm l e] at hl; exact absurd rfl hl
  have h2 : k2 l = true := by
    cases e : k2 l with
    | true => rfl
    | false => rw [e, h1] at hl; exact absurd rfl hl
  have hd := hs.1 l h2
  have hlt := Dv_lt hd
  have x := xo l
  have h3 : k (l ^^^ 1) = false := by
    cases e : k (l ^^^ 1) with
    | false => rfl
    | true => exact absurd rfl (fun q => Dv_cons hd (hs.1 _ (hm _ e)) q)
  refine cnt_lt (fun g _ h => ?_) ⟨l / 2, List.mem_range'_1.mpr ⟨by omega, by omega⟩, ?_, ?_⟩
  · rcases Bool.or_eq_true_iff.mp h with h | h
    · simp [hm _ h]
    · simp [hm _ h]
  · rcases Nat.mod_two_eq_zero_or_one l with c | c
    · have e1 : 2 * (l / 2) = l := by omega
      have e2 : l + 1 = l ^^^ 1 := by omega
      rw [e1, e2, h1, h3]; rfl
    · have e1 : 2 * (l / 2) = l ^^^ 1 := by omega
      have e2 : 2 * (l / 2) + 1 = l := by omega
      rw [e2, e1, h1, h3]; rfl
  · rcases Nat.mod_two_eq_zero_or_one l with c | c
    · have e1 : 2 * (l / 2) = l := by omega
      rw [e1, h2]; rfl
    · have e2 : 2 * (l / 2) + 1 = l := by omega
      rw [e2, h2]; simp
/-- a pair of which all gates are known knows all -/
theorem SB_full {k : Nat → Bool} (h : SB gs fs bv k) (e : gs.length ≤ cnB gs.length k) {l : Nat} (hd : Dv gs fs bv l) : k l = true := by
  have hlt := Dv_lt hd
  have x := xo l
  have hc : cnB gs.length k = (List.range' 0 gs.length).length := by
    rw [List.length_range']
    exact Nat.le_antisymm cnB_le e
  have := List.countP_eq_length.mp hc (l / 2) (List.mem_range'_1.mpr ⟨by omega, by omega⟩)
  cases hk : k l with
  | true => rfl
  | false =>
    have h2 : k (l ^^^ 1) = true := by
      rcases Nat.mod_two_eq_zero_or_one l with c | c
      · have e1 : 2 * (l / 2) = l := by omega
        have e2 : l + 1 = l ^^^ 1 := by omega
        rw [e1, e2, hk] at this; simpa using this
      · have e1 : 2 * (l / 2) = l ^^^ 1 := by omega
        have e2 : 2 * (l / 2) + 1 = l := by omega
        rw [e2, e1, hk] at this; simpa using this
    exact absurd rfl (fun q => Dv_cons hd (h.1 _ h2) q)
end MEAN
