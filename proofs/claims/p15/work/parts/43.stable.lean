/-! the rounds end, and where they end the names stand -/
theorem cnt_le {p q : Nat → Bool} : ∀ {l : List Nat}, (∀ x, x ∈ l → p x = true → q x = true) → l.countP p ≤ l.countP q
  | [], _ => Nat.le_refl _
  | x :: l, h => by
    have ih := cnt_le (p := p) (q := q) (l := l) (fun y hy => h y (List.mem_cons_of_mem _ hy))
    have h0 := h x List.mem_cons_self
    rw [List.countP_cons, List.countP_cons]
    by_cases c : p x = true
    · rw [if_pos c, if_pos (h0 c)]; omega
    · rw [if_neg c]; omega
theorem cnt_eq {p q : Nat → Bool} : ∀ {l : List Nat}, (∀ x, x ∈ l → p x = true → q x = true) → l.countP p = l.countP q → ∀ x, x ∈ l → q x = true → p x = true
  | [], _, _, x, hx, _ => absurd hx (by simp)
  | y :: l, h, e, x, hx, hq => by
    have h1 : ∀ x, x ∈ l → p x = true → q x = true := fun y hy => h y (List.mem_cons_of_mem _ hy)
    have h2 := cnt_le h1
    have h0 := h y List.mem_cons_self
    rw [List.countP_cons, List.countP_cons] at e
    by_cases c : p y = true
    · rw [if_pos c, if_pos (h0 c)] at e
      rcases List.mem_cons.mp hx with z | z
      · rw [z]; exact c
      · exact cnt_eq h1 (by omega) x z hq
    · rw [if_neg c] at e
      by_cases d : q y = true
      · rw [if_pos d] at e; omega
      · rw [if_neg d] at e
        rcases List.mem_cons.mp hx with z | z
        · rw [z] at hq; exact absurd hq d
        · exact cnt_eq h1 (by omega) x z hq
section PS
variable {se va : Nat → Int64} {ou nm ns di : Nat → Int32} {ov : Nat → Nat} {nx : Nat → Nat → Option Nat} {O I K S C : Nat} {rd : Nat → Bool}
theorem spl_le {i q : Nat} (hr : rd q = true) : spl se va ov O nx C rd i q ≤ q := by
  cases i with
  | zero => exact Nat.zero_le _
  | succ i => rw [spl]; exact (fiN_of hr).1
theorem spl_idem {i q : Nat} (h0 : rd 0 = true) (hr : rd q = true) : rd (spl se va ov O nx C rd i q) = true ∧ spl se va ov O nx C rd i (spl se va ov O nx C rd i q) = spl se va ov O nx C rd i q := by
  cases i with
  | zero => exact ⟨h0, rfl⟩
  | succ i => rw [spl]; have := fiN_of (rd := rd) (N := spl se va ov O nx C rd i) (al := alN se va ov O (spl se va ov O nx C rd i) nx C) hr; exact ⟨this.2.1, this.2.2.2⟩
/-- who is the least stays it -/
theorem spl_keep {i q : Nat} (hr : rd q = true) (h : spl se va ov O nx C rd i q = q) : spl se va ov O nx C rd (i + 1) q = q := by
  rw [spl, fiN, h, prt_none (fun p _ hp => spl_le hp) (Nat.le_refl _)]
  rfl
theorem splT_eq (h0 : rd 0 = true) (hS : 1 ≤ S) : ∀ i, splT se va ov O nx C rd S i = nPt rd (spl se va ov O nx C rd i) 0 S
  | 0 => by
    obtain ⟨S, rfl⟩ : ∃ z, S = z + 1 := ⟨S - 1, by omega⟩
    rw [splT, nPt, List.range'_succ, List.countP_cons, if_pos (by simp [h0, spl]), List.countP_eq_zero.mpr]
    intro q hq
    have := List.mem_range'_1.mp hq
    rw [Bool.and_eq_true, decide_eq_true_eq]
    intro h
    have e : (0 : Nat) = q := h.2
    omega
  | i + 1 => rfl
theorem splT_up (h0 : rd 0 = true) (hS : 1 ≤ S) (i : Nat) : splT se va ov O nx C rd S i ≤ splT se va ov O nx C rd S (i + 1) := by
  rw [splT_eq h0 hS, splT_eq h0 hS, nPt, nPt]
  apply cnt_le
  intro q _ h
  rw [Bool.and_eq_true, decide_eq_true_eq] at h ⊢
  exact ⟨h.1, spl_keep h.1 h.2⟩
theorem splT_end (h0 : rd 0 = true) (hS : 1 ≤ S) : ∀ i, (∀ j, j < i → splT se va ov O nx C rd S (j + 1) ≠ splT se va ov O nx C rd S j) → i + 1 ≤ splT se va ov O nx C rd S i
  | 0, _ => Nat.le_refl _
  | i + 1, h => by
    have h1 := splT_end h0 hS i (fun j hj => h j (by omega))
    have h2 := splT_up (se := se) (va := va) (ov := ov) (O := O) (nx := nx) (C := C) h0 hS i
    have h3 := h i (by omega)
    omega
/-- as many parts as before: the same parts -/
theorem spl_stable (h0 : rd 0 = true) (hS : 1 ≤ S) {j : Nat} (h : splT se va ov O nx C rd S (j + 1) = splT se va ov O nx C rd S j) {q : Nat} (hq : q < S) (hr : rd q = true) : spl se va ov O nx C rd (j + 1) q = spl se va ov O nx C rd j q := by
  rw [splT_eq h0 hS, splT_eq h0 hS, nPt, nPt] at h
  have hf := fiN_of (rd := rd) (N := spl se va ov O nx C rd j) (al := alN se va ov O (spl se va ov O nx C rd j) nx C) hr
  have e : spl se va ov O nx C rd (j + 1) = fiN rd (spl se va ov O nx C rd j) (alN se va ov O (spl se va ov O nx C rd j) nx C) := rfl
  rw [← e] at hf
  have hk := cnt_eq (p := fun q => rd q && decide (spl se va ov O nx C rd j q = q)) (q := fun q => rd q && decide (spl se va ov O nx C rd (j + 1) q = q)) (l := List.range' 0 S) (fun x _ hx => by
    rw [Bool.and_eq_true, decide_eq_true_eq] at hx ⊢
    exact ⟨hx.1, spl_keep hx.1 hx.2⟩) h.symm (spl se va ov O nx C rd (j + 1) q) (List.mem_range'_1.mpr ⟨Nat.zero_le _, by omega⟩) (by rw [Bool.and_eq_true, decide_eq_true_eq]; exact ⟨hf.2.1, hf.2.2.2⟩)
  rw [Bool.and_eq_true, decide_eq_true_eq] at hk
  rw [← hf.2.2.1]
  exact hk.2.symm
theorem p_split9 {S : Nat} (hS : S ≤ 256) : ∀ (k n i : Nat) (nm : Nat → Int32), i + k = S → k < n → ∃ r, L_Par_split_9 (nI S) n (nI i) nm = some r ∧ (∀ s, i ≤ s → s < S → r s = 0) ∧ ∀ s, s < i → r s = nm s := by
  intro k
  induction k with
  | zero =>
    intro n i di h1 h2
    obtain ⟨n, rfl⟩ : ∃ z, n = z + 1 := ⟨n - 1, by omega⟩
    rw [L_Par_split_9, if_pos ((nI_leI (by omega) (by omega)).mpr (by omega))]
    exact ⟨_, rfl, fun s a b => absurd b (by omega), fun _ _ => rfl⟩
  | succ k ih =>
    intro n i di h1 h2
    obtain ⟨n, rfl⟩ : ∃ z, n = z + 1 := ⟨n - 1, by omega⟩
    rw [L_Par_split_9, if_neg (by rw [nI_leI (by omega) (by omega)]; omega), gd_nI (by omega) (by decide), nI_clamp (by omega), nI_1]
    obtain ⟨r, r1, r2, r3⟩ := ih n (i + 1) (upd di i 0) (by omega) (by omega)
    refine ⟨r, r1, fun s a b => ?_, fun s a => by rw [r3 s (by omega), upd_eq, if_neg (by omega)]⟩
    rcases Nat.lt_or_ge i s with e | e
    · exact r2 s (by omega) b
    · rw [r3 s (by omega), upd_eq, if_pos (by omega)]
/-- Partition.split: names that stand under one more round, and how many -/
theorem p_split (hO : O ≤ 6) (hou : ∀ i, i < O → ou i = nI (ov i) ∧ ov i < 60) (hI : I ≤ 4) (hK : K ≤ 8) (hnx : ∀ s, s < 2 ^ K → ∀ c, c < 2 ^ I → nxOf ns s c (nx s c) ∧ ∀ t, nx s c = some t → t < 2 ^ K) (hcl : ∀ s, s < 2 ^ K → rd s = true → ∀ c, c < 2 ^ I → ∀ t, nx s c = some t → rd t = true) (hdi : ∀ q, q < 2 ^ K → (di q = -1 ↔ rd q = false)) (h0 : rd 0 = true) (nm fi be : Nat → Int32) (tot : Int32) :
    ∃ w j, m_Par_split ou (nI I) (nI K) (nI O) nm fi be tot se va ns di = some w ∧ HN (2 ^ K) rd w.1 (spl se va ov O nx (2 ^ I) rd (j + 1)) ∧ w.2.2.2 = nI (nPt rd (spl se va ov O nx (2 ^ I) rd (j + 1)) 0 (2 ^ K)) ∧ ∀ q, q < 2 ^ K → rd q = true → spl se va ov O nx (2 ^ I) rd (j + 1) q = spl se va ov O nx (2 ^ I) rd j q := by
  have hpK := pow8 hK
  obtain ⟨r, r1, r2, -⟩ := p_split9 hpK.2 (2 ^ K) fu 0 nm (by omega) (by rw [fu]; omega)
  have r1' : L_Par_split_9 (nI (2 ^ K)) fu (0 : Int32) nm = some r := r1
  have hN : HN (2 ^ K) rd r (spl se va ov O nx (2 ^ I) rd 0) := fun q hq _ => ⟨r2 q (Nat.zero_le _) hq, Nat.zero_le _, h0, rfl⟩
  obtain ⟨w, j, h⟩ := p_splitR (se := se) (va := va) hO hou hI hK hnx hcl hdi 256 fu 0 r fi be (by omega) (by rw [fu]; omega) hN (fun j hj => absurd hj (by omega))
  rcases h with ⟨a, b, c, d⟩ | ⟨a, b⟩
  · have a' : L_Par_split_38 ou (nI I) (nI K) (nI O) se va ns di fu (0 : Int32) r fi be (1 : Int32) = some (.inl w) := a
    refine ⟨w, j, ?_, c, d, fun q hq hr => spl_stable h0 hpK.1 b hq hr⟩
    rw [m_Par_split, p_stateTotal hK, Option.bind_some, r1', Option.bind_some, a', Option.bind_some]
    rfl
  · have := splT_end h0 hpK.1 256 b
    rw [splT] at this
    have := nPt_le (rd := rd) (f := spl se va ov O nx (2 ^ I) rd (255 + 1)) (x := 0) (k := 2 ^ K)
    omega
end PS
