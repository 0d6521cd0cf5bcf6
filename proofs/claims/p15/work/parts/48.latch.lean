/-! latches by their numbers; the next state's bits -/
section LAT
variable {gs : List Nat} {fs : List (Nat × Nat)} {os : List Nat}
theorem rk_surj {q : Nat} (hq : q ≠ 9) : ∀ (n k : Nat), n ≤ gs.length → k < (gs.take n).count q → ∃ g, g < n ∧ gs.getD g 9 = q ∧ rk gs g = k
  | 0, k, _, h => absurd h (by simp)
  | n + 1, k, hn, h => by
    have eg : gs.getD n 9 = gs[n]'(by omega) := by rw [List.getD_eq_getElem?_getD, List.getElem?_eq_getElem (by omega)]; rfl
    have e : gs.take (n + 1) = gs.take n ++ [gs.getD n 9] := by rw [eg, List.take_succ_eq_append_getElem (by omega)]
    rw [e, List.count_append] at h
    by_cases c : k < (gs.take n).count q
    · obtain ⟨g, h1, h2, h3⟩ := rk_surj hq n k (by omega) c
      exact ⟨g, by omega, h2, h3⟩
    · by_cases d : gs.getD n 9 = q
      · rw [d] at h
        have : List.count q [q] = 1 := by simp
        refine ⟨n, by omega, d, ?_⟩
        rw [rk, d]; omega
      · have : List.count q [gs.getD n 9] = 0 := List.count_eq_zero_of_not_mem (fun z => d (List.mem_singleton.mp z).symm)
        omega
/-- the gate of latch k -/
def gk (gs : List Nat) (k : Nat) : Nat := ((List.range' 0 gs.length).find? (fun g => decide (gs.getD g 9 = 1) && decide (rk gs g = k))).getD 0
theorem gk_of {k : Nat} (h : k < gs.count 1) : gk gs k < gs.length ∧ gs.getD (gk gs k) 9 = 1 ∧ rk gs (gk gs k) = k := by
  obtain ⟨g, h1, h2, h3⟩ := rk_surj (gs := gs) (q := 1) (by decide) gs.length k (Nat.le_refl _) (by rw [List.take_length]; exact h)
  rw [gk]
  cases e : (List.range' 0 gs.length).find? (fun g => decide (gs.getD g 9 = 1) && decide (rk gs g = k)) with
  | none =>
    have := List.find?_eq_none.mp e g (List.mem_range'_1.mpr ⟨by omega, by omega⟩)
    rw [h2, h3] at this
    simp at this
  | some x =>
    have a := List.find?_some e
    have b := List.mem_of_find?_eq_some e
    have b2 := List.mem_range'_1.mp b
    rw [Bool.and_eq_true, decide_eq_true_eq, decide_eq_true_eq] at a
    rw [Option.getD_some]
    exact ⟨by omega, a.1, a.2⟩
theorem gk_rk {g : Nat} (hg : g < gs.length) (hs : gs.getD g 9 = 1) : gk gs (rk gs g) = g := by
  have := rk_lt hg
  rw [hs] at this
  obtain ⟨a, b, c⟩ := gk_of this
  exact rk_inj a hg (b.trans hs.symm) c
/-- the literal that latch k takes next -/
def nvF (gs : List Nat) (fs : List (Nat × Nat)) (k : Nat) : Nat := (fOf fs (gk gs k)).getD 0 (2 * gk gs k)
theorem nvF_lt (hw : WF gs fs os) {k : Nat} (h : k < gs.count 1) : nvF gs fs k < 2 * gs.length := by
  obtain ⟨a, b, c⟩ := gk_of h
  rw [nvF]
  cases e : fOf fs (gk gs k) with
  | nil => simp; omega
  | cons l t =>
    have : l ∈ fOf fs (gk gs k) := by rw [e]; exact List.mem_cons_self
    have := (hw.2.2.2.2.2.1 _ (fOf_mem this)).2.1
    simpa using this
theorem nv_RC {so ra st li nl ou : Nat → Int32} {gT iT lT oT : Int32} (h : RC so ra st li nl ou gT iT lT oT gs fs os) (hw : WF gs fs os) : ∀ k, k < gs.count 1 → nl k = nI (nvF gs fs k) ∧ nvF gs fs k < 2 * gs.length := by
  intro k hk
  obtain ⟨a, b, c⟩ := gk_of hk
  refine ⟨?_, nvF_lt hw hk⟩
  have := h.2.2.2.2.2.2.2.1 (gk gs k) a b
  rw [c] at this
  exact this
theorem nxt_bit {va : Nat → Int64} {nv : Nat → Nat} {w b : Nat} : ∀ (K k : Nat), k < K → (nxt va nv w b K).testBit k = !(bL (va (nv k / 2 * 64 + w)) b == decide (nv k % 2 = 1))
  | 0, k, h => absurd h (by omega)
  | K + 1, k, h => by
    have hlt := nxt_lt (va := va) (nv := nv) (w := w) (b := b) K
    have key : ∀ z : Nat, nxt va nv w b K + z * 2 ^ K = 2 ^ K * z + nxt va nv w b K := fun z => by rw [Nat.mul_comm, Nat.add_comm]
    rw [nxt, key, Nat.testBit_two_pow_mul_add _ hlt]
    rcases Nat.lt_or_ge k K with c | c
    · rw [if_pos c]; exact nxt_bit K k c
    · have : k = K := by omega
      subst this
      rw [if_neg (by omega), Nat.sub_self]
      cases bL (va (nv k / 2 * 64 + w)) b <;> cases decide (nv k % 2 = 1) <;> decide
/-- does the net settle; what is a literal -/
def stN (gs : List Nat) (fs : List (Nat × Nat)) (s c : Nat) : Bool := bL (SE gs fs (s / 4)) (s % 4 * 16 + c)
def vaN (gs : List Nat) (fs : List (Nat × Nat)) (g s c : Nat) : Bool := bL (KN gs fs (s / 4) (2 * g)) (s % 4 * 16 + c)
theorem stN_iff (hw : WF gs fs os) {s c : Nat} (hs : s < 256) (hc : c < 16) : stN gs fs s c = true ↔ ∀ g, g < gs.length → Dv gs fs (bvS gs s c) (2 * g) ∨ Dv gs fs (bvS gs s c) (2 * g + 1) := SE_at hw hs hc
theorem vaN_iff (hw : WF gs fs os) {g s c : Nat} (hs : s < 256) (hc : c < 16) : vaN gs fs g s c = true ↔ Dv gs fs (bvS gs s c) (2 * g) := KN_at hw hs hc _
theorem stN_mod (hw : WF gs fs os) {s c : Nat} (hs : s < 256) (hc : c < 16) : stN gs fs s c = stN gs fs s (c % 2 ^ gs.count 0) := by
  have hp : c % 2 ^ gs.count 0 < 16 := Nat.lt_of_le_of_lt (Nat.mod_le _ _) hc
  apply Bool.eq_iff_iff.mpr
  rw [stN_iff hw hs hc, stN_iff hw hs hp]
  constructor
  · intro h g hg; rw [← Dv_mod, ← Dv_mod]; exact h g hg
  · intro h g hg; rw [Dv_mod, Dv_mod (l := 2 * g + 1)]; exact h g hg
theorem vaN_mod (hw : WF gs fs os) {g s c : Nat} (hs : s < 256) (hc : c < 16) : vaN gs fs g s c = vaN gs fs g s (c % 2 ^ gs.count 0) := by
  have hp : c % 2 ^ gs.count 0 < 16 := Nat.lt_of_le_of_lt (Nat.mod_le _ _) hc
  apply Bool.eq_iff_iff.mpr
  rw [vaN_iff hw hs hc, vaN_iff hw hs hp, Dv_mod]
theorem nxA_none {nv : Nat → Nat} {s c : Nat} : nxA gs fs nv s c = none ↔ stN gs fs s c = false := by
  rw [nxA, stN]
  split
  · rename_i h; exact ⟨fun _ => h, fun _ => rfl⟩
  · rename_i h; exact ⟨fun q => (nomatch q), fun q => absurd q h⟩
/-- the next state's bits are the latches' literals -/
theorem nxA_bit (hw : WF gs fs os) {s c t : Nat} (hs : s < 256) (hc : c < 16) (h : nxA gs fs (nvF gs fs) s c = some t) {k : Nat} (hk : k < gs.count 1) : t.testBit k = true ↔ Dv gs fs (bvS gs s c) (nvF gs fs k) := by
  have hl := nvF_lt (fs := fs) hw hk
  have hst : stN gs fs s c = true := by
    cases e : stN gs fs s c with
    | true => rfl
    | false => rw [nxA_none.mpr e] at h; cases h
  have hall := (stN_iff hw hs hc).mp hst
  rw [nxA] at h
  split at h
  · cases h
  · cases h
    rw [nxt_bit _ k hk]
    have e1 : VA gs fs (nvF gs fs k / 2 * 64 + s / 4) = KN gs fs (s / 4) (2 * (nvF gs fs k / 2)) := by
      rw [VA]
      congr 1
      · congr 1; omega
      · omega
    rw [e1]
    have hv := vaN_iff (g := nvF gs fs k / 2) (fs := fs) hw hs hc
    rw [vaN] at hv
    generalize hl2 : nvF gs fs k = l at *
    have hd := hall (l / 2) (by omega)
    rcases Nat.mod_two_eq_zero_or_one l with z | z
    · have e2 : 2 * (l / 2) = l := by omega
      rw [e2] at hv
      rw [e2, z, ← hv]; simp
    · have e2 : 2 * (l / 2) + 1 = l := by omega
      have x := xo (2 * (l / 2))
      have e3 : 2 * (l / 2) ^^^ 1 = l := by omega
      rw [e2] at hd
      rw [z]
      cases q : bL (KN gs fs (s / 4) (2 * (l / 2))) (s % 4 * 16 + c) with
      | true =>
        have := hv.mp q
        constructor
        · intro w; exact absurd w (by simp)
        · intro w; exact absurd (Dv_cons this w e3.symm) (by simp)
      | false =>
        constructor
        · intro _
          rcases hd with hd | hd
          · have := hv.mpr hd; rw [q] at this; exact absurd this (by simp)
          · exact hd
        · intro _; rfl
end LAT
