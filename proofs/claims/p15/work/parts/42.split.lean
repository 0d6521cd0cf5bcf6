/-! Partition.split, whole -/
theorem fnd_congr {f g : Nat → Bool} : ∀ {l : List Nat}, (∀ p, p ∈ l → f p = g p) → l.find? f = l.find? g
  | [], _ => rfl
  | p :: l, h => by
    rw [List.find?_cons, List.find?_cons, h p List.mem_cons_self, fnd_congr (fun q hq => h q (List.mem_cons_of_mem _ hq))]
section PC
variable {rd : Nat → Bool} {N : Nat → Nat} {al a2 : Nat → Nat → Bool} {S : Nat}
theorem prt_congr (h : ∀ p, p < S → rd p = true → ∀ x, x < S → rd x = true → al p x = a2 p x) {L : Nat} : ∀ {x : Nat}, x ≤ S → prt rd N al L x = prt rd N a2 L x
  | 0, _ => rfl
  | x + 1, hx => by
    rw [prt, prt, prt_congr h (by omega)]
    cases hr : rd x with
    | false => rw [if_neg (fun z => by cases z.1), if_neg (fun z => by cases z.1)]
    | true => rw [fnd_congr (f := fun p => al p x) (g := fun p => a2 p x) (fun p hp => h p (by have := (prt_mem hp).1; omega) (prt_mem hp).2.1 x (by omega) hr)]
theorem fiN_congr (h : ∀ p, p < S → rd p = true → ∀ x, x < S → rd x = true → al p x = a2 p x) {x : Nat} (hx : x < S) (hr : rd x = true) : fiN rd N al x = fiN rd N a2 x := by
  rw [fiN, fiN, prt_congr h (by omega), fnd_congr (f := fun p => al p x) (g := fun p => a2 p x) (fun p hp => h p (by have := (prt_mem hp).1; omega) (prt_mem hp).2.1 x hx hr)]
theorem nPt_congr {f g : Nat → Nat} {k : Nat} (h : ∀ q, q < k → rd q = true → f q = g q) : nPt rd f 0 k = nPt rd g 0 k := by
  rw [nPt, nPt]
  apply List.countP_congr
  intro q hq
  have hk : q < k := by have := List.mem_range'_1.mp hq; omega
  cases hr : rd q with
  | false => simp
  | true => rw [h q hk hr]
end PC
section PS
variable {se va : Nat → Int64} {ou nm ns di : Nat → Int32} {ov : Nat → Nat} {nx : Nat → Nat → Option Nat} {O I K : Nat} {rd : Nat → Bool} {N : Nat → Nat}
/-- states are alike under the names N -/
noncomputable def alN (se va : Nat → Int64) (ov : Nat → Nat) (O : Nat) (N : Nat → Nat) (nx : Nat → Nat → Option Nat) (C : Nat) : Nat → Nat → Bool := alA se va ov O (fun q => nI (N q)) nx C
theorem alN_eq {S C : Nat} (hN : HN S rd nm N) (hcl : ∀ s, s < S → rd s = true → ∀ c, c < C → ∀ t, nx s c = some t → t < S ∧ rd t = true) : ∀ p, p < S → rd p = true → ∀ x, x < S → rd x = true → alA se va ov O nm nx C p x = alN se va ov O N nx C p x := by
  intro p hp hp2 x hx hx2
  have key : ∀ s, s < S → rd s = true → ∀ c, c < C → nmN nm nx s c = nmN (fun q => nI (N q)) nx s c := by
    intro s hs hs2 c hc
    rw [nmN, nmN]
    cases e : nx s c with
    | none => rfl
    | some t =>
      obtain ⟨t1, t2⟩ := hcl s hs hs2 c hc t e
      exact (hN t t1 t2).1
  rw [Bool.eq_iff_iff, alN, alA_iff, alA_iff]
  refine and_congr Iff.rfl ⟨fun h c hc => ?_, fun h c hc => ?_⟩
  · rw [← key p hp hp2 c hc, ← key x hx hx2 c hc]; exact h c hc
  · rw [key p hp hp2 c hc, key x hx hx2 c hc]; exact h c hc
theorem p_splitOnce (hO : O ≤ 6) (hou : ∀ i, i < O → ou i = nI (ov i) ∧ ov i < 60) (hI : I ≤ 4) (hK : K ≤ 8) (hnx : ∀ s, s < 2 ^ K → ∀ c, c < 2 ^ I → nxOf ns s c (nx s c) ∧ ∀ t, nx s c = some t → t < 2 ^ K) (hcl : ∀ s, s < 2 ^ K → rd s = true → ∀ c, c < 2 ^ I → ∀ t, nx s c = some t → rd t = true) (hdi : ∀ q, q < 2 ^ K → (di q = -1 ↔ rd q = false)) (hN : HN (2 ^ K) rd nm N) (fi be : Nat → Int32) :
    ∃ v, m_Par_splitOnce ou (nI I) (nI K) (nI O) nm fi be se va ns di = some v ∧ v.1 = nI (nPt rd (fiN rd N (alN se va ov O N nx (2 ^ I))) 0 (2 ^ K)) ∧ HN (2 ^ K) rd v.2.1 (fiN rd N (alN se va ov O N nx (2 ^ I))) := by
  have hpK := pow8 hK
  have hnx2 : ∀ s, s < 2 ^ K → ∀ c, c < 2 ^ I → nxOf ns s c (nx s c) ∧ ∀ t, nx s c = some t → t < 256 := fun s hs c hc => ⟨(hnx s hs c hc).1, fun t ht => by have := (hnx s hs c hc).2 t ht; omega⟩
  have hal := alN_eq (se := se) (va := va) (ov := ov) (O := O) (C := 2 ^ I) hN (fun s hs hs2 c hc t ht => ⟨(hnx s hs c hc).2 t ht, hcl s hs hs2 c hc t ht⟩)
  obtain ⟨f2, b2, r1, r2⟩ := p_splitL (se := se) (va := va) hO hou hI hpK.2 hnx2 hN hdi (2 ^ K) fu 0 0 fi be (by omega) (by rw [fu]; omega) (fun L => trivial) (fun q hq => absurd hq (by omega))
  rw [Nat.zero_add] at r1
  have r1' : L_Par_splitOnce_12 ou (nI I) (nI O) nm se va ns di (nI (2 ^ K)) fu (0 : Int32) (0 : Int32) fi be = _ := r1
  have hg : ¬ (0 : Int32) < 0 ∧ ¬ (0 : Int32) < 0 ∧ ¬ nI (2 ^ K) < 0 ∧ (0 : Int32).toNatClampNeg + (nI (2 ^ K)).toNatClampNeg ≤ 256 ∧ (0 : Int32).toNatClampNeg + (nI (2 ^ K)).toNatClampNeg ≤ 256 := by
    have z0 : (0 : Int32).toNatClampNeg = 0 := by decide
    rw [nI_clamp (by omega), z0]
    refine ⟨by decide, by decide, ?_, by omega, by omega⟩
    rw [i0, nI_ltI (by omega) (by omega)]
    omega
  rw [m_Par_splitOnce, p_stateTotal hK, Option.bind_some, r1', Option.bind_some, gd_in hg]
  refine ⟨_, rfl, ?_, ?_⟩
  · dsimp only
    rw [nPt_congr (fun q hq hr => fiN_congr hal hq hr)]
  · intro q hq hr
    have h1 := fiN_of (rd := rd) (N := N) (al := alN se va ov O N nx (2 ^ I)) hr
    refine ⟨?_, h1.1, h1.2.1, h1.2.2.2⟩
    have z0 : (0 : Int32).toNatClampNeg = 0 := by decide
    dsimp only
    rw [va_cpy, z0, nI_clamp (by omega), if_pos ⟨by omega, by omega⟩, Nat.sub_zero, Nat.zero_add, r2 q hq hr, fiN_congr hal hq hr]
/-- the names after each round -/
noncomputable def spl (se va : Nat → Int64) (ov : Nat → Nat) (O : Nat) (nx : Nat → Nat → Option Nat) (C : Nat) (rd : Nat → Bool) : Nat → Nat → Nat
  | 0 => fun _ => 0
  | i + 1 => fiN rd (spl se va ov O nx C rd i) (alN se va ov O (spl se va ov O nx C rd i) nx C)
noncomputable def splT (se va : Nat → Int64) (ov : Nat → Nat) (O : Nat) (nx : Nat → Nat → Option Nat) (C : Nat) (rd : Nat → Bool) (S : Nat) : Nat → Nat
  | 0 => 1
  | i + 1 => nPt rd (spl se va ov O nx C rd (i + 1)) 0 S
theorem p_splitR (hO : O ≤ 6) (hou : ∀ i, i < O → ou i = nI (ov i) ∧ ov i < 60) (hI : I ≤ 4) (hK : K ≤ 8) (hnx : ∀ s, s < 2 ^ K → ∀ c, c < 2 ^ I → nxOf ns s c (nx s c) ∧ ∀ t, nx s c = some t → t < 2 ^ K) (hcl : ∀ s, s < 2 ^ K → rd s = true → ∀ c, c < 2 ^ I → ∀ t, nx s c = some t → rd t = true) (hdi : ∀ q, q < 2 ^ K → (di q = -1 ↔ rd q = false)) :
    ∀ (k n i : Nat) (nm fi be : Nat → Int32), i + k = 256 → k < n → HN (2 ^ K) rd nm (spl se va ov O nx (2 ^ I) rd i) → (∀ j, j < i → splT se va ov O nx (2 ^ I) rd (2 ^ K) (j + 1) ≠ splT se va ov O nx (2 ^ I) rd (2 ^ K) j) →
      ∃ w j, (L_Par_split_38 ou (nI I) (nI K) (nI O) se va ns di n (nI i) nm fi be (nI (splT se va ov O nx (2 ^ I) rd (2 ^ K) i)) = some (.inl w) ∧ splT se va ov O nx (2 ^ I) rd (2 ^ K) (j + 1) = splT se va ov O nx (2 ^ I) rd (2 ^ K) j ∧ HN (2 ^ K) rd w.1 (spl se va ov O nx (2 ^ I) rd (j + 1)) ∧ w.2.2.2 = nI (splT se va ov O nx (2 ^ I) rd (2 ^ K) (j + 1))) ∨ (L_Par_split_38 ou (nI I) (nI K) (nI O) se va ns di n (nI i) nm fi be (nI (splT se va ov O nx (2 ^ I) rd (2 ^ K) i)) = some (.inr w) ∧ ∀ j, j < 256 → splT se va ov O nx (2 ^ I) rd (2 ^ K) (j + 1) ≠ splT se va ov O nx (2 ^ I) rd (2 ^ K) j) := by
  intro k
  have hpK := pow8 hK
  have hT : ∀ i, splT se va ov O nx (2 ^ I) rd (2 ^ K) i ≤ 256 := by
    intro i
    cases i with
    | zero => rw [splT]; omega
    | succ i => rw [splT]; have := nPt_le (rd := rd) (f := spl se va ov O nx (2 ^ I) rd (i + 1)) (x := 0) (k := 2 ^ K); omega
  induction k with
  | zero =>
    intro n i nm fi be h1 h2 hN hj
    obtain ⟨n, rfl⟩ : ∃ z, n = z + 1 := ⟨n - 1, by omega⟩
    rw [L_Par_split_38, if_pos (by rw [i256, nI_leI (by omega) (by omega)]; omega)]
    exact ⟨_, 0, Or.inr ⟨rfl, fun j hj2 => hj j (by omega)⟩⟩
  | succ k ih =>
    intro n i nm fi be h1 h2 hN hj
    obtain ⟨n, rfl⟩ : ∃ z, n = z + 1 := ⟨n - 1, by omega⟩
    obtain ⟨v, v1, v2, v3⟩ := p_splitOnce (se := se) (va := va) hO hou hI hK hnx hcl hdi hN fi be
    have v2' : v.1 = nI (splT se va ov O nx (2 ^ I) rd (2 ^ K) (i + 1)) := v2
    have v3' : HN (2 ^ K) rd v.2.1 (spl se va ov O nx (2 ^ I) rd (i + 1)) := v3
    have t1 := hT i
    have t2 := hT (i + 1)
    rw [L_Par_split_38, if_neg (by rw [i256, nI_leI (by omega) (by omega)]; omega), v1, Option.bind_some, v2', nI_1]
    by_cases c : splT se va ov O nx (2 ^ I) rd (2 ^ K) (i + 1) = splT se va ov O nx (2 ^ I) rd (2 ^ K) i
    · rw [if_pos (by rw [c])]
      exact ⟨_, i, Or.inl ⟨rfl, c, v3', rfl⟩⟩
    · rw [if_neg (by rw [nI_eq (by omega) (by omega)]; exact c)]
      exact ih n (i + 1) _ _ _ (by omega) (by omega) v3' (fun j hj2 => by
        rcases Nat.lt_or_ge j i with d | d
        · exact hj j d
        · rw [show j = i by omega]; exact c)
end PS
