/-! Partition.place: the parts of a group as a chain -/
noncomputable def alA (se va : Nat → Int64) (ov : Nat → Nat) (O : Nat) (nm : Nat → Int32) (nx : Nat → Nat → Option Nat) (C p x : Nat) : Bool := @decide (LooksA se va ov O p x ∧ GoesA nm nx C p x) (Classical.propDecidable _)
theorem alA_iff {se va : Nat → Int64} {ov : Nat → Nat} {O : Nat} {nm : Nat → Int32} {nx : Nat → Nat → Option Nat} {C p x : Nat} : alA se va ov O nm nx C p x = true ↔ LooksA se va ov O p x ∧ GoesA nm nx C p x := by
  exact @decide_eq_true_iff _ (Classical.propDecidable _)
def hdI : List Nat → Int32
  | [] => -1
  | p :: _ => nI p
def lastI : Nat → List Nat → Nat
  | a, [] => a
  | _, p :: l => lastI p l
def Ch (be : Nat → Int32) : List Nat → Prop
  | [] => True
  | p :: l => be p = hdI l ∧ Ch be l
theorem Ch_of {be b2 : Nat → Int32} : ∀ {l : List Nat}, Ch be l → (∀ p, p ∈ l → b2 p = be p) → Ch b2 l
  | [], _, _ => trivial
  | p :: l, h, e => ⟨by rw [e p List.mem_cons_self]; exact h.1, Ch_of h.2 (fun q hq => e q (List.mem_cons_of_mem _ hq))⟩
/-- a state is set behind the last one -/
theorem Ch_app {be : Nat → Int32} {x : Nat} : ∀ {l : List Nat} {a : Nat}, l ≠ [] → l.Nodup → x ∉ l → Ch be l → Ch (upd (upd be (lastI a l) (nI x)) x (-1)) (l ++ [x])
  | [], _, h, _, _, _ => absurd rfl h
  | [p], a, _, _, hx, _ => by
    have hp : p ≠ x := fun e => hx (by rw [e]; exact List.mem_singleton_self _)
    refine ⟨?_, ?_, trivial⟩
    · rw [upd_eq, if_neg hp, upd_eq]
      show (if p = lastI p [] then nI x else be p) = _
      rw [lastI, if_pos rfl]; rfl
    · rw [upd_eq, if_pos rfl]; rfl
  | p :: q :: l, a, _, hn, hx, hc => by
    have ih := Ch_app (be := be) (x := x) (l := q :: l) (a := p) (by simp) (List.nodup_cons.mp hn).2 (fun z => hx (List.mem_cons_of_mem _ z)) hc.2
    have hp : p ≠ x := fun e => hx (by rw [e]; exact List.mem_cons_self)
    have hl : ∀ (m : List Nat) (b : Nat), lastI b m ∈ b :: m := by
      intro m
      induction m with
      | nil => intro b; exact List.mem_singleton_self _
      | cons c m ih2 => intro b; rw [lastI]; exact List.mem_cons_of_mem _ (ih2 c)
    have hpl : p ≠ lastI q l := fun e => (List.nodup_cons.mp hn).1 (by rw [e]; exact hl l q)
    refine ⟨?_, ih⟩
    rw [upd_eq, if_neg hp, upd_eq]
    show (if p = lastI q l then nI x else be p) = _
    rw [if_neg hpl, hc.1]; rfl
section PL
variable {se va : Nat → Int64} {ou nm ns : Nat → Int32} {ov : Nat → Nat} {nx : Nat → Nat → Option Nat} {O I S : Nat}
theorem p_placeL (hO : O ≤ 6) (hou : ∀ i, i < O → ou i = nI (ov i) ∧ ov i < 60) (hI : I ≤ 4) (hS : S ≤ 256) {x : Nat} (hx : x < S) (hnx : ∀ s, s < S → ∀ c, c < 2 ^ I → nxOf ns s c (nx s c) ∧ ∀ t, nx s c = some t → t < 256) {be : Nat → Int32} :
    ∀ (l : List Nat) (n last tried : Nat), Ch be l → l.length < n → tried + l.length ≤ 256 → (∀ p, p ∈ l → p < S) →
      L_Par_place_30 ou (nI I) (nI O) nm be se va ns (nI x) n (nI last) (hdI l) (nI tried) = some (match l.find? (fun p => alA se va ov O nm nx (2 ^ I) p x) with
        | some p => .inl (nI p)
        | none => .inr (nI (lastI last l))) := by
  intro l
  induction l with
  | nil =>
    intro n last tried _ h2 _ _
    obtain ⟨n, rfl⟩ : ∃ z, n = z + 1 := ⟨n - 1, by omega⟩
    rw [L_Par_place_30, hdI, if_pos rfl]
    rfl
  | cons p l ih =>
    intro n last tried hc h2 h3 h4
    obtain ⟨n, rfl⟩ : ∃ z, n = z + 1 := ⟨n - 1, by omega⟩
    rw [List.length_cons] at h2 h3
    have hp := h4 p List.mem_cons_self
    have hih := ih n p (tried + 1) hc.2 (by omega) (by omega) (fun q hq => h4 q (List.mem_cons_of_mem _ hq))
    have hL := p_looksAlike (se := se) (va := va) (ou := ou) (ov := ov) (s := p) (o := x) hO hou (by omega) (by omega)
    have hG := p_goesAlike (nm := nm) (ns := ns) (nx := nx) (s := p) (o := x) hI (by omega) (by omega) (hnx p hp) (hnx x hx)
    rw [L_Par_place_30, hdI, if_neg (m1_ne (by omega)), if_neg (show ¬ (256 : Int32) ≤ nI tried by rw [i256, nI_leI (by omega) (by omega)]; omega), List.find?_cons]
    have no : alA se va ov O nm nx (2 ^ I) p x = false → gd (vp_in (nI p) 256) (L_Par_place_30 ou (nI I) (nI O) nm be se va ns (nI x) n (nI p) (be (nI p).toNatClampNeg) (nI tried + (1 : Int32))) = some (match (match alA se va ov O nm nx (2 ^ I) p x with
        | true => some p
        | false => l.find? (fun p => alA se va ov O nm nx (2 ^ I) p x)) with
        | some p => .inl (nI p)
        | none => .inr (nI (lastI last (p :: l)))) := by
      intro e
      rw [gd_nI (by omega) (by decide), nI_clamp (by omega), hc.1, nI_1, hih, e]
      rfl
    rcases hL with ⟨a, b⟩ | ⟨a, b⟩
    · rw [a, Option.bind_some]
      dsimp only [sx_let]
      rw [if_neg (by decide)]
      rcases hG with ⟨c, d⟩ | ⟨c, d⟩
      · rw [c, Option.bind_some, if_neg (by decide), alA_iff.mpr ⟨b, d⟩]
      · rw [c, Option.bind_some, if_pos rfl]
        exact no (by rw [← Bool.not_eq_true, alA_iff]; exact fun z => d z.2)
    · rw [a, Option.bind_some]
      dsimp only [sx_let]
      rw [if_pos rfl]
      exact no (by rw [← Bool.not_eq_true, alA_iff]; exact fun z => b z.1)
end PL
