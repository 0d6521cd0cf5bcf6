/-- m_Net_addGate, where there is room -/
theorem RC_gate {so ra st li nl ou : Nat → Int32} {gT iT lT oT : Int32} {gs : List Nat} {fs : List (Nat × Nat)} {os : List Nat} {q : Nat} (h : RC so ra st li nl ou gT iT lT oT gs fs os) (hw : WF gs fs os) (hq : q ≤ 3) (hn : ¬ (60 ≤ gs.length ∨ (q = 0 ∧ 4 ≤ gs.count 0) ∨ (q = 1 ∧ 8 ≤ gs.count 1))) :
    ∃ v, m_Net_addGate so ra st nl gT iT lT (nI q) = some v ∧ v.1 = nI gs.length ∧ RC v.2.1 v.2.2.1 v.2.2.2.1 li v.2.2.2.2.1 ou v.2.2.2.2.2.1 v.2.2.2.2.2.2.1 v.2.2.2.2.2.2.2 oT (gs ++ [q]) fs os ∧ WF (gs ++ [q]) fs os := by
  obtain ⟨rfl, rfl, rfl, rfl, hso, hst, hli, hnl, hou⟩ := h
  obtain ⟨w1, w2, w3, w4, w5, w6, w7, w8⟩ := hw
  have hG : gs.length < 60 := by omega
  have hfe : fOf fs gs.length = [] := fOf_none fun f hf => (w6 f hf).1
  have hWF : WF (gs ++ [q]) fs os := by
    refine ⟨by simp; omega, ?_, ?_, ?_, w5, ?_, w7, fun o ho => ?_⟩
    · rw [List.count_append]
      by_cases e : q = 0
      · subst e; simp; omega
      · rw [List.count_eq_zero_of_not_mem (l := [q]) (by simp; omega)]; omega
    · rw [List.count_append]
      by_cases e : q = 1
      · subst e; simp; omega
      · rw [List.count_eq_zero_of_not_mem (l := [q]) (by simp; omega)]; omega
    · intro s hs
      rcases List.mem_append.mp hs with h | h
      · exact w4 s h
      · rw [List.mem_singleton.mp h]; exact hq
    · intro f hf
      obtain ⟨a, b, c, d⟩ := w6 f hf
      rw [gd_app a]
      exact ⟨by simp; omega, by simp; omega, c, d⟩
    · have := w8 o ho
      simp; omega
  have e0 : (nI q = (0 : Int32)) ↔ q = 0 := by rw [i0]; exact nI_eq (by omega) (by omega)
  have e1 : (nI q = (1 : Int32)) ↔ q = 1 := by rw [i1]; exact nI_eq (by omega) (by omega)
  have hcl : (nI gs.length).toNatClampNeg = gs.length := nI_clamp (by omega)
  have hcl1 : (nI (gs.length + 1)).toNatClampNeg = gs.length + 1 := nI_clamp (by omega)
  have hclK : (nI (gs.count 1)).toNatClampNeg = gs.count 1 := nI_clamp (by omega)
  have h2G : nI gs.length * (2 : Int32) = nI (2 * gs.length) := by rw [i2, pk_mul, Nat.mul_comm]
  have hcnt : ∀ k, (gs ++ [q]).count k = gs.count k + if q = k then 1 else 0 := by
    intro k
    rw [List.count_append]
    by_cases e : q = k
    · subst e; simp
    · rw [if_neg e, List.count_eq_zero_of_not_mem (l := [q]) (by simp; omega)]
  -- what all three ways share
  have shared : ∀ (ra' nl' : Nat → Int32) (iT' lT' : Int32), iT' = nI ((gs ++ [q]).count 0) → lT' = nI ((gs ++ [q]).count 1) → (∀ g, g < gs.length → ra' g = ra g) → (q ≤ 1 → ra' gs.length = nI (gs.count q)) → (∀ k, k < gs.count 1 → nl' k = nl k) → (q = 1 → nl' (gs.count 1) = nI (2 * gs.length)) →
      RC (upd so gs.length (nI q)) ra' (upd st (gs.length + 1) (st gs.length)) li nl' ou (nI (gs.length + 1)) iT' lT' (nI os.length) (gs ++ [q]) fs os := by
    intro ra' nl' iT' lT' hi hl hr hr2 hn1 hn2
    refine ⟨by simp, hi, hl, rfl, ?_, ?_, ?_, ?_, hou⟩
    · intro g hg
      have hg' : g < gs.length + 1 := by simpa using hg
      rcases Nat.lt_or_ge g gs.length with c | c
      · rw [gd_app c, rk_app c, upd_eq, if_neg (by omega), hr g c]
        exact hso g c
      · have : g = gs.length := by omega
        subst this
        rw [gd_last, rk_last, upd_eq, if_pos rfl]
        exact ⟨rfl, hr2⟩
    · intro g hg
      have hg' : g ≤ gs.length + 1 := by simpa using hg
      rw [upd_eq]
      rcases Nat.lt_or_ge g (gs.length + 1) with c | c
      · rw [if_neg (by omega)]; exact hst g (by omega)
      · have : g = gs.length + 1 := by omega
        subst this
        rw [if_pos rfl, hst _ (Nat.le_refl _), Sf, hfe]
        rfl
    · intro g hg j hj
      have hg' : g < gs.length + 1 := by simpa using hg
      rcases Nat.lt_or_ge g gs.length with c | c
      · exact hli g c j hj
      · have : g = gs.length := by omega
        subst this
        rw [hfe] at hj
        exact absurd hj (by simp)
    · intro g hg hs
      have hg' : g < gs.length + 1 := by simpa using hg
      rcases Nat.lt_or_ge g gs.length with c | c
      · rw [gd_app c] at hs
        rw [rk_app c, hn1 _ (by have := rk_lt c; rw [hs] at this; exact this)]
        exact hnl g c hs
      · have : g = gs.length := by omega
        subst this
        rw [gd_last] at hs
        rw [rk_last, hfe, hs]
        exact hn2 hs
  rw [m_Net_addGate]
  simp (disch := omega) only [sx_let, gd_nI, nI_1, hcl, hcl1, e0, e1]
  by_cases c0 : q = 0
  · subst c0
    simp only [if_pos]
    refine ⟨_, rfl, rfl, ?_, hWF⟩
    dsimp only
    exact shared _ _ _ _ (by rw [hcnt, if_pos rfl]) (by rw [hcnt, if_neg (by decide)]; rfl) (fun g hg => by rw [upd_eq, if_neg (by omega)]) (fun _ => by rw [upd_eq, if_pos rfl]) (fun _ _ => rfl) (fun h => absurd h (by decide))
  · by_cases c1 : q = 1
    · subst c1
      have hk : gs.count 1 < 8 := by omega
      simp only [if_neg c0, if_pos, gd_nI hk (by decide), hclK, h2G]
      refine ⟨_, rfl, rfl, ?_, hWF⟩
      dsimp only
      exact shared _ _ _ _ (by rw [hcnt, if_neg (by decide)]; rfl) (by rw [hcnt, if_pos rfl]) (fun g hg => by rw [upd_eq, if_neg (by omega)]) (fun _ => by rw [upd_eq, if_pos rfl]) (fun k hk2 => by rw [upd_eq, if_neg (by omega)]) (fun _ => by rw [upd_eq, if_pos rfl])
    · simp only [if_neg c0, if_neg c1]
      refine ⟨_, rfl, rfl, ?_, hWF⟩
      dsimp only
      exact shared _ _ _ _ (by rw [hcnt, if_neg c0]; rfl) (by rw [hcnt, if_neg c1]; rfl) (fun _ _ => rfl) (fun h => absurd h (by omega)) (fun _ _ => rfl) (fun h => absurd h c1)
