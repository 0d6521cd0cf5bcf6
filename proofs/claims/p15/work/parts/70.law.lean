/-! THE LAW: every script -/
set_option maxHeartbeats 4000000 in
set_option maxRecDepth 100000 in
theorem law_go (xs : Nat → Int32) (L : Nat) (hL : L ≤ 2048) : ∀ (n i : Nat) {net_sorts net_ranks net_starts net_literals net_nextLiterals net_outputs : Nat → Int32} {net_gateTotal net_inputTotal net_latchTotal net_outputTotal : Int32} {par_names par_finer par_behind : Nat → Int32} {par_total : Int32} {tab_known tab_settled tab_values : Nat → Int64} {tab_nextStates wlk_distances wlk_order wlk_parents wlk_steps : Nat → Int32} {wlk_settledPairs : Nat → Int64} {wlk_words wlk_reached wlk_doubts wlk_doubtState wlk_doubtChoice exp_explored mod_code mod_gates mod_feeds mod_inputs mod_latches mod_outputs : Int32} {mod_sort mod_number mod_value mod_made mod_to mod_from mod_outputOf mod_negated : Nat → Int32} {mod_explored : Int32} {mod_settles mod_next : Nat → Int32} {mod_ones : Nat → Int64} {mod_distance mod_apart mod_leads : Nat → Int32} {out : Nat → Int64} {gs : List Nat} {fs : List (Nat × Nat)} {os : List Nat}, i ≤ L → L + 4 < i + 4 * n → WF gs fs os → RC net_sorts net_ranks net_starts net_literals net_nextLiterals net_outputs net_gateTotal net_inputTotal net_latchTotal net_outputTotal gs fs os → RM mod_gates mod_feeds mod_inputs mod_latches mod_outputs mod_sort mod_number mod_to mod_from mod_outputOf mod_negated gs fs os → XX gs fs os par_names par_total tab_settled tab_values tab_nextStates wlk_distances wlk_order wlk_parents wlk_steps wlk_settledPairs wlk_words wlk_reached wlk_doubts wlk_doubtState wlk_doubtChoice mod_settles mod_next mod_ones mod_distance mod_apart exp_explored mod_explored → L_Law xs L n (nI i) net_sorts net_ranks net_starts net_literals net_nextLiterals net_outputs net_gateTotal net_inputTotal net_latchTotal net_outputTotal par_names par_finer par_behind par_total tab_known tab_settled tab_values tab_nextStates wlk_distances wlk_order wlk_parents wlk_steps wlk_settledPairs wlk_words wlk_reached wlk_doubts wlk_doubtState wlk_doubtChoice exp_explored mod_code mod_gates mod_feeds mod_inputs mod_latches mod_outputs mod_sort mod_number mod_value mod_made mod_to mod_from mod_outputOf mod_negated mod_explored mod_settles mod_next mod_ones mod_distance mod_apart mod_leads out = some 1 := by
  intro n
  induction n with
  | zero => intros; omega
  | succ n ih =>
    intro i net_sorts net_ranks net_starts net_literals net_nextLiterals net_outputs net_gateTotal net_inputTotal net_latchTotal net_outputTotal par_names par_finer par_behind par_total tab_known tab_settled tab_values tab_nextStates wlk_distances wlk_order wlk_parents wlk_steps wlk_settledPairs wlk_words wlk_reached wlk_doubts wlk_doubtState wlk_doubtChoice exp_explored mod_code mod_gates mod_feeds mod_inputs mod_latches mod_outputs mod_sort mod_number mod_value mod_made mod_to mod_from mod_outputOf mod_negated mod_explored mod_settles mod_next mod_ones mod_distance mod_apart mod_leads out gs fs os hiL hf hw hR hM hX
    have hcl : Int32.ofNat L - (4 : Int32) = nI L - nI 4 := rfl
    by_cases hend : L < i + 4
    · have hlt : Int32.ofNat L - (4 : Int32) < nI i := by
        rw [hcl]
        by_cases h4 : L < 4
        · have h1 := pk_sneg (a := L) (b := 4) (by decide) h4
          have h2 := nI_pos' (n := i) (by omega)
          exact Int32.lt_of_lt_of_le h1 h2
        · rw [pk_sub (by omega)]
          exact (nI_ltI (by omega) (by omega)).mpr (by omega)
      rw [L_Law, if_pos hlt]
    · have hnlt : ¬ Int32.ofNat L - (4 : Int32) < nI i := by
        rw [hcl, pk_sub (by omega), nI_ltI (by omega) (by omega)]; omega
      have a1 : nI i + (1 : Int32) = nI (i + 1) := nI_1 i
      have a2 : nI i + (2 : Int32) = nI (i + 2) := by rw [i2, nI_add]
      have a3 : nI i + (3 : Int32) = nI (i + 3) := by rw [i3, nI_add]
      have a4 : nI i + (4 : Int32) = nI (i + 4) := by rw [i4, nI_add]
      obtain rfl := hR.1
      obtain rfl := hR.2.1
      obtain rfl := hR.2.2.1
      obtain rfl := hR.2.2.2.1
      obtain rfl := hM.1
      obtain rfl := hM.2.1
      obtain rfl := hM.2.2.1
      obtain rfl := hM.2.2.2.1
      obtain rfl := hM.2.2.2.2.1
      have hi4 : i + 4 ≤ L := by omega
      have hf4 : L + 4 < (i + 4) + 4 * n := by omega
      have hp1 : ∀ {α : Type} {a : Option α}, gd (vp_in (nI (i + 1)) L) a = a := gd_nI (by omega) (by omega)
      have hp2 : ∀ {α : Type} {a : Option α}, gd (vp_in (nI (i + 2)) L) a = a := gd_nI (by omega) (by omega)
      have hp3 : ∀ {α : Type} {a : Option α}, gd (vp_in (nI (i + 3)) L) a = a := gd_nI (by omega) (by omega)
      have c1 : (nI (i + 1)).toNatClampNeg = i + 1 := nI_clamp (by omega)
      have c2 : (nI (i + 2)).toNatClampNeg = i + 2 := nI_clamp (by omega)
      have c3 : (nI (i + 3)).toNatClampNeg = i + 3 := nI_clamp (by omega)
      rw [L_Law, if_neg hnlt, gd_nI (show i < L by omega) (show L < 2 ^ 31 by omega), nI_clamp (show i < 2 ^ 31 by omega), a1, a2, a3, a4]
      generalize xs i &&& (15 : Int32) = op
      by_cases h0 : op = (0 : Int32)
      · obtain ⟨r, v, e1, e2, e3, e4, g2, f1, f2, f3, f4⟩ := q_gate hw hR hM exp_explored mod_explored mod_code out (xs (i + 1))
        rw [if_pos h0, hp1, c1, e1, Option.bind_some, hp1, e2, Option.bind_some]
        have f5 : XX g2 fs os par_names par_total tab_settled tab_values tab_nextStates wlk_distances wlk_order wlk_parents wlk_steps wlk_settledPairs wlk_words wlk_reached wlk_doubts wlk_doubtState wlk_doubtChoice mod_settles mod_next mod_ones mod_distance mod_apart r.2.2.2.2.2.2.2.2.1 v.2.2.2.2.2.2.2 := by
          rcases f4 with ⟨rfl, f6, f7⟩ | ⟨f6, f7⟩
          · rw [f6, f7]; exact hX
          · exact Or.inl ⟨f6, f7⟩
        exact ih (i + 4) hi4 hf4 f1 f2 f3 f5
      rw [if_neg h0]
      by_cases h1 : op = (1 : Int32)
      · simp only [sx_let]
        rw [if_pos h1, hp1, hp2, hp3, c1, c2, c3]
        by_cases s0 : xs (i + 3) = 0
        · obtain ⟨r, v, e1, e2, e3, e4, f2, f1, g2, g3, f4⟩ := q_feed hw hR hM exp_explored mod_explored mod_code out (xs (i + 1)) (xs (i + 2)) (ng := 0) (Or.inl rfl)
          have f5 : XX gs f2 os par_names par_total tab_settled tab_values tab_nextStates wlk_distances wlk_order wlk_parents wlk_steps wlk_settledPairs wlk_words wlk_reached wlk_doubts wlk_doubtState wlk_doubtChoice mod_settles mod_next mod_ones mod_distance mod_apart r.2.2.2.2.1 v.2.2.2.2.2.2 := by
            rcases f4 with ⟨rfl, f6, f7⟩ | ⟨f6, f7⟩
            · rw [f6, f7]; exact hX
            · exact Or.inl ⟨f6, f7⟩
          rw [if_pos s0, e1, Option.bind_some, hp1, hp2, hp3, if_pos s0, e2, Option.bind_some]
          exact ih (i + 4) hi4 hf4 f1 g2 g3 f5
        · obtain ⟨r, v, e1, e2, e3, e4, f2, f1, g2, g3, f4⟩ := q_feed hw hR hM exp_explored mod_explored mod_code out (xs (i + 1)) (xs (i + 2)) (ng := 1) (Or.inr rfl)
          have f5 : XX gs f2 os par_names par_total tab_settled tab_values tab_nextStates wlk_distances wlk_order wlk_parents wlk_steps wlk_settledPairs wlk_words wlk_reached wlk_doubts wlk_doubtState wlk_doubtChoice mod_settles mod_next mod_ones mod_distance mod_apart r.2.2.2.2.1 v.2.2.2.2.2.2 := by
            rcases f4 with ⟨rfl, f6, f7⟩ | ⟨f6, f7⟩
            · rw [f6, f7]; exact hX
            · exact Or.inl ⟨f6, f7⟩
          rw [if_neg s0, e1, Option.bind_some, hp1, hp2, hp3, if_neg s0, e2, Option.bind_some]
          exact ih (i + 4) hi4 hf4 f1 g2 g3 f5
      rw [if_neg h1]
      by_cases h2 : op = (2 : Int32)
      · obtain ⟨r, v, e1, e2, e3, e4, o2, f1, f2, f3, f4⟩ := q_output hw hR hM exp_explored mod_explored mod_code out (xs (i + 1))
        rw [if_pos h2, hp1, c1, e1, Option.bind_some, hp1, e2, Option.bind_some]
        have f5 : XX gs fs o2 par_names par_total tab_settled tab_values tab_nextStates wlk_distances wlk_order wlk_parents wlk_steps wlk_settledPairs wlk_words wlk_reached wlk_doubts wlk_doubtState wlk_doubtChoice mod_settles mod_next mod_ones mod_distance mod_apart r.2.2.2.1 v.2.2.2.2 := by
          rcases f4 with ⟨rfl, f6, f7⟩ | ⟨f6, f7⟩
          · rw [f6, f7]; exact hX
          · exact Or.inl ⟨f6, f7⟩
        exact ih (i + 4) hi4 hf4 f1 f2 f3 f5
      rw [if_neg h2]
      by_cases h3 : op = (3 : Int32)
      · obtain ⟨r, v, e1, e2, e3, e4, e5, e6, e7, e8⟩ := q_clear hw hR hM exp_explored mod_explored mod_code
        rw [if_pos h3, e1, Option.bind_some, e2, Option.bind_some]
        exact ih (i + 4) hi4 hf4 WF_nil e5 e6 (Or.inl ⟨e7, e8⟩)
      rw [if_neg h3]
      by_cases h4 : op = (4 : Int32)
      · obtain ⟨r, v, e1, e2, e3, e4, e5⟩ := q_explore hw hR hM hX par_finer par_behind tab_known mod_code mod_value mod_made
        rw [if_pos h4, e1, Option.bind_some, e2, Option.bind_some]
        exact ih (i + 4) hi4 hf4 hw hR hM e5
      rw [if_neg h4]
      by_cases h5 : op = (5 : Int32)
      · obtain ⟨k, o, b, e1, e2, e3⟩ := q_distance hw hX mod_code out (xs (i + 1))
        rw [if_pos h5, hp1, c1, e1, Option.bind_some, hp1, e2, Option.bind_some]
        exact ih (i + 4) hi4 hf4 hw hR hM hX
      rw [if_neg h5]
      by_cases h6 : op = (6 : Int32)
      · obtain ⟨k, o, b, e1, e2⟩ := q_way0 hw hX mod_code mod_leads out (xs (i + 1)) (xs (i + 2))
        rw [if_pos h6, hp1, hp2, c1, c2, e1, Option.bind_some, hp1, hp2, e2, Option.bind_some]
        exact ih (i + 4) hi4 hf4 hw hR hM hX
      rw [if_neg h6]
      by_cases h7 : op = (7 : Int32)
      · obtain ⟨k, o, b, e1, e2, e3⟩ := q_many hw hX mod_code out (xs (i + 1))
        rw [if_pos h7, hp1, c1, e1, Option.bind_some, hp1, e2, Option.bind_some]
        exact ih (i + 4) hi4 hf4 hw hR hM hX
      rw [if_neg h7]
      by_cases h8 : op = (8 : Int32)
      · obtain ⟨k, o, b, e1, e2, e3⟩ := q_next hw hX mod_code out (xs (i + 1)) (xs (i + 2))
        rw [if_pos h8, hp1, hp2, c1, c2, e1, Option.bind_some, hp1, hp2, e2, Option.bind_some]
        exact ih (i + 4) hi4 hf4 hw hR hM hX
      rw [if_neg h8]
      by_cases h9 : op = (9 : Int32)
      · obtain ⟨k, o, b, e1, e2, e3⟩ := q_doubt hw hX mod_code out (xs (i + 1))
        rw [if_pos h9, hp1, c1, e1, Option.bind_some, hp1, e2, Option.bind_some]
        exact ih (i + 4) hi4 hf4 hw hR hM hX
      rw [if_neg h9]
      by_cases h10 : op = (10 : Int32)
      · obtain ⟨k, o, b, e1, e2, e3⟩ := q_always hw hX mod_code out (xs (i + 1))
        rw [if_pos h10, hp1, c1, e1, Option.bind_some, hp1, e2, Option.bind_some]
        exact ih (i + 4) hi4 hf4 hw hR hM hX
      rw [if_neg h10]
      by_cases h11 : op = (11 : Int32)
      · obtain ⟨k, o, b, e1, e2, e4, e3⟩ := q_isSame hw hX mod_code out (xs (i + 1)) (xs (i + 2))
        rw [if_pos h11, hp1, hp2, c1, c2, e1, Option.bind_some, hp1, hp2, e2, Option.bind_some]
        exact ih (i + 4) hi4 hf4 hw hR hM hX
      rw [if_neg h11]
      by_cases h12 : op = (12 : Int32)
      · obtain ⟨k, o, b, e1, e2, e3⟩ := q_group hw hX mod_code out (xs (i + 1))
        rw [if_pos h12, hp1, c1, e1, Option.bind_some, hp1, e2, Option.bind_some]
        exact ih (i + 4) hi4 hf4 hw hR hM hX
      rw [if_neg h12]
      by_cases h13 : op = (13 : Int32)
      · obtain ⟨b, e1, e2⟩ := q_count hw hR hM hX mod_code (xs (i + 1))
        rw [if_pos h13, hp1, c1, e1, Option.bind_some, hp1, e2, Option.bind_some, if_pos rfl]
        exact ih (i + 4) hi4 hf4 hw hR hM hX
      rw [if_neg h13]
      exact ih (i + 4) hi4 hf4 hw hR hM hX
theorem RC_0 : RC (fun _ => 0) (fun _ => 0) (fun _ => 0) (fun _ => 0) (fun _ => 0) (fun _ => 0) 0 0 0 0 [] [] [] := by
  refine ⟨rfl, rfl, rfl, rfl, fun g hg => absurd hg (by simp), fun g hg => ?_, fun g hg => absurd hg (by simp), fun g hg => absurd hg (by simp), fun o ho => absurd ho (by simp)⟩
  have h0 : g = 0 := by simpa using hg
  subst h0
  rfl
theorem RM_0 : RM 0 0 0 0 0 (fun _ => 0) (fun _ => 0) (fun _ => 0) (fun _ => 0) (fun _ => 0) (fun _ => 0) [] [] [] := ⟨rfl, rfl, rfl, rfl, rfl, fun g hg => absurd hg (by simp), fun g hg => absurd hg (by simp), fun o ho => absurd ho (by simp)⟩
theorem law_true : sx_law := by
  intro xs L hL
  exact law_go xs L hL fu 0 (Nat.zero_le _) (by rw [fu]; omega) WF_nil RC_0 RM_0 (Or.inl ⟨rfl, rfl⟩)
