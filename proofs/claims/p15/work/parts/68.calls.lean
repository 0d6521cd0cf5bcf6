/-! feed, output and clear, side by side -/
section QF
variable {so ra st li nl ou : Nat → Int32} {gT iT lT oT : Int32} {ga fe inp la mou : Int32} {mso mnu mto mfr moo mng : Nat → Int32} {gs : List Nat} {fs : List (Nat × Nat)} {os : List Nat}
theorem q_feed (hw : WF gs fs os) (hR : RC so ra st li nl ou gT iT lT oT gs fs os) (hM : RM ga fe inp la mou mso mnu mto mfr moo mng gs fs os) (x y co : Int32) (out : Nat → Int64) (a b : Int32) {ng : Int32} (hng : ng = 0 ∨ ng = 1) :
    ∃ r v, m_Law_feed so ra st li nl gT x out a b ng = some r ∧ m_Mod_feed co ga fe mso mto mfr mng y a b ng = some v ∧ v.2.1 = r.1 ∧ (r.1 = 0 → r.2.2.2.2.2 0 = v.1.toInt64) ∧
      ∃ f2, WF gs f2 os ∧ RC so ra r.2.1 r.2.2.1 r.2.2.2.1 ou gT iT lT oT gs f2 os ∧ RM ga v.2.2.1 inp la mou mso mnu v.2.2.2.1 v.2.2.2.2.1 moo v.2.2.2.2.2.1 gs f2 os ∧ ((f2 = fs ∧ r.2.2.2.2.1 = x ∧ v.2.2.2.2.2.2 = y) ∨ (r.2.2.2.2.1 = 0 ∧ v.2.2.2.2.2.2 = 0)) := by
  have hG := hw.1
  have hF : fs.length ≤ 240 := hw.2.2.2.2.1
  have eg : gT = nI gs.length := hR.1
  have mg : ga = nI gs.length := hM.1
  have mf : fe = nI fs.length := hM.2.1
  have ne1 : ¬ (1 : Int32) = 0 := by decide
  -- no such gate
  have nog : (a < 0 ∨ ¬ a < nI gs.length) ∨ ((∃ t, t < gs.length ∧ a = nI t) ∧ (b < 0 ∨ ¬ b < nI gs.length)) → ∃ r v, m_Law_feed so ra st li nl gT x out a b ng = some r ∧ m_Mod_feed co ga fe mso mto mfr mng y a b ng = some v ∧ v.2.1 = r.1 ∧ (r.1 = 0 → r.2.2.2.2.2 0 = v.1.toInt64) ∧
      ∃ f2, WF gs f2 os ∧ RC so ra r.2.1 r.2.2.1 r.2.2.2.1 ou gT iT lT oT gs f2 os ∧ RM ga v.2.2.1 inp la mou mso mnu v.2.2.2.1 v.2.2.2.2.1 moo v.2.2.2.2.2.1 gs f2 os ∧ ((f2 = fs ∧ r.2.2.2.2.1 = x ∧ v.2.2.2.2.2.2 = y) ∨ (r.2.2.2.2.1 = 0 ∧ v.2.2.2.2.2.2 = 0)) := by
    intro h
    refine ⟨((1 : Int32), st, li, nl, x, out), ((0 : Int32), (1 : Int32), fe, mto, mfr, mng, y), ?_, ?_, rfl, fun z => absurd z ne1, fs, hw, hR, hM, Or.inl ⟨rfl, rfl, rfl⟩⟩
    · rw [m_Law_feed, m_Exp_feed, eg]
      rcases h with h | ⟨⟨t, ht, rfl⟩, h⟩
      · rw [(rg_no h).1]; rfl
      · rw [(rg_yes hG ht).1, Option.bind_some, se_r, (rg_no h).1]; rfl
    · rw [m_Mod_feed, mg]
      simp only [sx_let]
      rcases h with h | ⟨⟨t, ht, rfl⟩, h⟩
      · rw [(rg_no h).2, Option.bind_some, if_pos rfl, if_pos trivial, if_pos trivial, fails_1]; rfl
      · rw [(rg_yes hG ht).2, Option.bind_some, if_neg ne1, (rg_no h).2, Option.bind_some, if_pos rfl, if_pos trivial, if_pos trivial, fails_1]; rfl
  rcases ix_cases a (n := gs.length) (by omega) with h | ⟨t, ht, rfl⟩
  · exact nog (Or.inl h)
  · rcases ix_cases b (n := gs.length) (by omega) with h | ⟨f, hf, rfl⟩
    · exact nog (Or.inr ⟨⟨t, ht, rfl⟩, h⟩)
    · obtain ⟨e1, e2⟩ := rg_yes hG ht
      obtain ⟨f1, f2⟩ := rg_yes hG hf
      have h3 := so_le hw ht
      have hto : ∀ k, k < fs.length → mto k = nI (fs.getD k (0, 0)).1 := fun k hk => (hM.2.2.2.2.2.2.1 k hk).1
      have hGf : ∀ g, g ∈ fs → g.1 < 2 ^ 31 := fun g hg => by have := (hw.2.2.2.2.2.1 g hg).1; omega
      have hlen : (fOf fs t).length ≤ 240 := by
        rw [fOf, List.length_map]
        exact Nat.le_trans (List.length_filter_le _ _) hF
      have hmf := p_mfeedsOf (g := t) hF (by omega) hGf hto
      have htk := p_takes hw hR ht
      have hms := (hM.2.2.2.2.2.1 t ht).1
      -- the reference's second test
      have hmod : ∀ (P : Prop) [Decidable P], (P ↔ (gs.getD t 9 = 0 ∨ (gs.getD t 9 = 1 ∧ 0 < (fOf fs t).length))) → m_Mod_feed co ga fe mso mto mfr mng y (nI t) (nI f) ng = (m_Mod_fails co 0 (if P then 1 else 0)).bind (fun v6 => (if v6.1 = (0 : Int32) then (if fe = (240 : Int32) then some ((-1 : Int32), v6.2, fe, mto, mfr, mng, y) else gd (vp_in fe 240) (gd (vp_in fe 240) (gd (vp_in fe 240) ((m_Mod_feedsOf (fe + (1 : Int32)) (upd mto fe.toNatClampNeg (nI t)) (nI t)).bind (fun v13 => some (v13, v6.2, fe + (1 : Int32), upd mto fe.toNatClampNeg (nI t), upd mfr fe.toNatClampNeg (nI f), upd mng fe.toNatClampNeg (vp_nar .boolean ng), (0 : Int32))))))) else some ((0 : Int32), v6.2, fe, mto, mfr, mng, y))) := by
        intro P _ hP
        rw [m_Mod_feed, mg]
        simp only [sx_let]
        rw [e2, Option.bind_some, if_neg ne1, f2, Option.bind_some, if_neg ne1, if_neg ne1, if_neg ne1, gd_nI (by omega) (by decide), gd_nI (by omega) (by decide), nI_clamp (by omega), hms]
        simp only [q0 (show gs.getD t 9 < 2 ^ 31 by omega), q1 (show gs.getD t 9 < 2 ^ 31 by omega)]
        by_cases c0 : gs.getD t 9 = 0
        · rw [if_pos c0, if_pos (hP.mpr (Or.inl c0))]
        · rw [if_neg c0]
          by_cases c1 : gs.getD t 9 = 1
          · rw [if_pos c1]
            conv => lhs; rw [mf, hmf, Option.bind_some]
            have le0 : (nI (fOf fs t).length ≤ (0 : Int32)) ↔ (fOf fs t).length = 0 := by rw [i0, nI_leI (by omega) (by decide)]; omega
            simp only [le0]
            by_cases c2 : (fOf fs t).length = 0
            · rw [if_pos c2, if_neg ne1, if_neg (show ¬ P from fun z => by have := hP.mp z; omega), mf]
            · rw [if_neg c2, if_pos (hP.mpr (by omega)), mf]
          · rw [if_neg c1, if_neg ne1, if_neg (show ¬ P from fun z => by have := hP.mp z; omega)]
      by_cases c : gs.getD t 9 = 0 ∨ (gs.getD t 9 = 1 ∧ 0 < (fOf fs t).length)
      · refine ⟨((2 : Int32), st, li, nl, x, out), ((0 : Int32), (2 : Int32), fe, mto, mfr, mng, y), ?_, ?_, rfl, fun z => absurd z (show ¬ (2 : Int32) = 0 by decide), fs, hw, hR, hM, Or.inl ⟨rfl, rfl, rfl⟩⟩
        · rw [m_Law_feed, m_Exp_feed, eg, e1, Option.bind_some, se_r, f1, Option.bind_some, se_r, htk, if_pos c, Option.bind_some, if_pos rfl]; rfl
        · rw [hmod _ Iff.rfl, if_pos c, fails_2]; rfl
      · have hft : m_Net_feedTotal st (nI gs.length) = some (nI fs.length) := by
          rw [m_Net_feedTotal, gd_nI (by omega) (by decide), nI_clamp (by omega), hR.2.2.2.2.2.1 _ (Nat.le_refl _), Sf_all (fun f hf => (hw.2.2.2.2.2.1 f hf).1)]
        have e240 : (nI fs.length < (240 : Int32)) ↔ fs.length < 240 := by rw [i240]; exact nI_ltI (by omega) (by decide)
        have m240 : (nI fs.length = (240 : Int32)) ↔ fs.length = 240 := by rw [i240]; exact nI_eq (by omega) (by decide)
        by_cases c4 : fs.length < 240
        · have h0 : gs.getD t 9 ≠ 0 := fun z => c (Or.inl z)
          have h1 : gs.getD t 9 = 1 → fOf fs t = [] := fun z => List.eq_nil_of_length_eq_zero (by omega)
          obtain ⟨v, v1, v2, v3, v4⟩ := RC_feed (neg := ng) hR hw ht hf h0 h1 c4
          rw [eg] at v1
          have hl2 : (2 * f + if ng = 0 then 0 else 1) / 2 = f := by split <;> omega
          have hl3 : vp_nar .boolean ng = nI ((2 * f + if ng = 0 then 0 else 1) % 2) := by
            rcases hng with z | z
            · subst z; rw [if_pos rfl, nar0, show (2 * f + 0) % 2 = 0 by omega]; rfl
            · subst z; rw [if_neg ne1, nar1, show (2 * f + 1) % 2 = 1 by omega]; rfl
          have hRM2 := RM_feed (t := t) (l := 2 * f + if ng = 0 then 0 else 1) hw hM c4
          rw [hl2, ← hl3] at hRM2
          have hmf2 : m_Mod_feedsOf (nI (fs.length + 1)) (upd mto fs.length (nI t)) (nI t) = some (nI ((fOf fs t).length + 1)) := by
            have z := p_mfeedsOf (mto := upd mto fs.length (nI t)) (g := t) (fs := fs ++ [(t, 2 * f + if ng = 0 then 0 else 1)]) (by rw [List.length_append, List.length_singleton]; omega) (by omega) (fun g hg => by
              rcases List.mem_append.mp hg with w | w
              · exact hGf g w
              · rw [List.mem_singleton.mp w]; show t < 2 ^ 31; omega) (fun k hk => (hRM2.2.2.2.2.2.2.1 k hk).1)
            rw [List.length_append, List.length_singleton, fOf_app, if_pos rfl, List.length_append, List.length_singleton] at z
            exact z
          refine ⟨((0 : Int32), v.2.1, v.2.2.1, v.2.2.2, (0 : Int32), vp_updL out 0 v.1.toInt64), (nI ((fOf fs t).length + 1), (0 : Int32), nI (fs.length + 1), upd mto fs.length (nI t), upd mfr fs.length (nI f), upd mng fs.length (vp_nar .boolean ng), (0 : Int32)), ?_, ?_, rfl, fun _ => ?_, fs ++ [(t, 2 * f + if ng = 0 then 0 else 1)], v4, v3, hRM2, Or.inr ⟨rfl, rfl⟩⟩
          · rw [m_Law_feed, m_Exp_feed, eg, e1, Option.bind_some, se_r, f1, Option.bind_some, se_r, htk, if_neg c, Option.bind_some, if_neg ne1, hft, Option.bind_some, if_pos (e240.mpr c4), v1, Option.bind_some, Option.bind_some, se_r, in01, cl0]
          · rw [hmod _ Iff.rfl, if_neg c, fails_0, Option.bind_some, if_pos rfl, mf, if_neg (fun z => by have := m240.mp z; omega), gd_nI c4 (by decide), gd_nI c4 (by decide), gd_nI c4 (by decide), nI_clamp (by omega), nI_1, hmf2, Option.bind_some]
          · show vp_updL out 0 v.1.toInt64 0 = _
            rw [out0, v2]
        · refine ⟨((0 : Int32), st, li, nl, x, vp_updL out 0 (-1 : Int32).toInt64), ((-1 : Int32), (0 : Int32), fe, mto, mfr, mng, y), ?_, ?_, rfl, fun _ => out0 (o := out), fs, hw, hR, hM, Or.inl ⟨rfl, rfl, rfl⟩⟩
          · rw [m_Law_feed, m_Exp_feed, eg, e1, Option.bind_some, se_r, f1, Option.bind_some, se_r, htk, if_neg c, Option.bind_some, if_neg ne1, hft, Option.bind_some, if_neg (fun z => c4 (e240.mp z)), Option.bind_some, se_r, in01, cl0]
          · rw [hmod _ Iff.rfl, if_neg c, fails_0, Option.bind_some, if_pos rfl, mf, if_pos (m240.mpr (by omega))]
theorem q_output (hw : WF gs fs os) (hR : RC so ra st li nl ou gT iT lT oT gs fs os) (hM : RM ga fe inp la mou mso mnu mto mfr moo mng gs fs os) (x y co : Int32) (out : Nat → Int64) (a : Int32) :
    ∃ r v, m_Law_output ou gT oT x out a = some r ∧ m_Mod_output co ga mou moo y a = some v ∧ v.2.1 = r.1 ∧ (r.1 = 0 → r.2.2.2.2 0 = v.1.toInt64) ∧
      ∃ o2, WF gs fs o2 ∧ RC so ra st li nl r.2.1 gT iT lT r.2.2.1 gs fs o2 ∧ RM ga fe inp la v.2.2.1 mso mnu mto mfr v.2.2.2.1 mng gs fs o2 ∧ ((o2 = os ∧ r.2.2.2.1 = x ∧ v.2.2.2.2 = y) ∨ (r.2.2.2.1 = 0 ∧ v.2.2.2.2 = 0)) := by
  have hG := hw.1
  have hO : os.length ≤ 6 := hw.2.2.2.2.2.2.1
  have eg : gT = nI gs.length := hR.1
  have eo : oT = nI os.length := hR.2.2.2.1
  have mg : ga = nI gs.length := hM.1
  have mo : mou = nI os.length := hM.2.2.2.2.1
  have ne1 : ¬ (1 : Int32) = 0 := by decide
  rcases ix_cases a (n := gs.length) (by omega) with h | ⟨t, ht, rfl⟩
  · refine ⟨((1 : Int32), ou, oT, x, out), ((0 : Int32), (1 : Int32), mou, moo, y), ?_, ?_, rfl, fun z => absurd z ne1, os, hw, hR, hM, Or.inl ⟨rfl, rfl, rfl⟩⟩
    · rw [m_Law_output, m_Exp_output, eg, (rg_no h).1]; rfl
    · rw [m_Mod_output, mg]
      simp only [sx_let]
      rw [(rg_no h).2, Option.bind_some, if_pos rfl, fails_1]; rfl
  · obtain ⟨e1, e2⟩ := rg_yes hG ht
    have e6 : (nI os.length < (6 : Int32)) ↔ os.length < 6 := by rw [i6]; exact nI_ltI (by omega) (by decide)
    have m6 : (nI os.length = (6 : Int32)) ↔ os.length = 6 := by rw [i6]; exact nI_eq (by omega) (by decide)
    by_cases c : os.length < 6
    · have hwf : WF gs fs (os ++ [t]) := by
        obtain ⟨w1, w2, w3, w4, w5, w6, w7, w8⟩ := hw
        refine ⟨w1, w2, w3, w4, w5, w6, by rw [List.length_append, List.length_singleton]; omega, fun o ho => ?_⟩
        rcases List.mem_append.mp ho with z | z
        · exact w8 o z
        · rw [List.mem_singleton.mp z]; exact ht
      have app : ∀ (u : Nat → Int32), (∀ o, o < os.length → u o = nI (os.getD o 0)) → ∀ o, o < (os ++ [t]).length → upd u os.length (nI t) o = nI ((os ++ [t]).getD o 0) := by
        intro u hu o ho
        rw [List.length_append, List.length_singleton] at ho
        rw [upd_eq]
        rcases Nat.lt_or_ge o os.length with z | z
        · rw [if_neg (by omega), hu o z]
          simp [List.getD_eq_getElem?_getD, List.getElem?_append_left z]
        · have : o = os.length := by omega
          subst this
          rw [if_pos rfl]
          simp [List.getD_eq_getElem?_getD]
      have elen : (os ++ [t]).length = os.length + 1 := by rw [List.length_append, List.length_singleton]
      refine ⟨((0 : Int32), upd ou os.length (nI t), nI (os.length + 1), (0 : Int32), vp_updL out 0 (nI (os.length + 1)).toInt64), (nI (os.length + 1), (0 : Int32), nI (os.length + 1), upd moo os.length (nI t), (0 : Int32)), ?_, ?_, rfl, fun _ => out0 (o := out), os ++ [t], hwf, ?_, ?_, Or.inr ⟨rfl, rfl⟩⟩
      · rw [m_Law_output, m_Exp_output, eg, eo, e1, Option.bind_some, se_r, if_pos (e6.mpr c), m_Net_addOutput, gd_nI c (by decide), nI_clamp (by omega), nI_1, Option.bind_some, Option.bind_some, se_r, in01, cl0]
      · rw [m_Mod_output, mg, mo]
        simp only [sx_let]
        rw [e2, Option.bind_some, if_neg ne1, fails_0, Option.bind_some, if_pos rfl, if_neg (fun z => by have := m6.mp z; omega), gd_nI c (by decide), nI_clamp (by omega), nI_1]
      · obtain ⟨r1, r2, r3, r4, r5, r6, r7, r8, r9⟩ := hR
        exact ⟨r1, r2, r3, by rw [elen], r5, r6, r7, r8, app ou r9⟩
      · obtain ⟨r1, r2, r3, r4, r5, r6, r7, r8⟩ := hM
        exact ⟨r1, r2, r3, r4, by rw [elen], r6, r7, app moo r8⟩
    · refine ⟨((0 : Int32), ou, oT, x, vp_updL out 0 (-1 : Int32).toInt64), ((-1 : Int32), (0 : Int32), mou, moo, y), ?_, ?_, rfl, fun _ => out0 (o := out), os, hw, hR, hM, Or.inl ⟨rfl, rfl, rfl⟩⟩
      · rw [m_Law_output, m_Exp_output, eg, eo, e1, Option.bind_some, se_r, if_neg (fun z => c (e6.mp z)), Option.bind_some, se_r, in01, cl0]
      · rw [m_Mod_output, mg, mo]
        simp only [sx_let]
        rw [e2, Option.bind_some, if_neg ne1, fails_0, Option.bind_some, if_pos rfl, if_pos (m6.mpr (by omega))]
theorem WF_nil : WF [] [] [] := ⟨by decide, by decide, by decide, fun s hs => absurd hs (by simp), by decide, fun f hf => absurd hf (by simp), by decide, fun o ho => absurd ho (by simp)⟩
theorem q_clear (hw : WF gs fs os) (hR : RC so ra st li nl ou gT iT lT oT gs fs os) (hM : RM ga fe inp la mou mso mnu mto mfr moo mng gs fs os) (x y co : Int32) :
    ∃ r v, m_Exp_clear gT iT lT oT x = some r ∧ m_Mod_clear co ga fe inp la mou y = some v ∧ r.1 = v.1 ∧ v.2.1 = 0 ∧ RC so ra st li nl ou r.2.1 r.2.2.1 r.2.2.2.1 r.2.2.2.2.1 [] [] [] ∧ RM v.2.2.1 v.2.2.2.1 v.2.2.2.2.1 v.2.2.2.2.2.1 v.2.2.2.2.2.2.1 mso mnu mto mfr moo mng [] [] [] ∧ r.2.2.2.2.2 = 0 ∧ v.2.2.2.2.2.2.2 = 0 := by
  refine ⟨_, _, rfl, rfl, ?_, rfl, ?_, ?_, rfl, rfl⟩
  · show gT = ga
    rw [hR.1, hM.1]
  · refine ⟨rfl, rfl, rfl, rfl, fun g hg => absurd hg (by simp), fun g hg => ?_, fun g hg => absurd hg (by simp), fun g hg => absurd hg (by simp), fun o ho => absurd ho (by simp)⟩
    have : g = 0 := by simpa using hg
    subst this
    exact hR.2.2.2.2.2.1 0 (Nat.zero_le _)
  · exact ⟨rfl, rfl, rfl, rfl, rfl, fun g hg => absurd hg (by simp), fun k hk => absurd hk (by simp), fun o ho => absurd ho (by simp)⟩
end QF
