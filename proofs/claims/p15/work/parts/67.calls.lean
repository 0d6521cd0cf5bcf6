/-! THE NET'S CALLS, side by side -/
section QN
variable {so ra st li nl ou : Nat → Int32} {gT iT lT oT : Int32} {ga fe inp la mou : Int32} {mso mnu mto mfr moo mng : Nat → Int32} {gs : List Nat} {fs : List (Nat × Nat)} {os : List Nat}
theorem RM_gate {q : Nat} (hR : RM ga fe inp la mou mso mnu mto mfr moo mng gs fs os) (hq : q ≤ 3) {nu2 : Nat → Int32} (h1 : ∀ g, g < gs.length → nu2 g = mnu g) (h2 : q ≤ 1 → nu2 gs.length = nI (gs.count q)) :
    RM (nI (gs.length + 1)) fe (if q = 0 then nI (gs.count 0 + 1) else inp) (if q = 1 then nI (gs.count 1 + 1) else la) mou (upd mso gs.length (nI q)) nu2 mto mfr moo mng (gs ++ [q]) fs os := by
  obtain ⟨rfl, rfl, rfl, rfl, rfl, hso, hfs, hoo⟩ := hR
  have hcnt : ∀ k, (gs ++ [q]).count k = gs.count k + if q = k then 1 else 0 := by
    intro k
    rw [List.count_append]
    by_cases e : q = k
    · subst e; simp
    · rw [if_neg e, List.count_eq_zero_of_not_mem (l := [q]) (by simp; omega)]
  refine ⟨by simp, rfl, ?_, ?_, rfl, fun g hg => ?_, hfs, hoo⟩
  · rw [hcnt]; split <;> rfl
  · rw [hcnt]; split <;> rfl
  · have hg' : g < gs.length + 1 := by simpa using hg
    rcases Nat.lt_or_ge g gs.length with c | c
    · rw [gd_app c, rk_app c, upd_eq, if_neg (by omega), h1 g c]
      exact hso g c
    · have : g = gs.length := by omega
      subst this
      rw [gd_last, rk_last, upd_eq, if_pos rfl]
      exact ⟨rfl, h2⟩
theorem q_gate (hw : WF gs fs os) (hR : RC so ra st li nl ou gT iT lT oT gs fs os) (hM : RM ga fe inp la mou mso mnu mto mfr moo mng gs fs os) (x y co : Int32) (out : Nat → Int64) (a : Int32) :
    ∃ r v, m_Law_gate so ra st nl gT iT lT x out a = some r ∧ m_Mod_gate co ga inp la mso mnu y a = some v ∧ v.2.1 = r.1 ∧ (r.1 = 0 → r.2.2.2.2.2.2.2.2.2 0 = v.1.toInt64) ∧
      ∃ g2, WF g2 fs os ∧ RC r.2.1 r.2.2.1 r.2.2.2.1 li r.2.2.2.2.1 ou r.2.2.2.2.2.1 r.2.2.2.2.2.2.1 r.2.2.2.2.2.2.2.1 oT g2 fs os ∧ RM v.2.2.1 fe v.2.2.2.1 v.2.2.2.2.1 mou v.2.2.2.2.2.1 v.2.2.2.2.2.2.1 mto mfr moo mng g2 fs os ∧ ((g2 = gs ∧ r.2.2.2.2.2.2.2.2.1 = x ∧ v.2.2.2.2.2.2.2 = y) ∨ (r.2.2.2.2.2.2.2.2.1 = 0 ∧ v.2.2.2.2.2.2.2 = 0)) := by
  have hG := hw.1
  have hI := hw.2.1
  have hK := hw.2.2.1
  have e3 : (a ≤ (3 : Int32)) ↔ a < nI 4 := by
    have : (3 : Int32).toInt = 3 := by decide
    have : (nI 4).toInt = 4 := by decide
    rw [Int32.le_iff_toInt_le, Int32.lt_iff_toInt_lt]
    omega
  rcases ix_cases a (n := 4) (by decide) with h | ⟨q, hq, rfl⟩
  · refine ⟨((1 : Int32), so, ra, st, nl, gT, iT, lT, x, out), ((0 : Int32), (1 : Int32), ga, inp, la, mso, mnu, y), ?_, ?_, rfl, fun z => absurd z (show ¬ (1 : Int32) = 0 by decide), gs, hw, hR, hM, Or.inl ⟨rfl, rfl, rfl⟩⟩
    · rw [m_Law_gate, m_Exp_gate]
      by_cases c : a < 0
      · rw [if_pos c]; rfl
      · rw [if_neg c, if_neg (by rw [e3]; rcases h with h | h; exact absurd h c; exact h)]; rfl
    · rw [m_Mod_gate]
      simp only [sx_let]
      by_cases c : a < 0
      · rw [if_pos c, fails_1]; rfl
      · rw [if_neg c, if_neg (by rw [e3]; rcases h with h | h; exact absurd h c; exact h), fails_1]; rfl
  · have hq3 : q ≤ 3 := by omega
    have ei : iT = nI (gs.count 0) := hR.2.1
    have el : lT = nI (gs.count 1) := hR.2.2.1
    have eg : gT = nI gs.length := hR.1
    have mg : ga = nI gs.length := hM.1
    have mi : inp = nI (gs.count 0) := hM.2.2.1
    have ml : la = nI (gs.count 1) := hM.2.2.2.1
    have hfull := p_isFullFor hG hI hK hq3
    have l3 : nI q ≤ (3 : Int32) := e3.mpr ((nI_ltI (by omega) (by decide)).mpr hq)
    have e60 : (nI gs.length = (60 : Int32)) ↔ gs.length = 60 := by rw [i60]; exact nI_eq (by omega) (by decide)
    have e4 : (nI (gs.count 0) = (4 : Int32)) ↔ gs.count 0 = 4 := by rw [i4]; exact nI_eq (by omega) (by decide)
    have e8 : (nI (gs.count 1) = (8 : Int32)) ↔ gs.count 1 = 8 := by rw [i8]; exact nI_eq (by omega) (by decide)
    by_cases c : 60 ≤ gs.length ∨ (q = 0 ∧ 4 ≤ gs.count 0) ∨ (q = 1 ∧ 8 ≤ gs.count 1)
    · refine ⟨((0 : Int32), so, ra, st, nl, gT, iT, lT, x, vp_updL out 0 (-1 : Int32).toInt64), ((-1 : Int32), (0 : Int32), ga, inp, la, mso, mnu, y), ?_, ?_, rfl, fun _ => out0 (o := out), gs, hw, hR, hM, Or.inl ⟨rfl, rfl, rfl⟩⟩
      · rw [m_Law_gate, m_Exp_gate, if_neg (nI_pos (by omega)), if_pos l3, eg, ei, el, hfull, if_pos c, Option.bind_some, if_neg (by decide), Option.bind_some, se_r, in01, cl0]
      · rw [m_Mod_gate]
        simp only [sx_let]
        rw [if_neg (nI_pos (by omega)), if_pos l3, fails_0, Option.bind_some, if_pos rfl, mg, mi, ml]
        simp only [e60, e4, e8, q0 (show q < 2 ^ 31 by omega), q1 (show q < 2 ^ 31 by omega)]
        by_cases z : gs.length = 60
        · rw [if_pos z]
        · rw [if_neg z]
          by_cases z0 : q = 0
          · rw [if_pos z0, if_pos (by omega)]
          · rw [if_neg z0, if_pos (show q = 1 by omega), if_pos (by omega)]
    · obtain ⟨v, v1, v2, v3, v4⟩ := RC_gate hR hw hq3 c
      have hnu : ∀ z : Int32, (q ≤ 1 → z = nI (gs.count q)) → ∃ w, w = z := fun z _ => ⟨z, rfl⟩
      have hlaw : m_Law_gate so ra st nl gT iT lT x out (nI q) = some ((0 : Int32), v.2.1, v.2.2.1, v.2.2.2.1, v.2.2.2.2.1, v.2.2.2.2.2.1, v.2.2.2.2.2.2.1, v.2.2.2.2.2.2.2, (0 : Int32), vp_updL out 0 v.1.toInt64) := by
        rw [eg, ei, el] at v1
        rw [m_Law_gate, m_Exp_gate, if_neg (nI_pos (by omega)), if_pos l3, eg, ei, el, hfull, if_neg c, Option.bind_some, if_pos rfl, v1, Option.bind_some, Option.bind_some, se_r, in01, cl0]
      have fin : ∀ (i2 l2 nz : Int32), i2 = (if q = 0 then nI (gs.count 0 + 1) else inp) → l2 = (if q = 1 then nI (gs.count 1 + 1) else la) → (q ≤ 1 → nz = nI (gs.count q)) → m_Mod_gate co ga inp la mso mnu y (nI q) = some (nI gs.length, (0 : Int32), nI (gs.length + 1), i2, l2, upd mso gs.length (nI q), upd mnu gs.length nz, (0 : Int32)) →
          ∃ r v, m_Law_gate so ra st nl gT iT lT x out (nI q) = some r ∧ m_Mod_gate co ga inp la mso mnu y (nI q) = some v ∧ v.2.1 = r.1 ∧ (r.1 = 0 → r.2.2.2.2.2.2.2.2.2 0 = v.1.toInt64) ∧
      ∃ g2, WF g2 fs os ∧ RC r.2.1 r.2.2.1 r.2.2.2.1 li r.2.2.2.2.1 ou r.2.2.2.2.2.1 r.2.2.2.2.2.2.1 r.2.2.2.2.2.2.2.1 oT g2 fs os ∧ RM v.2.2.1 fe v.2.2.2.1 v.2.2.2.2.1 mou v.2.2.2.2.2.1 v.2.2.2.2.2.2.1 mto mfr moo mng g2 fs os ∧ ((g2 = gs ∧ r.2.2.2.2.2.2.2.2.1 = x ∧ v.2.2.2.2.2.2.2 = y) ∨ (r.2.2.2.2.2.2.2.2.1 = 0 ∧ v.2.2.2.2.2.2.2 = 0)) := by
        intro i2 l2 nz hi2 hl2 hnz hm
        refine ⟨_, _, hlaw, hm, rfl, fun _ => ?_, gs ++ [q], v4, v3, ?_, Or.inr ⟨rfl, rfl⟩⟩
        · show vp_updL out 0 v.1.toInt64 0 = (nI gs.length).toInt64
          rw [out0, v2]
        · show RM (nI (gs.length + 1)) fe i2 l2 mou (upd mso gs.length (nI q)) (upd mnu gs.length nz) mto mfr moo mng (gs ++ [q]) fs os
          rw [hi2, hl2]
          exact RM_gate hM hq3 (fun g hg => by rw [upd_eq, if_neg (by omega)]) (fun z => by rw [upd_eq, if_pos rfl]; exact hnz z)
      have hsub : nI (gs.length + 1) - (1 : Int32) = nI gs.length := nI_pred _
      have hmod : ∀ (i2 l2 nz : Int32), (if q = 0 then nI (gs.count 0 + 1) else nI (gs.count 0)) = i2 → (if q = 1 then nI (gs.count 1 + 1) else nI (gs.count 1)) = l2 → (if q = 0 then nI (gs.count 0) else if q = 1 then nI (gs.count 1) else -1) = nz → m_Mod_gate co ga inp la mso mnu y (nI q) = some (nI gs.length, (0 : Int32), nI (gs.length + 1), i2, l2, upd mso gs.length (nI q), upd mnu gs.length nz, (0 : Int32)) := by
        intro i2 l2 nz h1 h2 h3
        rw [m_Mod_gate]
        simp only [sx_let]
        rw [if_neg (nI_pos (by omega)), if_pos l3, fails_0, Option.bind_some, if_pos rfl, mg, mi, ml]
        simp only [e60, e4, e8, q0 (show q < 2 ^ 31 by omega), q1 (show q < 2 ^ 31 by omega), gd_nI (show gs.length < 60 by omega) (show 60 < 2 ^ 31 by decide), nI_clamp (show gs.length < 2 ^ 31 by omega), nI_1, hsub]
        rw [if_neg (show ¬ gs.length = 60 by omega)]
        by_cases z0 : q = 0
        · rw [if_pos z0] at h1 h3
          rw [if_neg (show ¬ q = 1 by omega)] at h2
          simp only [if_pos z0, if_neg (show ¬ gs.count 0 = 4 by omega), if_neg (show ¬ q = 1 by omega), h1, h2, h3]
        · rw [if_neg z0] at h1 h3
          by_cases z1 : q = 1
          · rw [if_pos z1] at h2 h3
            simp only [if_neg z0, if_pos z1, if_neg (show ¬ gs.count 1 = 8 by omega), h1, h2, h3]
          · rw [if_neg z1] at h2 h3
            simp only [if_neg z0, if_neg z1, h1, h2, h3]
      refine fin _ _ _ ?_ ?_ ?_ (hmod _ _ _ rfl rfl rfl)
      · rw [mi]
      · rw [ml]
      · intro z
        rcases (by omega : q = 0 ∨ q = 1) with e | e
        · rw [if_pos e, e]
        · rw [if_neg (by omega), if_pos e, e]
theorem p_fofL {g : Nat} (hF : fs.length ≤ 240) (hg : g < 2 ^ 31) (hG : ∀ f, f ∈ fs → f.1 < 2 ^ 31) (hto : ∀ k, k < fs.length → mto k = nI (fs.getD k (0, 0)).1) : ∀ (k n i : Nat), i + k = fs.length → k < n → L_Mod_feedsOf_4 (nI fs.length) mto (nI g) n (nI (fOf (fs.take i) g).length) (nI i) = some (nI (fOf fs g).length) := by
  intro k
  induction k with
  | zero =>
    intro n i h1 h2
    obtain ⟨n, rfl⟩ : ∃ z, n = z + 1 := ⟨n - 1, by omega⟩
    rw [L_Mod_feedsOf_4, if_pos ((nI_leI (by omega) (by omega)).mpr (by omega)), List.take_of_length_le (by omega)]
  | succ k ih =>
    intro n i h1 h2
    obtain ⟨n, rfl⟩ : ∃ z, n = z + 1 := ⟨n - 1, by omega⟩
    have eg : fs.getD i (0, 0) = fs[i]'(by omega) := by rw [List.getD_eq_getElem?_getD, List.getElem?_eq_getElem (by omega)]; rfl
    have hmem : fs.getD i (0, 0) ∈ fs := by rw [eg]; exact List.getElem_mem _
    have ht : fs.take (i + 1) = fs.take i ++ [((fs.getD i (0, 0)).1, (fs.getD i (0, 0)).2)] := by rw [List.take_succ_eq_append_getElem (by omega), eg]
    have hc := ih n (i + 1) (by omega) (by omega)
    rw [ht, fOf_app] at hc
    rw [L_Mod_feedsOf_4, if_neg (by rw [nI_leI (by omega) (by omega)]; omega), gd_nI (by omega) (by decide), nI_clamp (by omega), hto i (by omega), nI_1, nI_1]
    simp only [nI_eq (hG _ hmem) hg]
    by_cases c : (fs.getD i (0, 0)).1 = g
    · rw [if_pos c, List.length_append] at hc
      rw [if_pos c]
      exact hc
    · rw [if_neg c] at hc
      rw [if_neg c]
      exact hc
theorem p_mfeedsOf {g : Nat} (hF : fs.length ≤ 240) (hg : g < 2 ^ 31) (hG : ∀ f, f ∈ fs → f.1 < 2 ^ 31) (hto : ∀ k, k < fs.length → mto k = nI (fs.getD k (0, 0)).1) : m_Mod_feedsOf (nI fs.length) mto (nI g) = some (nI (fOf fs g).length) := by
  have e := p_fofL hF hg hG hto fs.length fu 0 (by omega) (by rw [fu]; omega)
  have e' : L_Mod_feedsOf_4 (nI fs.length) mto (nI g) fu (0 : Int32) (0 : Int32) = _ := e
  rw [m_Mod_feedsOf, e', Option.bind_some]
theorem p_takes (hw : WF gs fs os) (hR : RC so ra st li nl ou gT iT lT oT gs fs os) {t : Nat} (ht : t < gs.length) : m_Net_takesFeed so st (nI t) = some (if gs.getD t 9 = 0 ∨ (gs.getD t 9 = 1 ∧ 0 < (fOf fs t).length) then 0 else 1) := by
  have hG := hw.1
  have h3 := so_le hw ht
  have hF : fs.length ≤ 240 := hw.2.2.2.2.1
  have hS : Sf fs (t + 1) ≤ fs.length := by
    have := Sf_all (G := gs.length) (fs := fs) (fun f hf => (hw.2.2.2.2.2.1 f hf).1)
    rw [← this]; exact Sf_mono (by omega)
  have hst := hR.2.2.2.2.2.1
  have e1 : Sf fs (t + 1) = Sf fs t + (fOf fs t).length := rfl
  rw [m_Net_takesFeed, gd_nI (by omega) (by decide), m_Net_feedsOf, nI_1, gd_nI (show t + 1 < 61 by omega) (by decide), gd_nI (show t < 61 by omega) (by decide), nI_clamp (show t + 1 < 2 ^ 31 by omega), nI_clamp (show t < 2 ^ 31 by omega), (hR.2.2.2.2.1 t ht).1, hst (t + 1) (by omega), hst t (by omega), pk_sub (by omega), Option.bind_some, gd_nI (by omega) (by decide)]
  simp only [q1 (show gs.getD t 9 < 2 ^ 31 by omega), q0 (show gs.getD t 9 < 2 ^ 31 by omega), q0 (show Sf fs (t + 1) - Sf fs t < 2 ^ 31 by omega)]
  by_cases c1 : gs.getD t 9 = 1
  · rw [if_pos c1]
    by_cases c2 : (fOf fs t).length = 0
    · rw [if_pos (by omega), if_neg (by omega)]
    · rw [if_neg (by omega), if_pos (by omega)]
  · rw [if_neg c1]
    by_cases c0 : gs.getD t 9 = 0
    · rw [if_pos c0, if_pos (Or.inl c0)]
    · rw [if_neg c0, if_neg (by omega)]
theorem RM_feed {t l : Nat} (hw : WF gs fs os) (hR : RM ga fe inp la mou mso mnu mto mfr moo mng gs fs os) (hF : fs.length < 240) :
    RM ga (nI (fs.length + 1)) inp la mou mso mnu (upd mto fs.length (nI t)) (upd mfr fs.length (nI (l / 2))) moo (upd mng fs.length (nI (l % 2))) gs (fs ++ [(t, l)]) os := by
  obtain ⟨h1, h2, h3, h4, h5, hso, hfs, hoo⟩ := hR
  refine ⟨h1, by simp, h3, h4, h5, hso, fun k hk => ?_, hoo⟩
  have hk' : k < fs.length + 1 := by simpa using hk
  rw [upd_eq, upd_eq, upd_eq]
  rcases Nat.lt_or_ge k fs.length with c | c
  · have e : (fs ++ [(t, l)]).getD k (0, 0) = fs.getD k (0, 0) := by simp [List.getD_eq_getElem?_getD, List.getElem?_append_left c]
    rw [e, if_neg (by omega), if_neg (by omega), if_neg (by omega)]
    exact hfs k c
  · have : k = fs.length := by omega
    subst this
    have e : (fs ++ [(t, l)]).getD fs.length (0, 0) = (t, l) := by simp [List.getD_eq_getElem?_getD]
    rw [e, if_pos rfl, if_pos rfl, if_pos rfl]
    exact ⟨rfl, rfl, rfl⟩
end QN
