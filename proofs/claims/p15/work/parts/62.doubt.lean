/-! doubt, side by side -/
section QD
variable {gs : List Nat} {fs : List (Nat × Nat)} {os : List Nat} {pn : Nat → Int32} {pt : Int32} {se va : Nat → Int64} {ns di od pa st : Nat → Int32} {sp : Nat → Int64} {wd re du dS dC : Int32}
  {mse mne : Nat → Int32} {mon : Nat → Int64} {mdi map : Nat → Int32}
theorem WG_DB (hw : WF gs fs os) : DBq (nxG gs fs) (WG gs fs).2.1 (WG gs fs).2.2.2.2.2 (fun a b => a ∈ (WG gs fs).1 ∧ b < 2 ^ gs.count 0) ∧ (WG gs fs).2.2.2.2.1 = ((WG gs fs).1.map (uN (nxG gs fs) (2 ^ gs.count 0))).sum := by
  have hp8 := pow8 hw.2.2.1
  exact DB_walk hp8.2 (fun s _ c _ t ht => nxA_lt ht) 256 0 begA (by omega) (IA_beg hp8.1) QA_beg (fun s c q => absurd q.1 (by simp)) rfl
theorem q_doubt (hw : WF gs fs os) {x y : Int32} (hX : XX gs fs os pn pt se va ns di od pa st sp wd re du dS dC mse mne mon mdi map x y) (co : Int32) (out : Nat → Int64) (a : Int32) :
    ∃ k o b, m_Law_doubt di dS dC x out a = some (k, o) ∧ m_Mod_doubt co (nI (gs.count 0)) (nI (gs.count 1)) y mse mdi a = some (b, k) ∧ (k = 0 → o 0 = b.toInt64) := by
  have hp4 := pow4 hw.2.1
  have hp8 := pow8 hw.2.2.1
  rw [m_Law_doubt, m_Exp_doubt, m_Mod_doubt]
  simp only [sx_let]
  rcases hX with ⟨rfl, rfl⟩ | ⟨rfl, rfl, hE, hM⟩
  · refine ⟨1, out, 0, by rw [rx_0]; rfl, ?_, fun q => absurd q (by decide)⟩
    rw [if_pos rfl]
    split
    · rw [fails_1]; rfl
    · split
      · rw [fails_1]; rfl
      · rw [fails_1]; rfl
  · have e3 : (a ≤ (2 : Int32)) ↔ a < nI 3 := by
      have : (2 : Int32).toInt = 2 := by decide
      have : (nI 3).toInt = 3 := by decide
      rw [Int32.le_iff_toInt_le, Int32.lt_iff_toInt_lt]
      omega
    rcases ix_cases a (n := 3) (by decide) with h | ⟨w, hwh, rfl⟩
    · refine ⟨2, out, 0, ?_, ?_, fun q => absurd q (by decide)⟩
      · rw [rx_1, Option.bind_some, se_r]
        by_cases c1 : a < 0
        · rw [if_pos c1]; rfl
        · rw [if_neg c1, if_neg (by rw [e3]; rcases h with h | h; exact absurd h c1; exact h)]; rfl
      · rw [if_neg (by decide)]
        by_cases c1 : a < 0
        · rw [if_pos c1, fails_2]; rfl
        · rw [if_neg c1, if_neg (by rw [e3]; rcases h with h | h; exact absurd h c1; exact h), fails_2]; rfl
    · have hIA := WG_IA (fs := fs) hw
      have hlen := WG_len (fs := fs) hw
      have hDB := (WG_DB (fs := fs) hw).1
      have hR := hE.2.1.2.2.2.2.2
      have key : ∃ b : Int32, (if dS = (-1 : Int32) then some (Sum.inr (-1 : Int32)) else (if nI w = (0 : Int32) then gd (vp_in dS 256) (some (Sum.inr (di dS.toNatClampNeg))) else (if nI w = (1 : Int32) then some (Sum.inr dS) else some (Sum.inr dC)))) = some (Sum.inr (α := Nat) b) ∧
          ((L_Mod_doubt_37 (nI (gs.count 0)) (nI (gs.count 1)) mse mdi fu (0 : Int32)).bind (Sum.elim (fun v23 => (if nI w = (0 : Int32) then some (v23.1, (0 : Int32)) else (if nI w = (1 : Int32) then gd (¬ (16 : Int32) = 0) (some (v23.2 / (16 : Int32), (0 : Int32))) else gd (¬ (16 : Int32) = 0) (some (v23.2 - v23.2 / (16 : Int32) * (16 : Int32), (0 : Int32)))))) (fun _ => some ((-1 : Int32), (0 : Int32))))) = some (b, 0) := by
        have m37 := p_d37 hw hM 256 fu 0 (by omega) (by rw [fu]; omega)
        have hDB2 : ∀ D, (WK gs fs (nvF gs fs)).2.2.2.2.2 = D → (match D with
          | none => dS = -1 ∧ dC = -1
          | some d => dS = nI d.1 ∧ dC = nI d.2) := fun D hD => by rw [← hD]; exact hR
        cases eD : (WG gs fs).2.2.2.2.2 with
        | none =>
          have hno := hDB
          rw [eD] at hno
          obtain ⟨r1, _⟩ := hDB2 none eD
          rw [if_pos r1]
          refine ⟨-1, rfl, ?_⟩
          rcases m37 with ⟨e, b, b1, b2, b3, b4, _, _, _⟩ | ⟨_, b2⟩
          · exact absurd (nxA_none.mpr b4.2.2.2) (hno _ _ ⟨b4.1, b4.2.2.1⟩)
          · have b2' : L_Mod_doubt_37 (nI (gs.count 0)) (nI (gs.count 1)) mse mdi fu (0 : Int32) = some (.inr ()) := b2
            rw [b2', Option.bind_some, se_r]
        | some d =>
          rw [eD] at hDB
          obtain ⟨d1, d2, d3⟩ := hDB
          obtain ⟨r1, r2⟩ := hDB2 (some d) eD
          obtain ⟨hin, hcl⟩ := d1
          obtain ⟨hdS, hdL⟩ := hIA.2.1 _ hin
          have hPD : PD gs fs ((WG gs fs).2.1 d.1) (16 * d.1 + d.2) := by
            have z1 : (16 * d.1 + d.2) / 16 = d.1 := by omega
            have z2 : (16 * d.1 + d.2) % 16 = d.2 := by omega
            rw [PD, z1, z2]
            exact ⟨hin, rfl, hcl, nxA_none.mp d2⟩
          rw [if_neg (by rw [r1]; exact m1_ne (by omega)), r1, r2, gd_nI (by omega) (by decide), nI_clamp (by omega), hE.2.1.1 _ hdS, if_pos hin]
          rcases m37 with ⟨e, b, b1, b2, b3, b4, b5, b6, b7⟩ | ⟨b1, _⟩
          · have b7' : L_Mod_doubt_37 (nI (gs.count 0)) (nI (gs.count 1)) mse mdi fu (0 : Int32) = some (.inl (nI e, nI b)) := b7
            have k1 : e ≤ (WG gs fs).2.1 d.1 := Classical.byContradiction fun z => b6 _ (Nat.zero_le _) (show (WG gs fs).2.1 d.1 < e by omega) (16 * d.1 + d.2) (by omega) hPD
            have k2 := d3 (b / 16) (b % 16) ⟨b4.1, b4.2.2.1⟩ (nxA_none.mpr b4.2.2.2)
            have k3 := b4.2.1
            have k4 : (WG gs fs).2.1 d.1 = e := by omega
            have k5 : b ≤ 16 * d.1 + d.2 := Classical.byContradiction fun z => b5 (16 * d.1 + d.2) (by omega) (by rw [← k4]; exact hPD)
            have k6 : d.1 = b / 16 ∧ d.2 = b % 16 := by omega
            rw [b7', Option.bind_some, se_l]
            dsimp only
            have hrem : nI b - nI b / nI 16 * nI 16 = nI (b % 16) := pk_rem (by omega) (by omega) (by omega)
            rw [gd_in (show ¬ (16 : Int32) = 0 by decide), gd_in (show ¬ (16 : Int32) = 0 by decide), i16, hrem, pk_div (by omega) (by omega) (by omega), ← k6.1, ← k6.2]
            have k4' : (WK gs fs (nvF gs fs)).2.1 d.1 = e := k4
            rw [k4']
            by_cases z0 : nI w = (0 : Int32)
            · rw [if_pos z0, if_pos z0]; exact ⟨_, rfl, rfl⟩
            · rw [if_neg z0, if_neg z0]
              by_cases z1 : nI w = (1 : Int32)
              · rw [if_pos z1, if_pos z1]; exact ⟨_, rfl, rfl⟩
              · rw [if_neg z1, if_neg z1]; exact ⟨_, rfl, rfl⟩
          · exact absurd hPD (b1 _ (Nat.zero_le _) (by omega) _ (by omega))
      obtain ⟨b, b1, b2⟩ := key
      refine ⟨0, vp_updL out 0 b.toInt64, b, ?_, ?_, fun _ => by rw [out0]⟩
      · rw [rx_1, Option.bind_some, se_r, if_neg (nI_pos (by omega)), if_pos (by rw [e3]; exact (nI_ltI (by omega) (by decide)).mpr hwh), b1, Option.bind_some, se_r, in01, cl0]
      · rw [if_neg (by decide), if_neg (nI_pos (by omega)), if_pos (by rw [e3]; exact (nI_ltI (by omega) (by decide)).mpr hwh), fails_0, Option.bind_some, if_pos rfl]
        exact b2
end QD
