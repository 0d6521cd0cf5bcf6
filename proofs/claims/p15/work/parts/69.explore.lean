/-! explore, side by side -/
section QE
variable {so ra stt li nl ou : Nat → Int32} {gT iT lT oT : Int32} {ga fe inp la mou : Int32} {mso mnu mto mfr moo mng : Nat → Int32} {gs : List Nat} {fs : List (Nat × Nat)} {os : List Nat} {pn : Nat → Int32} {pt : Int32} {se va : Nat → Int64} {ns di od pa st : Nat → Int32} {sp : Nat → Int64} {wd re du dS dC : Int32}
  {mse mne : Nat → Int32} {mon : Nat → Int64} {mdi map : Nat → Int32}
theorem q_explore (hw : WF gs fs os) (hR : RC so ra stt li nl ou gT iT lT oT gs fs os) (hM : RM ga fe inp la mou mso mnu mto mfr moo mng gs fs os) {x y : Int32} (hX : XX gs fs os pn pt se va ns di od pa st sp wd re du dS dC mse mne mon mdi map x y) (pf pb : Nat → Int32) (kn : Nat → Int64) (co : Int32) (mv ma : Nat → Int32) :
    ∃ r v, m_Exp_explore so ra stt li nl ou gT iT lT oT pn pf pb pt kn se va ns di od pa st sp wd re du dS dC x = some r ∧ m_Mod_explore co ga fe inp la mou mso mnu mv ma mto mfr moo mng y mse mne mon mdi map = some v ∧ r.1 = v.1 ∧ v.2.1 = 0 ∧
      XX gs fs os r.2.1 r.2.2.2.2.1 r.2.2.2.2.2.2.1 r.2.2.2.2.2.2.2.1 r.2.2.2.2.2.2.2.2.1 r.2.2.2.2.2.2.2.2.2.1 r.2.2.2.2.2.2.2.2.2.2.1 r.2.2.2.2.2.2.2.2.2.2.2.1 r.2.2.2.2.2.2.2.2.2.2.2.2.1 r.2.2.2.2.2.2.2.2.2.2.2.2.2.1 r.2.2.2.2.2.2.2.2.2.2.2.2.2.2.1 r.2.2.2.2.2.2.2.2.2.2.2.2.2.2.2.1 r.2.2.2.2.2.2.2.2.2.2.2.2.2.2.2.2.1 r.2.2.2.2.2.2.2.2.2.2.2.2.2.2.2.2.2.1 r.2.2.2.2.2.2.2.2.2.2.2.2.2.2.2.2.2.2.1 v.2.2.2.2.2.1 v.2.2.2.2.2.2.1 v.2.2.2.2.2.2.2.1 v.2.2.2.2.2.2.2.2.1 v.2.2.2.2.2.2.2.2.2 r.2.2.2.2.2.2.2.2.2.2.2.2.2.2.2.2.2.2.2 v.2.2.2.2.1 := by
  obtain ⟨v, m1, m2, m3, m4, m5⟩ := p_mexplore hw hM co mv ma y mse mne mon mdi map
  rcases hX with ⟨rfl, rfl⟩ | ⟨rfl, rfl, hE, _⟩
  · obtain ⟨r, c1, c2, c3, c4⟩ := p_explore0 hR hw (nv_RC hR hw) pn pf pb pt kn se va ns di od pa st sp wd re du dS dC
    exact ⟨r, v, c1, m1, by rw [c2, m2], m3, Or.inr ⟨c4, m4, c3, m5⟩⟩
  · refine ⟨_, v, by rw [m_Exp_explore, if_neg (show ¬ (1 : Int32) = 0 by decide)], m1, ?_, m3, Or.inr ⟨rfl, m4, hE, m5⟩⟩
    show re = v.1
    rw [m2]
    exact hE.2.1.2.2.2.1
end QE
