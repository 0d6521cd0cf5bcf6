/-! count, side by side -/
section QC
variable {gs : List Nat} {fs : List (Nat × Nat)} {os : List Nat} {pn : Nat → Int32} {pt : Int32} {se va : Nat → Int64} {ns di od pa st : Nat → Int32} {sp : Nat → Int64} {wd re du dS dC : Int32}
  {mse mne : Nat → Int32} {mon : Nat → Int64} {mdi map : Nat → Int32}
theorem p_c185 (hw : WF gs fs os) (hM : EM gs fs os mse mne mon mdi map) {s : Nat} (hs : s < 2 ^ gs.count 1) : ∀ (k n c q : Nat), c + k = 2 ^ gs.count 0 → k < n → L_Mod_count_185 (nI (gs.count 0)) mse (nI s) n (nI q) (nI c) = some (nI (q + (List.range' c k).countP (fun c => (nxG gs fs s c).isNone))) := by
  have hI := hw.2.1
  have hp4 := pow4 hI
  have hp8 := pow8 hw.2.2.1
  have hB := TM_TB hM.1
  intro k
  induction k with
  | zero =>
    intro n c q h1 h2
    obtain ⟨n, rfl⟩ : ∃ z, n = z + 1 := ⟨n - 1, by omega⟩
    rw [L_Mod_count_185, p_mchoices (by omega), Option.bind_some, if_pos ((nI_leI (by omega) (by omega)).mpr (by omega))]
    rfl
  | succ k ih =>
    intro n c q h1 h2
    obtain ⟨n, rfl⟩ : ∃ z, n = z + 1 := ⟨n - 1, by omega⟩
    rw [L_Mod_count_185, p_mchoices (by omega), Option.bind_some, if_neg (by rw [nI_leI (by omega) (by omega)]; omega), i16m, gd_nI (show 16 * s + c < 4096 by omega) (by decide), nI_clamp (by omega), nI_1, nI_1, List.range'_succ, List.countP_cons]
    cases e : nxG gs fs s c with
    | none =>
      rw [if_pos ((hB s hs c (by omega)).1 e), ih n (c + 1) (q + 1) (by omega) (by omega), if_pos (show (none : Option Nat).isNone = true from rfl), Nat.add_assoc, Nat.add_comm 1]
    | some t =>
      rw [if_neg (by rw [((hB s hs c (by omega)).2 t e).1]; decide), ih n (c + 1) q (by omega) (by omega)]
      rfl
def mxS (gs : List Nat) (fs : List (Nat × Nat)) (b s : Nat) : Nat := if s ∈ (WG gs fs).1 ∧ b < (WG gs fs).2.1 s then (WG gs fs).2.1 s else b
theorem p_c112 (hw : WF gs fs os) (hM : EM gs fs os mse mne mon mdi map) {N : Nat → Nat} (hN : NG gs fs os N) : ∀ (k n i a b c d : Nat), i + k = 2 ^ gs.count 1 → k < n → b < 1000 →
    L_Mod_count_112 (nI (gs.count 0)) (nI (gs.count 1)) mse mdi map n (nI a) (nI b) (nI c) (nI d) (nI i) = some (nI (a + (List.range' i k).countP (fun s => decide (s ∈ (WG gs fs).1))), nI ((List.range' i k).foldl (mxS gs fs) b), nI (c + nPt (rdK gs fs (nvF gs fs)) N i k), nI (d + ((List.range' i k).map (fun s => if s ∈ (WG gs fs).1 then uN (nxG gs fs) (2 ^ gs.count 0) s else 0)).sum)) := by
  have hK := hw.2.2.1
  have hp4 := pow4 hw.2.1
  have hp8 := pow8 hK
  have hIA := WG_IA (fs := fs) hw
  have hlen := WG_len (fs := fs) hw
  intro k
  induction k with
  | zero =>
    intro n i a b c d h1 h2 hb
    obtain ⟨n, rfl⟩ : ∃ z, n = z + 1 := ⟨n - 1, by omega⟩
    rw [L_Mod_count_112, p_mstates hK, Option.bind_some, if_pos ((nI_leI (by omega) (by omega)).mpr (by omega))]
    rfl
  | succ k ih =>
    intro n i a b c d h1 h2 hb
    obtain ⟨n, rfl⟩ : ∃ z, n = z + 1 := ⟨n - 1, by omega⟩
    have hi : i < 2 ^ gs.count 1 := by omega
    rw [L_Mod_count_112, p_mstates hK, Option.bind_some, if_neg (by rw [nI_leI (by omega) (by omega)]; omega)]
    simp only [sx_let, gd_nI (show i < 256 by omega) (show 256 < 2 ^ 31 by decide), nI_clamp (show i < 2 ^ 31 by omega), nI_1]
    rw [List.range'_succ, List.countP_cons, List.foldl_cons, List.map_cons, List.sum_cons, nPt, List.range'_succ, List.countP_cons]
    by_cases c1 : i ∈ (WG gs fs).1
    · have hdl := (hIA.2.1 _ c1).2
      have hNi := (hN.1 i hi (decide_eq_true c1)).1
      have e185 : L_Mod_count_185 (nI (gs.count 0)) mse (nI i) fu (nI d) (0 : Int32) = _ := p_c185 hw hM hi (2 ^ gs.count 0) fu 0 d (by omega) (by rw [fu]; omega)
      have euN : (List.range' 0 (2 ^ gs.count 0)).countP (fun c => (nxG gs fs i c).isNone) = uN (nxG gs fs) (2 ^ gs.count 0) i := rfl
      rw [euN] at e185
      have er : rdK gs fs (nvF gs fs) i = true := decide_eq_true c1
      rw [if_pos (Int32.not_lt.mp (fun z => (mdi_lt hw hM hi).mp z c1)), p_least hw hM hN hi c1, e185, hM.2.1 i hi, if_pos c1]
      simp only [Option.bind_some, nI_leI (show (WG gs fs).2.1 i < 2 ^ 31 by omega) (show b < 2 ^ 31 by omega), nI_eq (show N i < 2 ^ 31 by omega) (show i < 2 ^ 31 by omega)]
      have fin : ∀ b2 c2, b2 = mxS gs fs b i → c2 = c + (if (rdK gs fs (nvF gs fs) i && decide (N i = i)) = true then 1 else 0) → L_Mod_count_112 (nI (gs.count 0)) (nI (gs.count 1)) mse mdi map n (nI (a + 1)) (nI b2) (nI c2) (nI (d + uN (nxG gs fs) (2 ^ gs.count 0) i)) (nI (i + 1)) = some (nI (a + ((List.range' (i + 1) k).countP (fun s => decide (s ∈ (WG gs fs).1)) + if decide (i ∈ (WG gs fs).1) = true then 1 else 0)), nI ((List.range' (i + 1) k).foldl (mxS gs fs) (mxS gs fs b i)), nI (c + ((List.range' (i + 1) k).countP (fun q => rdK gs fs (nvF gs fs) q && decide (N q = q)) + if (rdK gs fs (nvF gs fs) i && decide (N i = i)) = true then 1 else 0)), nI (d + ((if i ∈ (WG gs fs).1 then uN (nxG gs fs) (2 ^ gs.count 0) i else 0) + ((List.range' (i + 1) k).map (fun s => if s ∈ (WG gs fs).1 then uN (nxG gs fs) (2 ^ gs.count 0) s else 0)).sum))) := by
        intro b2 c2 hb2 hc2
        have hb3 : mxS gs fs b i < 1000 := by rw [mxS]; split <;> omega
        rw [ih n (i + 1) (a + 1) b2 c2 (d + uN (nxG gs fs) (2 ^ gs.count 0) i) (by omega) (by omega) (by rw [hb2]; exact hb3), hb2, hc2, if_pos (decide_eq_true c1), if_pos c1, nPt]
        congr 1
        refine Prod.ext ?_ (Prod.ext rfl (Prod.ext ?_ ?_))
        · dsimp only; congr 1; omega
        · dsimp only; congr 1; omega
        · dsimp only; congr 1; omega
      by_cases c2 : (WG gs fs).2.1 i ≤ b
      · rw [if_pos c2]
        have hmx : b = mxS gs fs b i := by rw [mxS, if_neg (by omega)]
        by_cases c3 : N i = i
        · rw [if_pos c3]; exact fin b (c + 1) hmx (by rw [er, decide_eq_true c3]; rfl)
        · rw [if_neg c3]; exact fin b c hmx (by rw [er, decide_eq_false c3]; rfl)
      · rw [if_neg c2]
        have hmx : (WG gs fs).2.1 i = mxS gs fs b i := by rw [mxS, if_pos ⟨c1, by omega⟩]
        by_cases c3 : N i = i
        · rw [if_pos c3]; exact fin _ (c + 1) hmx (by rw [er, decide_eq_true c3]; rfl)
        · rw [if_neg c3]; exact fin _ c hmx (by rw [er, decide_eq_false c3]; rfl)
    · have er : rdK gs fs (nvF gs fs) i = false := decide_eq_false c1
      rw [if_neg (fun z => Int32.not_lt.mpr z ((mdi_lt hw hM hi).mpr c1)), ih n (i + 1) a b c d (by omega) (by omega) hb, if_neg (by simpa using c1), if_neg c1, er, nPt, mxS, if_neg (fun z => c1 z.1)]
      congr 1
      refine Prod.ext rfl (Prod.ext rfl (Prod.ext rfl ?_))
      dsimp only; congr 1; omega
theorem mx_max {l : List Nat} : ∀ {b : Nat}, (b ≤ l.foldl (mxS gs fs) b ∧ ∀ s, s ∈ l → s ∈ (WG gs fs).1 → (WG gs fs).2.1 s ≤ l.foldl (mxS gs fs) b) ∧ (l.foldl (mxS gs fs) b = b ∨ ∃ s, s ∈ (WG gs fs).1 ∧ l.foldl (mxS gs fs) b = (WG gs fs).2.1 s) := by
  induction l with
  | nil => intro b; exact ⟨⟨Nat.le_refl _, fun s hs => absurd hs (by simp)⟩, Or.inl rfl⟩
  | cons x l ih =>
    intro b
    rw [List.foldl_cons]
    obtain ⟨⟨h1, h2⟩, h3⟩ := ih (b := mxS gs fs b x)
    have e : b ≤ mxS gs fs b x ∧ (x ∈ (WG gs fs).1 → (WG gs fs).2.1 x ≤ mxS gs fs b x) ∧ (mxS gs fs b x = b ∨ (x ∈ (WG gs fs).1 ∧ mxS gs fs b x = (WG gs fs).2.1 x)) := by
      rw [mxS]
      split
      · rename_i c; exact ⟨by omega, fun _ => Nat.le_refl _, Or.inr ⟨c.1, rfl⟩⟩
      · rename_i c; exact ⟨Nat.le_refl _, fun z => Classical.byContradiction fun w => c ⟨z, by omega⟩, Or.inl rfl⟩
    refine ⟨⟨Nat.le_trans e.1 h1, fun s hs hr => ?_⟩, ?_⟩
    · rcases List.mem_cons.mp hs with z | z
      · rw [z] at hr ⊢; exact Nat.le_trans (e.2.1 hr) h1
      · exact h2 s z hr
    · rcases h3 with h3 | h3
      · rw [h3]
        rcases e.2.2 with z | ⟨z1, z2⟩
        · exact Or.inl z
        · exact Or.inr ⟨x, z1, z2⟩
      · exact Or.inr h3
theorem q_count (hw : WF gs fs os) {so ra stt li nl ouu : Nat → Int32} {gT iT lT oT : Int32} (hR : RC so ra stt li nl ouu gT iT lT oT gs fs os) {ga fe inp la ou : Int32} {mso mnu mto mfr moo mng : Nat → Int32} (hRM : RM ga fe inp la ou mso mnu mto mfr moo mng gs fs os)
    {x y : Int32} (hX : XX gs fs os pn pt se va ns di od pa st sp wd re du dS dC mse mne mon mdi map x y) (co : Int32) (a : Int32) :
    ∃ b, m_Exp_count stt gT iT lT oT pt di od re du x a = some b ∧ m_Mod_count co ga fe inp la ou y mse mdi map a = some (b, 0) := by
  have hG := hw.1
  have hK := hw.2.2.1
  have hp8 := pow8 hK
  have hF : m_Net_feedTotal stt gT = some (nI fs.length) := by
    rw [m_Net_feedTotal, hR.1, gd_nI (by omega) (by decide), nI_clamp (by omega), hR.2.2.2.2.2.1 _ (Nat.le_refl _), Sf_all (fun f hf => (hw.2.2.2.2.2.1 f hf).1)]
  obtain ⟨rfl, rfl, rfl, rfl, rfl, -⟩ := hRM
  obtain ⟨rfl, rfl, rfl, rfl, -⟩ := hR
  have e9 : (a ≤ (9 : Int32)) ↔ a < nI 10 := by
    have : (9 : Int32).toInt = 9 := by decide
    have : (nI 10).toInt = 10 := by decide
    rw [Int32.le_iff_toInt_le, Int32.lt_iff_toInt_lt]
    omega
  rw [m_Exp_count, m_Mod_count, hF, Option.bind_some]
  rcases ix_cases a (n := 10) (by decide) with h | ⟨j, hj, rfl⟩
  · refine ⟨-1, ?_, ?_⟩
    · have hne : ∀ j : Nat, j < 10 → ¬ a = nI j := by
        intro j hj e
        rcases h with h | h
        · rw [e] at h; exact nI_pos (by omega) h
        · rw [e] at h; exact h ((nI_ltI (by omega) (by decide)).mpr hj)
      rw [if_neg (show ¬ a = (0 : Int32) from hne 0 (by decide)), if_neg (show ¬ a = (1 : Int32) from hne 1 (by decide)), if_neg (show ¬ a = (2 : Int32) from hne 2 (by decide)), if_neg (show ¬ a = (3 : Int32) from hne 3 (by decide)), if_neg (show ¬ a = (4 : Int32) from hne 4 (by decide)), if_neg (show ¬ a = (5 : Int32) from hne 5 (by decide)), if_neg (show ¬ a = (6 : Int32) from hne 6 (by decide)), if_neg (show ¬ a = (7 : Int32) from hne 7 (by decide)), if_neg (show ¬ a = (8 : Int32) from hne 8 (by decide)), if_neg (show ¬ a = (9 : Int32) from hne 9 (by decide))]
    · by_cases c : a < 0
      · rw [if_pos c]
      · rw [if_neg c, if_neg (by rw [e9]; rcases h with h | h; exact absurd h c; exact h)]
  · have hX2 := hX
    rcases (by omega : j = 0 ∨ j = 1 ∨ j = 2 ∨ j = 3 ∨ j = 4 ∨ j = 5 ∨ 6 ≤ j) with e | e | e | e | e | e | h6
    · subst e
      exact ⟨nI gs.length, by rw [if_pos (show nI 0 = (0 : Int32) by decide)], by rw [if_neg (show ¬ nI 0 < (0 : Int32) by decide), if_pos (show nI 0 ≤ (9 : Int32) by decide), if_neg (show ¬ (5 : Int32) ≤ nI 0 by decide), if_pos (show nI 0 = (0 : Int32) by decide)]⟩
    · subst e
      exact ⟨nI fs.length, by rw [if_neg (show ¬ nI 1 = (0 : Int32) by decide), if_pos (show nI 1 = (1 : Int32) by decide)], by rw [if_neg (show ¬ nI 1 < (0 : Int32) by decide), if_pos (show nI 1 ≤ (9 : Int32) by decide), if_neg (show ¬ (5 : Int32) ≤ nI 1 by decide), if_neg (show ¬ nI 1 = (0 : Int32) by decide), if_pos (show nI 1 = (1 : Int32) by decide)]⟩
    · subst e
      exact ⟨nI (gs.count 0), by rw [if_neg (show ¬ nI 2 = (0 : Int32) by decide), if_neg (show ¬ nI 2 = (1 : Int32) by decide), if_pos (show nI 2 = (2 : Int32) by decide)], by rw [if_neg (show ¬ nI 2 < (0 : Int32) by decide), if_pos (show nI 2 ≤ (9 : Int32) by decide), if_neg (show ¬ (5 : Int32) ≤ nI 2 by decide), if_neg (show ¬ nI 2 = (0 : Int32) by decide), if_neg (show ¬ nI 2 = (1 : Int32) by decide), if_pos (show nI 2 = (2 : Int32) by decide)]⟩
    · subst e
      exact ⟨nI (gs.count 1), by rw [if_neg (show ¬ nI 3 = (0 : Int32) by decide), if_neg (show ¬ nI 3 = (1 : Int32) by decide), if_neg (show ¬ nI 3 = (2 : Int32) by decide), if_pos (show nI 3 = (3 : Int32) by decide)], by rw [if_neg (show ¬ nI 3 < (0 : Int32) by decide), if_pos (show nI 3 ≤ (9 : Int32) by decide), if_neg (show ¬ (5 : Int32) ≤ nI 3 by decide), if_neg (show ¬ nI 3 = (0 : Int32) by decide), if_neg (show ¬ nI 3 = (1 : Int32) by decide), if_neg (show ¬ nI 3 = (2 : Int32) by decide), if_pos (show nI 3 = (3 : Int32) by decide)]⟩
    · subst e
      exact ⟨nI os.length, by rw [if_neg (show ¬ nI 4 = (0 : Int32) by decide), if_neg (show ¬ nI 4 = (1 : Int32) by decide), if_neg (show ¬ nI 4 = (2 : Int32) by decide), if_neg (show ¬ nI 4 = (3 : Int32) by decide), if_pos (show nI 4 = (4 : Int32) by decide)], by rw [if_neg (show ¬ nI 4 < (0 : Int32) by decide), if_pos (show nI 4 ≤ (9 : Int32) by decide), if_neg (show ¬ (5 : Int32) ≤ nI 4 by decide), if_neg (show ¬ nI 4 = (0 : Int32) by decide), if_neg (show ¬ nI 4 = (1 : Int32) by decide), if_neg (show ¬ nI 4 = (2 : Int32) by decide), if_neg (show ¬ nI 4 = (3 : Int32) by decide)]⟩
    · subst e
      rcases hX with ⟨rfl, rfl⟩ | ⟨rfl, rfl, _, _⟩
      · exact ⟨0, by rw [if_neg (show ¬ nI 5 = (0 : Int32) by decide), if_neg (show ¬ nI 5 = (1 : Int32) by decide), if_neg (show ¬ nI 5 = (2 : Int32) by decide), if_neg (show ¬ nI 5 = (3 : Int32) by decide), if_neg (show ¬ nI 5 = (4 : Int32) by decide), if_pos (show nI 5 = (5 : Int32) by decide), if_pos rfl], by rw [if_neg (show ¬ nI 5 < (0 : Int32) by decide), if_pos (show nI 5 ≤ (9 : Int32) by decide), if_pos (show (5 : Int32) ≤ nI 5 by decide), if_pos (show nI 5 = (5 : Int32) by decide), if_pos rfl]⟩
      · exact ⟨1, by rw [if_neg (show ¬ nI 5 = (0 : Int32) by decide), if_neg (show ¬ nI 5 = (1 : Int32) by decide), if_neg (show ¬ nI 5 = (2 : Int32) by decide), if_neg (show ¬ nI 5 = (3 : Int32) by decide), if_neg (show ¬ nI 5 = (4 : Int32) by decide), if_pos (show nI 5 = (5 : Int32) by decide), if_neg (show ¬ (1 : Int32) = 0 by decide)], by rw [if_neg (show ¬ nI 5 < (0 : Int32) by decide), if_pos (show nI 5 ≤ (9 : Int32) by decide), if_pos (show (5 : Int32) ≤ nI 5 by decide), if_pos (show nI 5 = (5 : Int32) by decide), if_neg (show ¬ (1 : Int32) = 0 by decide)]⟩
    · rcases hX with ⟨rfl, rfl⟩ | ⟨rfl, rfl, hE, hM⟩
      · rcases (by omega : j = 6 ∨ j = 7 ∨ j = 8 ∨ j = 9) with e | e | e | e <;> subst e
        · exact ⟨0, by rw [if_neg (show ¬ nI 6 = (0 : Int32) by decide), if_neg (show ¬ nI 6 = (1 : Int32) by decide), if_neg (show ¬ nI 6 = (2 : Int32) by decide), if_neg (show ¬ nI 6 = (3 : Int32) by decide), if_neg (show ¬ nI 6 = (4 : Int32) by decide), if_neg (show ¬ nI 6 = (5 : Int32) by decide), if_pos (show nI 6 = (6 : Int32) by decide), if_pos rfl], by rw [if_neg (show ¬ nI 6 < (0 : Int32) by decide), if_pos (show nI 6 ≤ (9 : Int32) by decide), if_pos (show (5 : Int32) ≤ nI 6 by decide), if_neg (show ¬ nI 6 = (5 : Int32) by decide), if_pos rfl, if_pos rfl]⟩
        · exact ⟨0, by rw [if_neg (show ¬ nI 7 = (0 : Int32) by decide), if_neg (show ¬ nI 7 = (1 : Int32) by decide), if_neg (show ¬ nI 7 = (2 : Int32) by decide), if_neg (show ¬ nI 7 = (3 : Int32) by decide), if_neg (show ¬ nI 7 = (4 : Int32) by decide), if_neg (show ¬ nI 7 = (5 : Int32) by decide), if_neg (show ¬ nI 7 = (6 : Int32) by decide), if_pos (show nI 7 = (7 : Int32) by decide), if_pos rfl], by rw [if_neg (show ¬ nI 7 < (0 : Int32) by decide), if_pos (show nI 7 ≤ (9 : Int32) by decide), if_pos (show (5 : Int32) ≤ nI 7 by decide), if_neg (show ¬ nI 7 = (5 : Int32) by decide), if_pos rfl, if_pos rfl]⟩
        · exact ⟨0, by rw [if_neg (show ¬ nI 8 = (0 : Int32) by decide), if_neg (show ¬ nI 8 = (1 : Int32) by decide), if_neg (show ¬ nI 8 = (2 : Int32) by decide), if_neg (show ¬ nI 8 = (3 : Int32) by decide), if_neg (show ¬ nI 8 = (4 : Int32) by decide), if_neg (show ¬ nI 8 = (5 : Int32) by decide), if_neg (show ¬ nI 8 = (6 : Int32) by decide), if_neg (show ¬ nI 8 = (7 : Int32) by decide), if_pos (show nI 8 = (8 : Int32) by decide), if_pos rfl], by rw [if_neg (show ¬ nI 8 < (0 : Int32) by decide), if_pos (show nI 8 ≤ (9 : Int32) by decide), if_pos (show (5 : Int32) ≤ nI 8 by decide), if_neg (show ¬ nI 8 = (5 : Int32) by decide), if_pos rfl, if_pos rfl]⟩
        · exact ⟨0, by rw [if_neg (show ¬ nI 9 = (0 : Int32) by decide), if_neg (show ¬ nI 9 = (1 : Int32) by decide), if_neg (show ¬ nI 9 = (2 : Int32) by decide), if_neg (show ¬ nI 9 = (3 : Int32) by decide), if_neg (show ¬ nI 9 = (4 : Int32) by decide), if_neg (show ¬ nI 9 = (5 : Int32) by decide), if_neg (show ¬ nI 9 = (6 : Int32) by decide), if_neg (show ¬ nI 9 = (7 : Int32) by decide), if_neg (show ¬ nI 9 = (8 : Int32) by decide), if_pos (show nI 9 = (9 : Int32) by decide), if_pos rfl], by rw [if_neg (show ¬ nI 9 < (0 : Int32) by decide), if_pos (show nI 9 ≤ (9 : Int32) by decide), if_pos (show (5 : Int32) ≤ nI 9 by decide), if_neg (show ¬ nI 9 = (5 : Int32) by decide), if_pos rfl, if_pos rfl]⟩
      · have hIA := WG_IA (fs := fs) hw
        have hlen := WG_len (fs := fs) hw
        obtain ⟨N, n1, _, n3⟩ := EX_NG hw hE
        have e112 : L_Mod_count_112 (nI (gs.count 0)) (nI (gs.count 1)) mse mdi map fu (0 : Int32) (0 : Int32) (0 : Int32) (0 : Int32) (0 : Int32) = _ := p_c112 hw hM n1 (2 ^ gs.count 1) fu 0 0 0 0 0 (by omega) (by rw [fu]; omega) (by omega)
        have cc := cnt_in hIA.1 (fun s hs => (hIA.2.1 s hs).1) (fun _ => true)
        have c2 : (List.range' 0 (2 ^ gs.count 1)).countP (fun s => decide (s ∈ (WG gs fs).1)) = (List.range' 0 (2 ^ gs.count 1)).countP (fun s => decide (s ∈ (WG gs fs).1) && true) := by
          congr 1
          funext s
          rw [Bool.and_true]
        have hsum := sum_in (f := uN (nxG gs fs) (2 ^ gs.count 0)) hIA.1 (fun s hs => (hIA.2.1 s hs).1)
        have hgr := p_greatest hp8.2 hE.2.1 hE.2.2.1 hlen.2
        have hil : (WG gs fs).1.length - 1 < (WG gs fs).1.length := by omega
        have hlm : (WG gs fs).1.getD ((WG gs fs).1.length - 1) 0 ∈ (WG gs fs).1 := by rw [getD_at hil]; exact List.getElem_mem _
        have hmx : (List.range' 0 (2 ^ gs.count 1)).foldl (mxS gs fs) 0 = (WG gs fs).2.1 ((WG gs fs).1.getD ((WG gs fs).1.length - 1) 0) := by
          obtain ⟨⟨_, m2⟩, m3⟩ := mx_max (gs := gs) (fs := fs) (l := List.range' 0 (2 ^ gs.count 1)) (b := 0)
          have hup := m2 _ (List.mem_range'_1.mpr ⟨Nat.zero_le _, by have := (hIA.2.1 _ hlm).1; omega⟩) hlm
          apply Nat.le_antisymm _ hup
          rcases m3 with m3 | ⟨s, s1, s2⟩
          · rw [m3]; exact Nat.zero_le _
          · rw [s2]
            have hpw := (walk_least (nx := nxG gs fs) (C := 2 ^ gs.count 0) hp8.2 hp8.1 (fun s _ c _ t ht => nxA_lt ht)).2.1
            obtain ⟨i, hi, e⟩ := List.getElem_of_mem s1
            by_cases z : i = (WG gs fs).1.length - 1
            · rw [getD_at hil]
              subst z
              rw [e]
              exact Nat.le_refl _
            · have := (List.pairwise_iff_getElem.mp hpw) i ((WG gs fs).1.length - 1) hi hil (by omega)
              rw [getD_at hil]
              rw [← e]
              exact this
        rw [c2, cc, List.countP_true, hmx, hsum, ← (WG_DB (fs := fs) hw).2] at e112
        simp only [Nat.zero_add] at e112
        have r4 : re = nI (WG gs fs).1.length := hE.2.1.2.2.2.1
        have r5 : du = nI (WG gs fs).2.2.2.2.1 := hE.2.1.2.2.2.2.1
        rcases (by omega : j = 6 ∨ j = 7 ∨ j = 8 ∨ j = 9) with e | e | e | e <;> subst e
        · exact ⟨nI (WG gs fs).1.length, by rw [if_neg (show ¬ nI 6 = (0 : Int32) by decide), if_neg (show ¬ nI 6 = (1 : Int32) by decide), if_neg (show ¬ nI 6 = (2 : Int32) by decide), if_neg (show ¬ nI 6 = (3 : Int32) by decide), if_neg (show ¬ nI 6 = (4 : Int32) by decide), if_neg (show ¬ nI 6 = (5 : Int32) by decide), if_pos (show nI 6 = (6 : Int32) by decide), if_neg (show ¬ (1 : Int32) = 0 by decide), r4], by rw [if_neg (show ¬ nI 6 < (0 : Int32) by decide), if_pos (show nI 6 ≤ (9 : Int32) by decide), if_pos (show (5 : Int32) ≤ nI 6 by decide), if_neg (show ¬ nI 6 = (5 : Int32) by decide), if_neg (show ¬ (1 : Int32) = 0 by decide), e112, Option.bind_some, if_pos (show nI 6 = (6 : Int32) by decide)]⟩
        · exact ⟨nI ((WG gs fs).2.1 ((WG gs fs).1.getD ((WG gs fs).1.length - 1) 0)), by rw [if_neg (show ¬ nI 7 = (0 : Int32) by decide), if_neg (show ¬ nI 7 = (1 : Int32) by decide), if_neg (show ¬ nI 7 = (2 : Int32) by decide), if_neg (show ¬ nI 7 = (3 : Int32) by decide), if_neg (show ¬ nI 7 = (4 : Int32) by decide), if_neg (show ¬ nI 7 = (5 : Int32) by decide), if_neg (show ¬ nI 7 = (6 : Int32) by decide), if_pos (show nI 7 = (7 : Int32) by decide), if_neg (show ¬ (1 : Int32) = 0 by decide), hgr, Option.bind_some], by rw [if_neg (show ¬ nI 7 < (0 : Int32) by decide), if_pos (show nI 7 ≤ (9 : Int32) by decide), if_pos (show (5 : Int32) ≤ nI 7 by decide), if_neg (show ¬ nI 7 = (5 : Int32) by decide), if_neg (show ¬ (1 : Int32) = 0 by decide), e112, Option.bind_some, if_neg (show ¬ nI 7 = (6 : Int32) by decide), if_pos (show nI 7 = (7 : Int32) by decide)]⟩
        · exact ⟨nI (nPt (rdK gs fs (nvF gs fs)) N 0 (2 ^ gs.count 1)), by rw [if_neg (show ¬ nI 8 = (0 : Int32) by decide), if_neg (show ¬ nI 8 = (1 : Int32) by decide), if_neg (show ¬ nI 8 = (2 : Int32) by decide), if_neg (show ¬ nI 8 = (3 : Int32) by decide), if_neg (show ¬ nI 8 = (4 : Int32) by decide), if_neg (show ¬ nI 8 = (5 : Int32) by decide), if_neg (show ¬ nI 8 = (6 : Int32) by decide), if_neg (show ¬ nI 8 = (7 : Int32) by decide), if_pos (show nI 8 = (8 : Int32) by decide), if_neg (show ¬ (1 : Int32) = 0 by decide), n3], by rw [if_neg (show ¬ nI 8 < (0 : Int32) by decide), if_pos (show nI 8 ≤ (9 : Int32) by decide), if_pos (show (5 : Int32) ≤ nI 8 by decide), if_neg (show ¬ nI 8 = (5 : Int32) by decide), if_neg (show ¬ (1 : Int32) = 0 by decide), e112, Option.bind_some, if_neg (show ¬ nI 8 = (6 : Int32) by decide), if_neg (show ¬ nI 8 = (7 : Int32) by decide), if_pos (show nI 8 = (8 : Int32) by decide)]⟩
        · exact ⟨nI (WG gs fs).2.2.2.2.1, by rw [if_neg (show ¬ nI 9 = (0 : Int32) by decide), if_neg (show ¬ nI 9 = (1 : Int32) by decide), if_neg (show ¬ nI 9 = (2 : Int32) by decide), if_neg (show ¬ nI 9 = (3 : Int32) by decide), if_neg (show ¬ nI 9 = (4 : Int32) by decide), if_neg (show ¬ nI 9 = (5 : Int32) by decide), if_neg (show ¬ nI 9 = (6 : Int32) by decide), if_neg (show ¬ nI 9 = (7 : Int32) by decide), if_neg (show ¬ nI 9 = (8 : Int32) by decide), if_pos (show nI 9 = (9 : Int32) by decide), if_neg (show ¬ (1 : Int32) = 0 by decide), r5], by rw [if_neg (show ¬ nI 9 < (0 : Int32) by decide), if_pos (show nI 9 ≤ (9 : Int32) by decide), if_pos (show (5 : Int32) ≤ nI 9 by decide), if_neg (show ¬ nI 9 = (5 : Int32) by decide), if_neg (show ¬ (1 : Int32) = 0 by decide), e112, Option.bind_some, if_neg (show ¬ nI 9 = (6 : Int32) by decide), if_neg (show ¬ nI 9 = (7 : Int32) by decide), if_neg (show ¬ nI 9 = (8 : Int32) by decide)]⟩
end QC
