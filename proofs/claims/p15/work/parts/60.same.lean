/-! isSame; the reference's doubt -/
theorem two_iff {x : Int64} {g h : Nat} (hg : g < 60) (hh : h < 60) : (x &&& (((1 : Int64) <<< ((nI g).toInt64 &&& 63)) ||| ((1 : Int64) <<< ((nI h).toInt64 &&& 63))) = (((1 : Int64) <<< ((nI g).toInt64 &&& 63)) ||| ((1 : Int64) <<< ((nI h).toInt64 &&& 63))) ↔ (bL x g = true ∧ bL x h = true)) ∧ (x &&& (((1 : Int64) <<< ((nI g).toInt64 &&& 63)) ||| ((1 : Int64) <<< ((nI h).toInt64 &&& 63))) = 0 ↔ (bL x g = false ∧ bL x h = false)) := by
  have key : ∀ j, j < 64 → (bL (((1 : Int64) <<< ((nI g).toInt64 &&& 63)) ||| ((1 : Int64) <<< ((nI h).toInt64 &&& 63))) j = true ↔ (j = g ∨ j = h)) := by
    intro j hj
    rw [bL_or, shl1_bit hg hj, shl1_bit hh hj, Bool.or_eq_true, decide_eq_true_eq, decide_eq_true_eq]
  constructor
  · rw [and_full]
    constructor
    · intro q; exact ⟨q g (by omega) ((key g (by omega)).mpr (Or.inl rfl)), q h (by omega) ((key h (by omega)).mpr (Or.inr rfl))⟩
    · intro q j hj z
      rcases (key j hj).mp z with e | e
      · rw [e]; exact q.1
      · rw [e]; exact q.2
  · rw [bL_and0]
    constructor
    · intro q
      have a := q g (by omega)
      have b := q h (by omega)
      rw [(key g (by omega)).mpr (Or.inl rfl)] at a
      rw [(key h (by omega)).mpr (Or.inr rfl)] at b
      exact ⟨by simpa using a, by simpa using b⟩
    · intro q j hj z
      rcases (key j hj).mp z.2 with e | e
      · rw [e, q.1] at z; exact absurd z.1 (by simp)
      · rw [e, q.2] at z; exact absurd z.1 (by simp)
section QS
variable {gs : List Nat} {fs : List (Nat × Nat)} {os : List Nat} {pn : Nat → Int32} {pt : Int32} {se va : Nat → Int64} {ns di od pa st : Nat → Int32} {sp : Nat → Int64} {wd re du dS dC : Int32}
  {mse mne : Nat → Int32} {mon : Nat → Int64} {mdi map : Nat → Int32}
theorem q_isSame (hw : WF gs fs os) {x y : Int32} (hX : XX gs fs os pn pt se va ns di od pa st sp wd re du dS dC mse mne mon mdi map x y) (co : Int32) (out : Nat → Int64) (a c : Int32) :
    ∃ k o b, m_Law_isSame (nI gs.length) va sp wd x out a c = some (k, o) ∧ m_Mod_isSame co (nI gs.length) (nI (gs.count 0)) (nI (gs.count 1)) y mse mon mdi a c = some (b, k) ∧ (b = 0 ∨ b = 1) ∧ (k = 0 → o 0 = b.toInt64) := by
  have hG := hw.1
  have hp8 := pow8 hw.2.2.1
  rw [m_Law_isSame, m_Exp_isSame, m_Mod_isSame]
  simp only [sx_let]
  rcases hX with ⟨rfl, rfl⟩ | ⟨rfl, rfl, hE, hM⟩
  · refine ⟨1, out, 0, by rw [rx_0]; rfl, ?_, Or.inl rfl, fun q => absurd q (by decide)⟩
    rw [if_pos rfl]
    rcases ix_cases a (n := gs.length) (by omega) with h | ⟨g, hg, rfl⟩
    · rw [(rg_no h).2, Option.bind_some, if_pos rfl, fails_1]; rfl
    · rw [(rg_yes hG hg).2, Option.bind_some, if_neg (by decide)]
      rcases ix_cases c (n := gs.length) (by omega) with h | ⟨j, hj, rfl⟩
      · rw [(rg_no h).2, Option.bind_some, if_pos rfl, fails_1]; rfl
      · rw [(rg_yes hG hj).2, Option.bind_some, if_neg (by decide), fails_1]; rfl
  · rcases ix_cases a (n := gs.length) (by omega) with h | ⟨g, hg, rfl⟩
    · obtain ⟨e1, e2⟩ := rg_no h
      exact ⟨2, out, 0, by rw [rx_1, Option.bind_some, se_r, e1]; rfl, by rw [if_neg (by decide), e2, Option.bind_some, if_pos rfl, fails_2]; rfl, Or.inl rfl, fun q => absurd q (by decide)⟩
    · obtain ⟨e1, e2⟩ := rg_yes hG hg
      rcases ix_cases c (n := gs.length) (by omega) with h | ⟨j, hj, rfl⟩
      · obtain ⟨f1, f2⟩ := rg_no h
        exact ⟨2, out, 0, by rw [rx_1, Option.bind_some, se_r, e1, Option.bind_some, se_r, f1]; rfl, by rw [if_neg (by decide), e2, Option.bind_some, if_neg (by decide), f2, Option.bind_some, if_pos rfl, fails_2]; rfl, Or.inl rfl, fun q => absurd q (by decide)⟩
      · obtain ⟨f1, f2⟩ := rg_yes hG hj
        have hI := WG_IA (fs := fs) hw
        have hg60 : g < 60 := by omega
        have hj60 : j < 60 := by omega
        have hwd : wd = nI (wt (gs.count 1)) := hE.2.2.2.2.1
        have hl : ∀ s, s ∈ (WG gs fs).1 → s / 4 < wt (gs.count 1) := fun s hs => wt_of (hI.2.1 s hs).1
        have ev := p_everDiffer (va := va) (wt_le hw.2.2.1).2 hg60 hj60 hE.2.2.2.1 hl
        have conv : (∃ s, s ∈ (WG gs fs).1 ∧ ∃ c, c < 16 ∧ sb se s c = true ∧ vb va g s c ≠ vb va j s c) ↔ ∃ q, q < 16 * 2 ^ gs.count 1 ∧ RSa gs fs q = true ∧ vaN gs fs g (q / 16) (q % 16) ≠ vaN gs fs j (q / 16) (q % 16) := by
          rw [RSa_ex hw (Q := fun s c => vaN gs fs g s c ≠ vaN gs fs j s c) (fun s c hs hc => by rw [vaN_mod hw hs hc, vaN_mod (g := j) hw hs hc])]
          constructor
          · intro ⟨s, hs, c, hc, h1, h2⟩
            have hsS := (hI.2.1 s hs).1
            rw [TI_sb hw hE.1 hsS] at h1
            rw [TI_vb hw hE.1 hsS hg, TI_vb hw hE.1 hsS hj] at h2
            exact ⟨s, hs, c, hc, h1, h2⟩
          · intro ⟨s, hs, c, hc, h1, h2⟩
            have hsS := (hI.2.1 s hs).1
            rw [← TI_sb hw hE.1 hsS] at h1
            rw [← TI_vb hw hE.1 hsS hg, ← TI_vb hw hE.1 hsS hj] at h2
            exact ⟨s, hs, c, hc, h1, h2⟩
        have h1 := p_held hw hM (((1 : Int64) <<< ((nI g).toInt64 &&& 63)) ||| ((1 : Int64) <<< ((nI j).toInt64 &&& 63))) 1
        have h0 := p_held hw hM (((1 : Int64) <<< ((nI g).toInt64 &&& 63)) ||| ((1 : Int64) <<< ((nI j).toInt64 &&& 63))) 0
        have hz := p_held hw hM 0 1
        have b1 := cnt_le16 hp8.2 (fun a => RSa gs fs a && hcB mon (((1 : Int64) <<< ((nI g).toInt64 &&& 63)) ||| ((1 : Int64) <<< ((nI j).toInt64 &&& 63))) 1 a)
        have b0 := cnt_le16 hp8.2 (fun a => RSa gs fs a && hcB mon (((1 : Int64) <<< ((nI g).toInt64 &&& 63)) ||| ((1 : Int64) <<< ((nI j).toInt64 &&& 63))) 0 a)
        have bz := cnt_le16 hp8.2 (fun a => RSa gs fs a && hcB mon 0 1 a)
        have c1 : ∀ a, hcB mon (((1 : Int64) <<< ((nI g).toInt64 &&& 63)) ||| ((1 : Int64) <<< ((nI j).toInt64 &&& 63))) 1 a = (bL (mon a) g && bL (mon a) j) := by
          intro a
          rw [hcB, if_neg (by decide)]
          apply Bool.eq_iff_iff.mpr
          rw [decide_eq_true_eq, (two_iff hg60 hj60).1, Bool.and_eq_true]
        have c0 : ∀ a, hcB mon (((1 : Int64) <<< ((nI g).toInt64 &&& 63)) ||| ((1 : Int64) <<< ((nI j).toInt64 &&& 63))) 0 a = (!bL (mon a) g && !bL (mon a) j) := by
          intro a
          rw [hcB, if_pos rfl]
          apply Bool.eq_iff_iff.mpr
          rw [decide_eq_true_eq, (two_iff hg60 hj60).2, Bool.and_eq_true]
          simp
        have cz : ∀ a, hcB mon 0 1 a = true := by
          intro a
          rw [hcB, if_neg (by decide), decide_eq_true_eq, and_full]
          intro q _ w
          rw [bL_0] at w; cases w
        have two := cnt_two (R := RSa gs fs) (p := hcB mon (((1 : Int64) <<< ((nI g).toInt64 &&& 63)) ||| ((1 : Int64) <<< ((nI j).toInt64 &&& 63))) 1) (q := hcB mon (((1 : Int64) <<< ((nI g).toInt64 &&& 63)) ||| ((1 : Int64) <<< ((nI j).toInt64 &&& 63))) 0) (l := List.range' 0 (16 * 2 ^ gs.count 1)) (fun a _ z => by
          rw [c1] at z
          rw [c0]
          rw [Bool.and_eq_true] at z
          rw [z.1]; rfl)
        have same : ((List.range' 0 (16 * 2 ^ gs.count 1)).countP (fun a => RSa gs fs a && hcB mon (((1 : Int64) <<< ((nI g).toInt64 &&& 63)) ||| ((1 : Int64) <<< ((nI j).toInt64 &&& 63))) 1 a) + (List.range' 0 (16 * 2 ^ gs.count 1)).countP (fun a => RSa gs fs a && hcB mon (((1 : Int64) <<< ((nI g).toInt64 &&& 63)) ||| ((1 : Int64) <<< ((nI j).toInt64 &&& 63))) 0 a) = (List.range' 0 (16 * 2 ^ gs.count 1)).countP (fun a => RSa gs fs a && hcB mon 0 1 a)) ↔ ¬ ∃ q, q < 16 * 2 ^ gs.count 1 ∧ RSa gs fs q = true ∧ vaN gs fs g (q / 16) (q % 16) ≠ vaN gs fs j (q / 16) (q % 16) := by
          rw [two]
          constructor
          · intro e ⟨q, hq, hr, hne⟩
            have := cnt_eq (fun a _ z => by
              rw [Bool.and_eq_true] at z ⊢
              exact ⟨z.1, cz a⟩) e q (List.mem_range'_1.mpr ⟨by omega, by omega⟩) (by rw [hr, cz]; rfl)
            rw [hr, c1, c0, RSa_on hw hM hr hg, RSa_on hw hM hr hj] at this
            apply hne
            revert this
            cases vaN gs fs g (q / 16) (q % 16) <;> cases vaN gs fs j (q / 16) (q % 16) <;> decide
          · intro e
            apply Nat.le_antisymm
            · exact cnt_le (fun a _ z => by
                rw [Bool.and_eq_true] at z ⊢
                exact ⟨z.1, cz a⟩)
            · refine cnt_le (fun a ha z => ?_)
              rw [Bool.and_eq_true] at z ⊢
              refine ⟨z.1, ?_⟩
              have ha2 := List.mem_range'_1.mp ha
              rw [c1, c0, RSa_on hw hM z.1 hg, RSa_on hw hM z.1 hj]
              have : vaN gs fs g (a / 16) (a % 16) = vaN gs fs j (a / 16) (a % 16) := Classical.byContradiction fun w => e ⟨a, by omega, z.1, w⟩
              rw [this]
              cases vaN gs fs j (a / 16) (a % 16) <;> rfl
        generalize (List.range' 0 (16 * 2 ^ gs.count 1)).countP (fun a => RSa gs fs a && hcB mon (((1 : Int64) <<< ((nI g).toInt64 &&& 63)) ||| ((1 : Int64) <<< ((nI j).toInt64 &&& 63))) 1 a) = U at *
        generalize (List.range' 0 (16 * 2 ^ gs.count 1)).countP (fun a => RSa gs fs a && hcB mon (((1 : Int64) <<< ((nI g).toInt64 &&& 63)) ||| ((1 : Int64) <<< ((nI j).toInt64 &&& 63))) 0 a) = D at *
        generalize (List.range' 0 (16 * 2 ^ gs.count 1)).countP (fun a => RSa gs fs a && hcB mon 0 1 a) = T at *
        rw [rx_1, Option.bind_some, se_r, e1, Option.bind_some, se_r, f1, Option.bind_some, se_r, if_neg (by decide), e2, Option.bind_some, if_neg (by decide), f2, Option.bind_some, if_neg (by decide), fails_0, Option.bind_some, if_pos rfl, h1, Option.bind_some, h0, Option.bind_some, hz, Option.bind_some, nI_add, hwd]
        simp only [nI_eq (show U + D < 2 ^ 31 by omega) (show T < 2 ^ 31 by omega), same]
        rcases ev with ⟨p, q⟩ | ⟨p, q⟩
        · rw [p, Option.bind_some, if_neg (by decide), if_neg (fun z => z (conv.mp q)), Option.bind_some, se_r, if_pos rfl, in01, cl0]
          exact ⟨0, _, 0, rfl, rfl, Or.inl rfl, fun _ => by rw [out0]; rfl⟩
        · have hno : ¬ ∃ q, q < 16 * 2 ^ gs.count 1 ∧ RSa gs fs q = true ∧ vaN gs fs g (q / 16) (q % 16) ≠ vaN gs fs j (q / 16) (q % 16) := fun z => by
            obtain ⟨s, hs, c, hc, r1, r2⟩ := conv.mpr z
            exact r2 (q s hs c hc r1)
          rw [p, Option.bind_some, if_pos rfl, if_pos hno, Option.bind_some, se_r, if_neg (by decide), in01, cl0]
          exact ⟨0, _, 1, rfl, rfl, Or.inr rfl, fun _ => by rw [out0]; rfl⟩
/-- a doubt at a distance -/
def PD (gs : List Nat) (fs : List (Nat × Nat)) (d a : Nat) : Prop := a / 16 ∈ (WG gs fs).1 ∧ (WG gs fs).2.1 (a / 16) = d ∧ a % 16 < 2 ^ gs.count 0 ∧ stN gs fs (a / 16) (a % 16) = false
theorem p_d46 (hw : WF gs fs os) (hM : EM gs fs os mse mne mon mdi map) {d : Nat} (hd : d < 1000) : ∀ (k n i : Nat), i + k = 16 * 2 ^ gs.count 1 → k < n →
    (∃ a, i ≤ a ∧ a < 16 * 2 ^ gs.count 1 ∧ PD gs fs d a ∧ (∀ b, i ≤ b → b < a → ¬ PD gs fs d b) ∧ L_Mod_doubt_46 (nI (gs.count 0)) (nI (gs.count 1)) mse mdi (nI d) n (nI i) = some (.inl (nI a))) ∨ ((∀ a, i ≤ a → a < 16 * 2 ^ gs.count 1 → ¬ PD gs fs d a) ∧ L_Mod_doubt_46 (nI (gs.count 0)) (nI (gs.count 1)) mse mdi (nI d) n (nI i) = some (.inr ())) := by
  have hI := hw.2.1
  have hK := hw.2.2.1
  have hp4 := pow4 hI
  have hp8 := pow8 hK
  have hIA := WG_IA (fs := fs) hw
  have hlen := WG_len (fs := fs) hw
  intro k
  induction k with
  | zero =>
    intro n i h1 h2
    obtain ⟨n, rfl⟩ : ∃ z, n = z + 1 := ⟨n - 1, by omega⟩
    rw [L_Mod_doubt_46, p_mstates hK, Option.bind_some, i16, pk_mul, if_pos ((nI_leI (by omega) (by omega)).mpr (by omega))]
    exact Or.inr ⟨fun a h3 h4 => absurd h4 (by omega), rfl⟩
  | succ k ih =>
    intro n i h1 h2
    obtain ⟨n, rfl⟩ : ∃ z, n = z + 1 := ⟨n - 1, by omega⟩
    have hq : i / 16 < 2 ^ gs.count 1 := by omega
    have skip : ¬ PD gs fs d i → (∃ a, i ≤ a ∧ a < 16 * 2 ^ gs.count 1 ∧ PD gs fs d a ∧ (∀ b, i ≤ b → b < a → ¬ PD gs fs d b) ∧ L_Mod_doubt_46 (nI (gs.count 0)) (nI (gs.count 1)) mse mdi (nI d) n (nI (i + 1)) = some (.inl (nI a))) ∨ ((∀ a, i ≤ a → a < 16 * 2 ^ gs.count 1 → ¬ PD gs fs d a) ∧ L_Mod_doubt_46 (nI (gs.count 0)) (nI (gs.count 1)) mse mdi (nI d) n (nI (i + 1)) = some (.inr ())) := by
      intro hno
      rcases ih n (i + 1) (by omega) (by omega) with ⟨a, a1, a2, a3, a4, a5⟩ | ⟨a1, a2⟩
      · refine Or.inl ⟨a, by omega, a2, a3, fun b b1 b2 => ?_, a5⟩
        by_cases z : b = i
        · rw [z]; exact hno
        · exact a4 b (by omega) b2
      · refine Or.inr ⟨fun a b1 b2 => ?_, a2⟩
        by_cases z : a = i
        · rw [z]; exact hno
        · exact a1 a (by omega) b2
    have hrem : nI i - nI (i / 16) * nI 16 = nI (i % 16) := by rw [pk_mul, pk_sub (by omega)]; congr 1; omega
    rw [L_Mod_doubt_46, p_mstates hK, Option.bind_some, i16, pk_mul, if_neg (by rw [nI_leI (by omega) (by omega)]; omega), ← i16, gd_in (by decide), i16, pk_div (by omega) (by omega) (by omega), gd_nI (show i / 16 < 256 by omega) (by decide), nI_clamp (show i / 16 < 2 ^ 31 by omega), hM.2.1 _ hq]
    simp only [hrem, gd_nI (show i < 4096 by omega) (show 4096 < 2 ^ 31 by decide), nI_clamp (show i < 2 ^ 31 by omega), p_mchoices (show gs.count 0 ≤ 8 by omega), Option.bind_some, nI_1, nI_leI (show 2 ^ gs.count 0 < 2 ^ 31 by omega) (show i % 16 < 2 ^ 31 by omega)]
    by_cases c1 : i / 16 ∈ (WG gs fs).1
    · rw [if_pos c1]
      have hdl := (hIA.2.1 _ c1).2
      simp only [nI_eq (show (WG gs fs).2.1 (i / 16) < 2 ^ 31 by omega) (show d < 2 ^ 31 by omega)]
      by_cases c2 : (WG gs fs).2.1 (i / 16) = d
      · rw [if_pos c2, gd_in (by decide)]
        by_cases c3 : 2 ^ gs.count 0 ≤ i % 16
        · rw [if_pos c3]
          exact skip (fun z => by have := z.2.2.1; omega)
        · rw [if_neg c3]
          have hT := (hM.1 (i / 16) hq (i % 16) (by omega)).1
          rw [show 16 * (i / 16) + i % 16 = i by omega] at hT
          rw [hT]
          cases e : stN gs fs (i / 16) (i % 16) with
          | false =>
            rw [if_pos (by simp)]
            exact Or.inl ⟨i, Nat.le_refl _, by omega, ⟨c1, c2, by omega, e⟩, fun b b1 b2 => absurd b2 (by omega), rfl⟩
          | true =>
            rw [if_neg (by simp)]
            exact skip (fun z => by have := z.2.2.2; rw [e] at this; cases this)
      · rw [if_neg c2]
        exact skip (fun z => c2 z.2.1)
    · rw [if_neg c1, if_neg (fun z => m1_ne (by omega) z.symm)]
      exact skip (fun z => c1 z.1)
theorem p_d37 (hw : WF gs fs os) (hM : EM gs fs os mse mne mon mdi map) : ∀ (k n d : Nat), d + k = 256 → k < n →
    (∃ e a, d ≤ e ∧ e < 256 ∧ a < 16 * 2 ^ gs.count 1 ∧ PD gs fs e a ∧ (∀ b, b < a → ¬ PD gs fs e b) ∧ (∀ e2, d ≤ e2 → e2 < e → ∀ b, b < 16 * 2 ^ gs.count 1 → ¬ PD gs fs e2 b) ∧ L_Mod_doubt_37 (nI (gs.count 0)) (nI (gs.count 1)) mse mdi n (nI d) = some (.inl (nI e, nI a))) ∨ ((∀ e, d ≤ e → e < 256 → ∀ a, a < 16 * 2 ^ gs.count 1 → ¬ PD gs fs e a) ∧ L_Mod_doubt_37 (nI (gs.count 0)) (nI (gs.count 1)) mse mdi n (nI d) = some (.inr ())) := by
  have hp8 := pow8 hw.2.2.1
  intro k
  induction k with
  | zero =>
    intro n d h1 h2
    obtain ⟨n, rfl⟩ : ∃ z, n = z + 1 := ⟨n - 1, by omega⟩
    rw [L_Mod_doubt_37, i256, if_pos ((nI_leI (by omega) (by omega)).mpr (by omega))]
    exact Or.inr ⟨fun e h3 h4 => absurd h4 (by omega), rfl⟩
  | succ k ih =>
    intro n d h1 h2
    obtain ⟨n, rfl⟩ : ∃ z, n = z + 1 := ⟨n - 1, by omega⟩
    rw [L_Mod_doubt_37, i256, if_neg (by rw [nI_leI (by omega) (by omega)]; omega)]
    rcases p_d46 hw hM (show d < 1000 by omega) (16 * 2 ^ gs.count 1) fu 0 (by omega) (by rw [fu]; omega) with ⟨a, a1, a2, a3, a4, a5⟩ | ⟨a1, a2⟩
    · have a5' : L_Mod_doubt_46 (nI (gs.count 0)) (nI (gs.count 1)) mse mdi (nI d) fu (0 : Int32) = some (.inl (nI a)) := a5
      rw [a5', Option.bind_some, se_l]
      exact Or.inl ⟨d, a, Nat.le_refl _, by omega, a2, a3, fun b hb => a4 b (Nat.zero_le _) hb, fun e2 h3 h4 => absurd h4 (by omega), rfl⟩
    · have a2' : L_Mod_doubt_46 (nI (gs.count 0)) (nI (gs.count 1)) mse mdi (nI d) fu (0 : Int32) = some (.inr ()) := a2
      rw [a2', Option.bind_some, se_r, nI_1]
      rcases ih n (d + 1) (by omega) (by omega) with ⟨e, a, b1, b2, b3, b4, b5, b6, b7⟩ | ⟨b1, b2⟩
      · refine Or.inl ⟨e, a, by omega, b2, b3, b4, b5, fun e2 h3 h4 => ?_, b7⟩
        by_cases z : e2 = d
        · rw [z]; exact fun b hb => a1 b (Nat.zero_le _) hb
        · exact b6 e2 (by omega) h4
      · refine Or.inr ⟨fun e h3 h4 => ?_, b2⟩
        by_cases z : e = d
        · rw [z]; exact fun b hb => a1 b (Nat.zero_le _) hb
        · exact b1 e (by omega) h4
end QS
