/-! THE QUESTIONS: class and reference side by side -/
theorem fails_0 {co : Int32} : m_Mod_fails co 0 0 = some (0, 0) := by rw [m_Mod_fails]; rfl
theorem fails_1 {co y : Int32} : m_Mod_fails co 1 y = some (1, 1) := by
  rw [m_Mod_fails]
  simp only [sx_let]
  rw [if_neg (by decide), if_neg (by decide)]
theorem fails_2 {co : Int32} : m_Mod_fails co 0 1 = some (1, 2) := by
  rw [m_Mod_fails]
  simp only [sx_let]
  rw [if_pos trivial, if_neg (by decide), if_neg (by decide)]
theorem rs_no {K : Nat} {x : Int32} (hK : K ≤ 8) (h : x < 0 ∨ ¬ x < nI (2 ^ K)) : m_Exp_requireState (nI K) x = some (.inl 2) ∧ m_Mod_isState (nI K) x = some 0 := by
  rw [m_Exp_requireState, m_Mod_isState, p_stateTotal hK, p_mstates hK]
  by_cases c : x < 0
  · rw [if_pos c, if_pos c]; exact ⟨rfl, rfl⟩
  · have h2 : ¬ x < nI (2 ^ K) := by
      rcases h with h | h
      · exact absurd h c
      · exact h
    rw [if_neg c, if_neg c, Option.bind_some, Option.bind_some, if_neg h2, if_pos (Int32.not_lt.mp h2)]
    exact ⟨rfl, rfl⟩
theorem rs_yes {K j : Nat} (hK : K ≤ 8) (h : j < 2 ^ K) : m_Exp_requireState (nI K) (nI j) = some (.inr ()) ∧ m_Mod_isState (nI K) (nI j) = some 1 := by
  have hp := pow8 hK
  rw [m_Exp_requireState, m_Mod_isState, p_stateTotal hK, p_mstates hK, if_neg (nI_pos (by omega)), if_neg (nI_pos (by omega)), Option.bind_some, Option.bind_some, if_pos ((nI_ltI (by omega) (by omega)).mpr h), if_neg (by rw [nI_leI (by omega) (by omega)]; omega)]
  exact ⟨rfl, rfl⟩
theorem rg_no {G : Nat} {x : Int32} (h : x < 0 ∨ ¬ x < nI G) : m_Exp_requireGate (nI G) x = some (.inl 2) ∧ m_Mod_isGate (nI G) x = some 0 := by
  rw [m_Exp_requireGate, m_Mod_isGate]
  by_cases c : x < 0
  · rw [if_pos c, if_pos c]; exact ⟨rfl, rfl⟩
  · have h2 : ¬ x < nI G := by
      rcases h with h | h
      · exact absurd h c
      · exact h
    rw [if_neg c, if_neg c, if_neg h2, if_pos (Int32.not_lt.mp h2)]
    exact ⟨rfl, rfl⟩
theorem rg_yes {G j : Nat} (hG : G ≤ 60) (h : j < G) : m_Exp_requireGate (nI G) (nI j) = some (.inr ()) ∧ m_Mod_isGate (nI G) (nI j) = some 1 := by
  rw [m_Exp_requireGate, m_Mod_isGate, if_neg (nI_pos (by omega)), if_neg (nI_pos (by omega)), if_pos ((nI_ltI (by omega) (by omega)).mpr h), if_neg (by rw [nI_leI (by omega) (by omega)]; omega)]
  exact ⟨rfl, rfl⟩
theorem rx_0 : m_Exp_requireExplored 0 = some (.inl 1) := by rw [m_Exp_requireExplored, if_pos rfl]
theorem rx_1 : m_Exp_requireExplored 1 = some (.inr ()) := by rw [m_Exp_requireExplored, if_neg (by decide)]
theorem in01 {α : Type} {a : Option α} : gd (vp_in (0 : Int32) 1) a = a := gd_nI (n := 0) (N := 1) (by decide) (by decide)
theorem cl0 : (0 : Int32).toNatClampNeg = 0 := by decide
theorem out0 {o : Nat → Int64} {x : Int64} : vp_updL o 0 x 0 = x := by rw [updL_eq, if_pos rfl]
theorem se_r {α β γ : Type} {f : α → γ} {g : β → γ} {b : β} : Sum.elim f g (.inr b) = g b := rfl
theorem se_l {α β γ : Type} {f : α → γ} {g : β → γ} {a : α} : Sum.elim f g (.inl a) = f a := rfl
theorem or_yes {α : Type} {a : α} {x : Int32} (h : ¬ x = 0) : (if x = 0 then (none : Option α) else some a) = some a := if_neg h
section QU
variable {gs : List Nat} {fs : List (Nat × Nat)} {os : List Nat} {pn : Nat → Int32} {pt : Int32} {se va : Nat → Int64} {ns di od pa st : Nat → Int32} {sp : Nat → Int64} {wd re du dS dC : Int32}
  {mse mne : Nat → Int32} {mon : Nat → Int64} {mdi map : Nat → Int32}
/-- both sides are explored, or neither is -/
def XX (gs : List Nat) (fs : List (Nat × Nat)) (os : List Nat) (pn : Nat → Int32) (pt : Int32) (se va : Nat → Int64) (ns di od pa st : Nat → Int32) (sp : Nat → Int64) (wd re du dS dC : Int32) (mse mne : Nat → Int32) (mon : Nat → Int64) (mdi map : Nat → Int32) (x y : Int32) : Prop :=
  (x = 0 ∧ y = 0) ∨ (x = 1 ∧ y = 1 ∧ EX gs fs os (nvF gs fs) pn pt se va ns di od pa st sp wd re du dS dC ∧ EM gs fs os mse mne mon mdi map)
theorem EX_di (hE : EX gs fs os (nvF gs fs) pn pt se va ns di od pa st sp wd re du dS dC) (hM : EM gs fs os mse mne mon mdi map) {j : Nat} (hj : j < 2 ^ gs.count 1) : di j = mdi j := by
  rw [hE.2.1.1 j hj, hM.2.1 j hj]
theorem q_distance (hw : WF gs fs os) {x y : Int32} (hX : XX gs fs os pn pt se va ns di od pa st sp wd re du dS dC mse mne mon mdi map x y) (co : Int32) (out : Nat → Int64) (a : Int32) :
    ∃ k o b, m_Law_distance (nI (gs.count 1)) di x out a = some (k, o) ∧ m_Mod_distance co (nI (gs.count 1)) y mdi a = some (b, k) ∧ (k = 0 → o 0 = b.toInt64) := by
  have hK := hw.2.2.1
  have hp8 := pow8 hK
  rw [m_Law_distance, m_Exp_distance, m_Mod_distance]
  simp only [sx_let]
  rcases ix_cases a (n := 2 ^ gs.count 1) (by omega) with h | ⟨j, hj, rfl⟩
  · obtain ⟨e1, e2⟩ := rs_no hK h
    rcases hX with ⟨rfl, rfl⟩ | ⟨rfl, rfl, _, _⟩
    · exact ⟨1, out, 0, by rw [rx_0]; rfl, by rw [if_pos rfl, e2, Option.bind_some, if_pos rfl, fails_1]; rfl, fun q => absurd q (by decide)⟩
    · exact ⟨2, out, 0, by rw [rx_1, Option.bind_some]; rw [se_r]; rw [e1]; rfl, by rw [if_neg (by decide), e2, Option.bind_some, if_pos rfl, fails_2]; rfl, fun q => absurd q (by decide)⟩
  · obtain ⟨e1, e2⟩ := rs_yes hK hj
    rcases hX with ⟨rfl, rfl⟩ | ⟨rfl, rfl, hE, hM⟩
    · exact ⟨1, out, 0, by rw [rx_0]; rfl, by rw [if_pos rfl, e2, Option.bind_some, if_neg (by decide), fails_1]; rfl, fun q => absurd q (by decide)⟩
    · refine ⟨0, vp_updL out 0 (di j).toInt64, mdi j, ?_, ?_, fun _ => by rw [out0, EX_di hE hM hj]⟩
      · rw [rx_1, Option.bind_some]; rw [se_r]
        rw [e1, Option.bind_some]
        rw [se_r]
        rw [gd_nI (by omega) (by decide), nI_clamp (by omega), Option.bind_some]
        rw [se_r]
        rw [in01, cl0]
      · rw [if_neg (by decide), e2, Option.bind_some, if_neg (by decide), fails_0, Option.bind_some, if_pos rfl, gd_nI (by omega) (by decide), nI_clamp (by omega)]
theorem p_manyL (hw : WF gs fs os) (hd : ∀ s, s < 2 ^ gs.count 1 → mdi s = if s ∈ (WG gs fs).1 then nI ((WG gs fs).2.1 s) else -1) {a : Int32} (ha : ¬ a < 0) : ∀ (k n i m : Nat), i + k = 2 ^ gs.count 1 → k < n → L_Mod_many_26 (nI (gs.count 1)) mdi a n (nI m) (nI i) = some (nI (m + (List.range' i k).countP (fun s => decide (s ∈ (WG gs fs).1) && decide (nI ((WG gs fs).2.1 s) = a)))) := by
  have hK := hw.2.2.1
  have hp8 := pow8 hK
  intro k
  induction k with
  | zero =>
    intro n i m h1 h2
    obtain ⟨n, rfl⟩ : ∃ z, n = z + 1 := ⟨n - 1, by omega⟩
    rw [L_Mod_many_26, p_mstates hK, Option.bind_some, if_pos ((nI_leI (by omega) (by omega)).mpr (by omega))]
    rfl
  | succ k ih =>
    intro n i m h1 h2
    obtain ⟨n, rfl⟩ : ∃ z, n = z + 1 := ⟨n - 1, by omega⟩
    rw [L_Mod_many_26, p_mstates hK, Option.bind_some, if_neg (by rw [nI_leI (by omega) (by omega)]; omega), if_neg ha, gd_nI (show i < 256 by omega) (by decide), nI_clamp (by omega), nI_1, nI_1, List.range'_succ, List.countP_cons, hd i (by omega)]
    by_cases c : i ∈ (WG gs fs).1
    · rw [if_pos c]
      by_cases c2 : nI ((WG gs fs).2.1 i) = a
      · rw [if_pos c2, ih n (i + 1) (m + 1) (by omega) (by omega), if_pos (by rw [decide_eq_true c, decide_eq_true c2]; rfl), Nat.add_assoc, Nat.add_comm 1]
      · rw [if_neg c2, ih n (i + 1) m (by omega) (by omega), if_neg (by rw [decide_eq_false c2]; simp)]
        rfl
    · rw [if_neg c, if_neg (fun z => ha (by rw [← z]; exact neg1_lt)), ih n (i + 1) m (by omega) (by omega), if_neg (by rw [decide_eq_false c]; simp)]
      rfl
theorem q_many (hw : WF gs fs os) {x y : Int32} (hX : XX gs fs os pn pt se va ns di od pa st sp wd re du dS dC mse mne mon mdi map x y) (co : Int32) (out : Nat → Int64) (a : Int32) :
    ∃ k o b, m_Law_many di od re x out a = some (k, o) ∧ m_Mod_many co (nI (gs.count 1)) y mdi a = some (b, k) ∧ (k = 0 → o 0 = b.toInt64) := by
  have hK := hw.2.2.1
  have hp8 := pow8 hK
  rw [m_Law_many, m_Exp_many, m_Mod_many]
  simp only [sx_let]
  rcases hX with ⟨rfl, rfl⟩ | ⟨rfl, rfl, hE, hM⟩
  · exact ⟨1, out, 0, by rw [rx_0]; rfl, by rw [if_pos rfl, fails_1]; rfl, fun q => absurd q (by decide)⟩
  · have hI := WG_IA (fs := fs) hw
    have hlen := WG_len (fs := fs) hw
    refine ⟨0, vp_updL out 0 (nI ((WG gs fs).1.countP (fun s => decide (nI ((WG gs fs).2.1 s) = a)))).toInt64, nI ((WG gs fs).1.countP (fun s => decide (nI ((WG gs fs).2.1 s) = a))), ?_, ?_, fun _ => by rw [out0]⟩
    · rw [rx_1, Option.bind_some]; rw [se_r]
      rw [p_reachedAt hp8.2 hE.2.1 hE.2.2.1, Option.bind_some, Option.bind_some]
      rw [se_r]
      rw [in01, cl0]
    · rw [if_neg (by decide), fails_0, Option.bind_some, if_pos rfl]
      by_cases c : a < 0
      · have e : L_Mod_many_26 (nI (gs.count 1)) mdi a fu (0 : Int32) (0 : Int32) = some 0 := by
          rw [show fu = (fu - 1) + 1 by rw [fu], L_Mod_many_26, p_mstates hK, Option.bind_some]
          split
          · rfl
          · first
            | rfl
            | rw [if_pos c]
        have e2 : (WG gs fs).1.countP (fun s => decide (nI ((WG gs fs).2.1 s) = a)) = 0 := by
          apply List.countP_eq_zero.mpr
          intro s hs h
          have h2 : nI ((WG gs fs).2.1 s) = a := of_decide_eq_true h
          have := (hI.2.1 s hs).2
          rw [← h2] at c
          exact nI_pos (by omega) c
        rw [e, e2, Option.bind_some]
        rfl
      · have e := p_manyL hw hM.2.1 c (2 ^ gs.count 1) fu 0 0 (by omega) (by rw [fu]; omega)
        have e' : L_Mod_many_26 (nI (gs.count 1)) mdi a fu (0 : Int32) (0 : Int32) = _ := e
        rw [e', Option.bind_some, Nat.zero_add, cnt_in hI.1 (fun s hs => (hI.2.1 s hs).1)]
theorem and_mod {I c : Nat} (hI : I ≤ 4) (hc : c < 16) : nI c &&& (nI (2 ^ I) - (1 : Int32)) = nI (c % 2 ^ I) := by
  have key : ∀ I : Fin 5, ∀ c : Fin 16, nI c.val &&& (nI (2 ^ I.val) - (1 : Int32)) = nI (c.val % 2 ^ I.val) := by decide +kernel
  exact key ⟨I, by omega⟩ ⟨c, hc⟩
theorem q_next (hw : WF gs fs os) {x y : Int32} (hX : XX gs fs os pn pt se va ns di od pa st sp wd re du dS dC mse mne mon mdi map x y) (co : Int32) (out : Nat → Int64) (a c : Int32) :
    ∃ k o b, m_Law_next (nI (gs.count 0)) (nI (gs.count 1)) ns x out a c = some (k, o) ∧ m_Mod_next co (nI (gs.count 0)) (nI (gs.count 1)) y mse mne a c = some (b, k) ∧ (k = 0 → o 0 = b.toInt64) := by
  have hI := hw.2.1
  have hK := hw.2.2.1
  have hp4 := pow4 hI
  have hp8 := pow8 hK
  rw [m_Law_next, m_Exp_next, m_Mod_next]
  simp only [sx_let]
  have e15 : (c ≤ (15 : Int32)) ↔ c < (16 : Int32) := by
    have : (15 : Int32).toInt = 15 := by decide
    have : (16 : Int32).toInt = 16 := by decide
    rw [Int32.le_iff_toInt_le, Int32.lt_iff_toInt_lt]
    omega
  rcases hX with ⟨rfl, rfl⟩ | ⟨rfl, rfl, hE, hM⟩
  · refine ⟨1, out, 0, by rw [rx_0]; rfl, ?_, fun q => absurd q (by decide)⟩
    rw [if_pos rfl]
    rcases ix_cases a (n := 2 ^ gs.count 1) (by omega) with h | ⟨j, hj, rfl⟩
    · rw [(rs_no hK h).2, Option.bind_some, if_pos rfl, fails_1]; rfl
    · rw [(rs_yes hK hj).2, Option.bind_some, if_neg (by decide)]
      split
      · rw [fails_1]; rfl
      · split
        · rw [fails_1]; rfl
        · rw [fails_1]; rfl
  · rcases ix_cases a (n := 2 ^ gs.count 1) (by omega) with h | ⟨j, hj, rfl⟩
    · obtain ⟨e1, e2⟩ := rs_no hK h
      exact ⟨2, out, 0, by rw [rx_1, Option.bind_some]; rw [se_r]; rw [e1]; rfl, by rw [if_neg (by decide), e2, Option.bind_some, if_pos rfl, fails_2]; rfl, fun q => absurd q (by decide)⟩
    · obtain ⟨e1, e2⟩ := rs_yes hK hj
      rcases ix_cases c (n := 16) (by decide) with h | ⟨d, hd, rfl⟩
      · refine ⟨2, out, 0, ?_, ?_, fun q => absurd q (by decide)⟩
        · rw [rx_1, Option.bind_some]; rw [se_r]
          rw [e1, Option.bind_some]
          rw [se_r]
          by_cases c1 : c < 0
          · rw [if_pos c1]; rfl
          · rw [if_neg c1, if_neg (by rw [i16]; rcases h with h | h; exact absurd h c1; exact h)]; rfl
        · rw [if_neg (by decide), e2, Option.bind_some, if_neg (by decide)]
          by_cases c1 : c < 0
          · rw [if_pos c1, fails_2]; rfl
          · rw [if_neg c1, if_neg (by rw [e15, i16]; rcases h with h | h; exact absurd h c1; exact h), fails_2]; rfl
      · have hm : d % 2 ^ gs.count 0 < 2 ^ gs.count 0 := Nat.mod_lt _ (by omega)
        have hT := hM.1 j hj _ hm
        have hN := hE.1.2 j hj _ hm
        have e16 : nI j * (16 : Int32) + nI (d % 2 ^ gs.count 0) = nI (j * 16 + d % 2 ^ gs.count 0) := by rw [i16, pk_mul, nI_add]
        have eq : ns (j * 16 + d % 2 ^ gs.count 0) = if mse (16 * j + d % 2 ^ gs.count 0) = 0 then -1 else mne (16 * j + d % 2 ^ gs.count 0) := by
          have hx := nxA_of hN
          cases e : nxA gs fs (nvF gs fs) j (d % 2 ^ gs.count 0) with
          | none =>
            rw [e] at hx
            rw [hT.1, nxA_none.mp e, if_pos (by simp)]
            exact hx
          | some t =>
            rw [e] at hx
            have hst : stN gs fs j (d % 2 ^ gs.count 0) = true := by
              cases q : stN gs fs j (d % 2 ^ gs.count 0) with
              | true => rfl
              | false => rw [nxA_none.mpr q] at e; cases e
            rw [hT.1, hst, if_neg (by simp), hT.2.1 t e]
            exact hx
        refine ⟨0, vp_updL out 0 (ns (j * 16 + d % 2 ^ gs.count 0)).toInt64, ns (j * 16 + d % 2 ^ gs.count 0), ?_, ?_, fun _ => by rw [out0]⟩
        · rw [rx_1, Option.bind_some]; rw [se_r]
          rw [e1, Option.bind_some]
          rw [se_r]
          rw [if_neg (nI_pos (by omega)), if_pos (by rw [i16]; exact (nI_ltI (by omega) (by decide)).mpr hd), p_choiceTotal (by omega), Option.bind_some, and_mod hI hd, m_Tab_nextOf, e16, gd_nI (by omega) (by decide), nI_clamp (by omega), Option.bind_some, Option.bind_some]
          rw [se_r]
          rw [in01, cl0]
        · rw [if_neg (by decide), e2, Option.bind_some, if_neg (by decide), if_neg (nI_pos (by omega)), if_pos (by rw [e15, i16]; exact (nI_ltI (by omega) (by decide)).mpr hd), fails_0, Option.bind_some, if_pos rfl, p_mchoices (by omega), Option.bind_some, gd_in (nI_ne0 (by omega) (by omega)), pk_rem (by omega) (by omega) (by omega), i16m, gd_nI (by omega) (by decide), gd_nI (by omega) (by decide), nI_clamp (by omega), eq]
          split <;> rfl
end QU
