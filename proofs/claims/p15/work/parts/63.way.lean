/-! way: the reference goes through -/
def Ld (nx : Nat → Nat → Option Nat) (C q : Nat) : Nat → Nat → Prop
  | 0, s => s = q
  | k + 1, s => ∃ c, c < C ∧ ∃ t, nx s c = some t ∧ Ld nx C q k t
theorem Pth_Ld {nx : Nat → Nat → Option Nat} {C q : Nat} : ∀ (n k s : Nat), Pth nx C n s → Ld nx C q k s → Ld nx C q (n + k) 0
  | 0, k, s, h, l => by
    have : s = 0 := h
    subst this
    rw [Nat.zero_add]; exact l
  | n + 1, k, s, ⟨p, hp, c, hc, e⟩, l => by
    have := Pth_Ld n (k + 1) p hp ⟨c, hc, s, e, l⟩
    rw [show n + 1 + k = n + (k + 1) by omega]
    exact this
section REFY
variable {nx : Nat → Nat → Option Nat} {I K : Nat} {se ne : Nat → Int32}
theorem p_ld2 (hK : K ≤ 8) {q : Nat} (hq : q < 2 ^ K) : ∀ (k n i : Nat) (le : Nat → Int32), i + k = 2 ^ K → k < n → ∃ r, L_Mod_lead_2 (nI K) (nI q) n (nI i) le = some r ∧ (∀ s, i ≤ s → s < 2 ^ K → (r s ≠ 0 ↔ s = q)) ∧ ∀ s, s < i → r s = le s := by
  have hp := pow8 hK
  intro k
  induction k with
  | zero =>
    intro n i le h1 h2
    obtain ⟨n, rfl⟩ : ∃ z, n = z + 1 := ⟨n - 1, by omega⟩
    rw [L_Mod_lead_2, p_mstates hK, Option.bind_some, if_pos ((nI_leI (by omega) (by omega)).mpr (by omega))]
    exact ⟨_, rfl, fun s a b => absurd b (by omega), fun _ _ => rfl⟩
  | succ k ih =>
    intro n i le h1 h2
    obtain ⟨n, rfl⟩ : ∃ z, n = z + 1 := ⟨n - 1, by omega⟩
    have key : ∀ x : Int32, (x ≠ 0 ↔ i = q) → ∃ r, L_Mod_lead_2 (nI K) (nI q) n (nI (i + 1)) (upd le i x) = some r ∧ (∀ s, i ≤ s → s < 2 ^ K → (r s ≠ 0 ↔ s = q)) ∧ ∀ s, s < i → r s = le s := by
      intro x hx
      obtain ⟨r, r1, r2, r3⟩ := ih n (i + 1) (upd le i x) (by omega) (by omega)
      refine ⟨r, r1, fun s a b => ?_, fun s a => by rw [r3 s (by omega), upd_eq, if_neg (by omega)]⟩
      rcases Nat.lt_or_ge i s with e | e
      · exact r2 s (by omega) b
      · have : s = i := by omega
        subst this
        rw [r3 s (by omega), upd_eq, if_pos rfl]; exact hx
    rw [L_Mod_lead_2, p_mstates hK, Option.bind_some, if_neg (by rw [nI_leI (by omega) (by omega)]; omega)]
    simp only [nI_eq (show i < 2 ^ 31 by omega) (show q < 2 ^ 31 by omega), gd_nI (show i < 65536 by omega) (show 65536 < 2 ^ 31 by decide), nI_clamp (show i < 2 ^ 31 by omega), nI_1, nar0, nar1]
    by_cases c : i = q
    · rw [if_pos c]; exact key _ ⟨fun _ => c, fun _ => by decide⟩
    · rw [if_neg c]; exact key _ ⟨fun z => absurd rfl z, fun z => absurd z c⟩
theorem p_ld57 (hI : I ≤ 4) (hK : K ≤ 8) (hT : TB nx (2 ^ K) (2 ^ I) se ne) {q j s : Nat} (hj : j < 255) (hs : s < 2 ^ K) {le : Nat → Int32} (hl : ∀ t, t < 2 ^ K → (le (256 * j + t) ≠ 0 ↔ Ld nx (2 ^ I) q j t)) :
    ∀ (k n c : Nat) (x : Int32), c + k = 2 ^ I → k < n → ((x = 1 ∧ Ld nx (2 ^ I) q (j + 1) s) ∨ (x = 0 ∧ ∀ d, d < c → ∀ t, nx s d = some t → ¬ Ld nx (2 ^ I) q j t)) →
      (L_Mod_lead_57 (nI I) se ne le (nI (j + 1)) (nI s) n x (nI c) = some 1 ∧ Ld nx (2 ^ I) q (j + 1) s) ∨ (L_Mod_lead_57 (nI I) se ne le (nI (j + 1)) (nI s) n x (nI c) = some 0 ∧ ¬ Ld nx (2 ^ I) q (j + 1) s) := by
  have hp := pow4 hI
  have hp8 := pow8 hK
  intro k
  induction k with
  | zero =>
    intro n c x h1 h2 hx
    obtain ⟨n, rfl⟩ : ∃ z, n = z + 1 := ⟨n - 1, by omega⟩
    rw [L_Mod_lead_57, p_mchoices (by omega), Option.bind_some, if_pos ((nI_leI (by omega) (by omega)).mpr (by omega))]
    rcases hx with ⟨z, h⟩ | ⟨z, h⟩
    · exact Or.inl ⟨by rw [z], h⟩
    · exact Or.inr ⟨by rw [z], fun ⟨d, hd, t, e, l⟩ => h d (by omega) t e l⟩
  | succ k ih =>
    intro n c x h1 h2 hx
    obtain ⟨n, rfl⟩ : ∃ z, n = z + 1 := ⟨n - 1, by omega⟩
    have hsub : nI (j + 1) - (1 : Int32) = nI j := nI_pred j
    rw [L_Mod_lead_57, p_mchoices (by omega), Option.bind_some, if_neg (by rw [nI_leI (by omega) (by omega)]; omega)]
    rcases hx with ⟨z, h⟩ | ⟨z, h⟩
    · rw [if_neg (by rw [z]; decide), nI_1]
      exact ih n (c + 1) 1 (by omega) (by omega) (Or.inl ⟨rfl, h⟩)
    · rw [if_pos z]
      have no : (∀ t, nx s c = some t → ¬ Ld nx (2 ^ I) q j t) → (L_Mod_lead_57 (nI I) se ne le (nI (j + 1)) (nI s) n (0 : Int32) (nI (c + 1)) = some 1 ∧ Ld nx (2 ^ I) q (j + 1) s) ∨ (L_Mod_lead_57 (nI I) se ne le (nI (j + 1)) (nI s) n (0 : Int32) (nI (c + 1)) = some 0 ∧ ¬ Ld nx (2 ^ I) q (j + 1) s) :=
        fun w => ih n (c + 1) 0 (by omega) (by omega) (Or.inr ⟨rfl, fun d hd => by
          by_cases e : d = c
          · rw [e]; exact w
          · exact h d (by omega)⟩)
      simp only [i16m, gd_nI (show 16 * s + c < 4096 by omega) (show 4096 < 2 ^ 31 by decide), nI_clamp (show 16 * s + c < 2 ^ 31 by omega), nI_1, hsub]
      cases e : nx s c with
      | none =>
        rw [if_pos ((hT s hs c (by omega)).1 e)]
        exact no (fun t w => by rw [e] at w; cases w)
      | some t =>
        obtain ⟨t1, t2, t3⟩ := (hT s hs c (by omega)).2 t e
        rw [if_neg (by rw [t1]; decide), t2, i256m, gd_nI (show 256 * j + t < 65536 by omega) (by decide), nI_clamp (by omega)]
        by_cases c1 : le (256 * j + t) = 0
        · rw [if_pos c1]
          exact no (fun t' w l => by rw [e] at w; cases w; exact (hl t t3).mpr l c1)
        · rw [if_neg c1]
          exact ih n (c + 1) 1 (by omega) (by omega) (Or.inl ⟨rfl, c, by omega, t, e, (hl t t3).mp c1⟩)
theorem p_ld42 (hI : I ≤ 4) (hK : K ≤ 8) (hT : TB nx (2 ^ K) (2 ^ I) se ne) {q j : Nat} (hj : j < 255) :
    ∀ (k n s : Nat) (le : Nat → Int32), s + k = 2 ^ K → k < n → (∀ i, i ≤ j → ∀ t, t < 2 ^ K → (le (256 * i + t) ≠ 0 ↔ Ld nx (2 ^ I) q i t)) → (∀ t, t < s → (le (256 * (j + 1) + t) ≠ 0 ↔ Ld nx (2 ^ I) q (j + 1) t)) →
      ∃ r, L_Mod_lead_42 (nI I) (nI K) se ne (nI (j + 1)) n (nI s) le = some r ∧ ∀ i, i ≤ j + 1 → ∀ t, t < 2 ^ K → (r (256 * i + t) ≠ 0 ↔ Ld nx (2 ^ I) q i t) := by
  have hp := pow4 hI
  have hp8 := pow8 hK
  intro k
  induction k with
  | zero =>
    intro n s le h1 h2 hl hc
    obtain ⟨n, rfl⟩ : ∃ z, n = z + 1 := ⟨n - 1, by omega⟩
    rw [L_Mod_lead_42, p_mstates hK, Option.bind_some, if_pos ((nI_leI (by omega) (by omega)).mpr (by omega))]
    refine ⟨_, rfl, fun i hi t ht => ?_⟩
    by_cases e : i = j + 1
    · rw [e]; exact hc t (by omega)
    · exact hl i (by omega) t ht
  | succ k ih =>
    intro n s le h1 h2 hl hc
    obtain ⟨n, rfl⟩ : ∃ z, n = z + 1 := ⟨n - 1, by omega⟩
    have hs : s < 2 ^ K := by omega
    have key : ∀ x : Int32, (x ≠ 0 ↔ Ld nx (2 ^ I) q (j + 1) s) → ∃ r, L_Mod_lead_42 (nI I) (nI K) se ne (nI (j + 1)) n (nI (s + 1)) (upd le (256 * (j + 1) + s) x) = some r ∧ ∀ i, i ≤ j + 1 → ∀ t, t < 2 ^ K → (r (256 * i + t) ≠ 0 ↔ Ld nx (2 ^ I) q i t) := by
      intro x hx
      refine ih n (s + 1) _ (by omega) (by omega) (fun i hi t ht => ?_) (fun t ht => ?_)
      · rw [upd_eq, if_neg (by omega)]; exact hl i hi t ht
      · rw [upd_eq]
        by_cases e : t = s
        · rw [e, if_pos rfl]; exact hx
        · rw [if_neg (by omega)]; exact hc t (by omega)
    rw [L_Mod_lead_42, p_mstates hK, Option.bind_some, if_neg (by rw [nI_leI (by omega) (by omega)]; omega)]
    rcases p_ld57 hI hK hT hj hs (fun t ht => hl j (Nat.le_refl _) t ht) (2 ^ I) fu 0 0 (by omega) (by rw [fu]; omega) (Or.inr ⟨rfl, fun d hd => absurd hd (by omega)⟩) with ⟨a, b⟩ | ⟨a, b⟩
    · have a' : L_Mod_lead_57 (nI I) se ne le (nI (j + 1)) (nI s) fu (0 : Int32) (0 : Int32) = some 1 := a
      rw [a', Option.bind_some, i256m, gd_nI (show 256 * (j + 1) + s < 65536 by omega) (by decide), nI_clamp (by omega), nI_1, nar1]
      exact key _ ⟨fun _ => b, fun _ => by decide⟩
    · have a' : L_Mod_lead_57 (nI I) se ne le (nI (j + 1)) (nI s) fu (0 : Int32) (0 : Int32) = some 0 := a
      rw [a', Option.bind_some, i256m, gd_nI (show 256 * (j + 1) + s < 65536 by omega) (by decide), nI_clamp (by omega), nI_1, nar0]
      exact key _ ⟨fun z => absurd rfl z, fun z => absurd z b⟩
theorem p_ld34 (hI : I ≤ 4) (hK : K ≤ 8) (hT : TB nx (2 ^ K) (2 ^ I) se ne) {q d : Nat} (hd : d ≤ 255) :
    ∀ (k n j : Nat) (le : Nat → Int32), j + k = d → k < n → (∀ i, i ≤ j → ∀ t, t < 2 ^ K → (le (256 * i + t) ≠ 0 ↔ Ld nx (2 ^ I) q i t)) →
      ∃ r, L_Mod_lead_34 (nI I) (nI K) se ne (nI d) n (nI (j + 1)) le = some r ∧ ∀ i, i ≤ d → ∀ t, t < 2 ^ K → (r (256 * i + t) ≠ 0 ↔ Ld nx (2 ^ I) q i t) := by
  have hp8 := pow8 hK
  intro k
  induction k with
  | zero =>
    intro n j le h1 h2 hl
    obtain ⟨n, rfl⟩ : ∃ z, n = z + 1 := ⟨n - 1, by omega⟩
    rw [L_Mod_lead_34, if_pos ((nI_ltI (by omega) (by omega)).mpr (by omega))]
    exact ⟨_, rfl, fun i hi => hl i (by omega)⟩
  | succ k ih =>
    intro n j le h1 h2 hl
    obtain ⟨n, rfl⟩ : ∃ z, n = z + 1 := ⟨n - 1, by omega⟩
    obtain ⟨r, r1, r2⟩ := p_ld42 hI hK hT (show j < 255 by omega) (2 ^ K) fu 0 le (by omega) (by rw [fu]; omega) hl (fun t ht => absurd ht (by omega))
    have r1' : L_Mod_lead_42 (nI I) (nI K) se ne (nI (j + 1)) fu (0 : Int32) le = some r := r1
    rw [L_Mod_lead_34, if_neg (by rw [nI_ltI (by omega) (by omega)]; omega), r1', Option.bind_some, nI_1]
    exact ih n (j + 1) r (by omega) (by omega) r2
theorem p_lead (hI : I ≤ 4) (hK : K ≤ 8) (hT : TB nx (2 ^ K) (2 ^ I) se ne) {q d : Nat} (hq : q < 2 ^ K) (hd : d ≤ 255) (le : Nat → Int32) :
    ∃ r, m_Mod_lead (nI I) (nI K) se ne le (nI q) (nI d) = some r ∧ ∀ i, i ≤ d → ∀ t, t < 2 ^ K → (r (256 * i + t) ≠ 0 ↔ Ld nx (2 ^ I) q i t) := by
  have hp8 := pow8 hK
  obtain ⟨r, r1, r2, -⟩ := p_ld2 hK hq (2 ^ K) fu 0 le (by omega) (by rw [fu]; omega)
  have r1' : L_Mod_lead_2 (nI K) (nI q) fu (0 : Int32) le = some r := r1
  obtain ⟨w, w1, w2⟩ := p_ld34 hI hK hT hd d fu 0 r (by omega) (by rw [fu]; omega) (fun i hi t ht => by
    have : i = 0 := by omega
    subst this
    rw [Nat.mul_zero, Nat.zero_add]
    exact r2 t (Nat.zero_le _) ht)
  have w1' : L_Mod_lead_34 (nI I) (nI K) se ne (nI d) fu (1 : Int32) r = some w := w1
  rw [m_Mod_lead, r1', Option.bind_some, w1', Option.bind_some]
  exact ⟨w, rfl, w2⟩
/-- the choice of a step -/
theorem p_w76 (hI : I ≤ 4) (hK : K ≤ 8) (hT : TB nx (2 ^ K) (2 ^ I) se ne) {q d k s : Nat} (hk : k < d) (hd : d ≤ 255) (hs : s < 2 ^ K) {le : Nat → Int32} (hl : ∀ t, t < 2 ^ K → (le (256 * (d - k - 1) + t) ≠ 0 ↔ Ld nx (2 ^ I) q (d - k - 1) t)) :
    ∀ (m n c : Nat), c + m = 2 ^ I → m < n → (∃ e, c ≤ e ∧ e < 2 ^ I ∧ ∃ t, nx s e = some t ∧ Ld nx (2 ^ I) q (d - k - 1) t) →
      ∃ e t, L_Mod_way_76 se ne le (nI d) (nI s) (nI k) n (nI c) = some (nI e) ∧ c ≤ e ∧ e < 2 ^ I ∧ nx s e = some t ∧ Ld nx (2 ^ I) q (d - k - 1) t ∧ ∀ e2, c ≤ e2 → e2 < e → ∀ t2, nx s e2 = some t2 → ¬ Ld nx (2 ^ I) q (d - k - 1) t2 := by
  have hp := pow4 hI
  have hp8 := pow8 hK
  intro m
  induction m with
  | zero =>
    intro n c h1 h2 ⟨e, e1, e2, _⟩
    omega
  | succ m ih =>
    intro n c h1 h2 hex
    obtain ⟨n, rfl⟩ : ∃ z, n = z + 1 := ⟨n - 1, by omega⟩
    have hsub : (nI d - nI k) - (1 : Int32) = nI (d - k - 1) := by
      rw [pk_sub (by omega), i1, pk_sub (by omega)]
    have skip : (∀ t, nx s c = some t → ¬ Ld nx (2 ^ I) q (d - k - 1) t) → ∃ e t, L_Mod_way_76 se ne le (nI d) (nI s) (nI k) n (nI (c + 1)) = some (nI e) ∧ c ≤ e ∧ e < 2 ^ I ∧ nx s e = some t ∧ Ld nx (2 ^ I) q (d - k - 1) t ∧ ∀ e2, c ≤ e2 → e2 < e → ∀ t2, nx s e2 = some t2 → ¬ Ld nx (2 ^ I) q (d - k - 1) t2 := by
      intro hno
      obtain ⟨e, t, a1, a2, a3, a4, a5, a6⟩ := ih n (c + 1) (by omega) (by omega) (by
        obtain ⟨e, e1, e2, t, e3, e4⟩ := hex
        by_cases z : e = c
        · rw [z] at e3; exact absurd e4 (hno t e3)
        · exact ⟨e, by omega, e2, t, e3, e4⟩)
      refine ⟨e, t, a1, by omega, a3, a4, a5, fun e2 h3 h4 => ?_⟩
      by_cases z : e2 = c
      · rw [z]; exact hno
      · exact a6 e2 (by omega) h4
    rw [L_Mod_way_76]
    simp only [i16m, gd_nI (show 16 * s + c < 4096 by omega) (show 4096 < 2 ^ 31 by decide), nI_clamp (show 16 * s + c < 2 ^ 31 by omega), nI_1, hsub]
    cases e : nx s c with
    | none =>
      rw [if_pos ((hT s hs c (by omega)).1 e)]
      exact skip (fun t w => by rw [e] at w; cases w)
    | some t =>
      obtain ⟨t1, t2, t3⟩ := (hT s hs c (by omega)).2 t e
      rw [if_neg (by rw [t1]; decide), t2, i256m, gd_nI (show 256 * (d - k - 1) + t < 65536 by omega) (by decide), nI_clamp (by omega)]
      by_cases c1 : le (256 * (d - k - 1) + t) = 0
      · rw [if_pos c1]
        exact skip (fun t' w l => by rw [e] at w; cases w; exact (hl t t3).mpr l c1)
      · rw [if_neg c1]
        exact ⟨c, t, rfl, Nat.le_refl _, by omega, e, (hl t t3).mp c1, fun e2 h3 h4 => absurd h4 (by omega)⟩
theorem p_w67 (hI : I ≤ 4) (hK : K ≤ 8) (hT : TB nx (2 ^ K) (2 ^ I) se ne) {q d i : Nat} (hi : i < d) (hd : d ≤ 255) {le : Nat → Int32} (hl : ∀ j, j ≤ d → ∀ t, t < 2 ^ K → (le (256 * j + t) ≠ 0 ↔ Ld nx (2 ^ I) q j t)) :
    ∀ (m n k s : Nat) (c : Int32), k + m = i + 1 → m < n → s < 2 ^ K → Ld nx (2 ^ I) q (d - k) s → ∃ r, L_Mod_way_67 se ne le (nI i) (nI d) n (nI s) c (nI k) = some r := by
  have hp := pow4 hI
  have hp8 := pow8 hK
  intro m
  induction m with
  | zero =>
    intro n k s c h1 h2 hs hL
    obtain ⟨n, rfl⟩ : ∃ z, n = z + 1 := ⟨n - 1, by omega⟩
    rw [L_Mod_way_67, if_pos ((nI_ltI (by omega) (by omega)).mpr (by omega))]
    exact ⟨_, rfl⟩
  | succ m ih =>
    intro n k s c h1 h2 hs hL
    obtain ⟨n, rfl⟩ : ∃ z, n = z + 1 := ⟨n - 1, by omega⟩
    rw [show d - k = (d - k - 1) + 1 by omega] at hL
    obtain ⟨e0, he0, t0, e1, l0⟩ := hL
    obtain ⟨e, t, a1, a2, a3, a4, a5, _⟩ := p_w76 hI hK hT (show k < d by omega) hd hs (fun t ht => hl (d - k - 1) (by omega) t ht) (2 ^ I) fu 0 (by omega) (by rw [fu]; omega) ⟨e0, Nat.zero_le _, he0, t0, e1, l0⟩
    have a1' : L_Mod_way_76 se ne le (nI d) (nI s) (nI k) fu (0 : Int32) = some (nI e) := a1
    obtain ⟨t1, t2, t3⟩ := (hT s hs e a3).2 t a4
    rw [L_Mod_way_67, if_neg (by rw [nI_ltI (by omega) (by omega)]; omega), a1', Option.bind_some, i16m, gd_nI (show 16 * s + e < 4096 by omega) (by decide), nI_clamp (by omega), t2, nI_1]
    exact ih n (k + 1) t (nI e) (by omega) (by omega) t3 (by rw [show d - (k + 1) = d - k - 1 by omega]; exact a5)
end REFY
section QW
variable {gs : List Nat} {fs : List (Nat × Nat)} {os : List Nat} {pn : Nat → Int32} {pt : Int32} {se va : Nat → Int64} {ns di od pa st : Nat → Int32} {sp : Nat → Int64} {wd re du dS dC : Int32}
  {mse mne : Nat → Int32} {mon : Nat → Int64} {mdi map : Nat → Int32}
theorem q_way0 (hw : WF gs fs os) {x y : Int32} (hX : XX gs fs os pn pt se va ns di od pa st sp wd re du dS dC mse mne mon mdi map x y) (co : Int32) (ml : Nat → Int32) (out : Nat → Int64) (a i : Int32) :
    ∃ k o b, m_Law_way (nI (gs.count 1)) di pa st x out a i = some (k, o) ∧ m_Mod_way co (nI (gs.count 0)) (nI (gs.count 1)) y mse mne mdi ml a i = some b := by
  have hI := hw.2.1
  have hK := hw.2.2.1
  have hp4 := pow4 hI
  have hp8 := pow8 hK
  rw [m_Mod_way]
  simp only [sx_let]
  rcases ix_cases a (n := 2 ^ gs.count 1) (by omega) with h | ⟨j, hj, rfl⟩
  · obtain ⟨e1, e2⟩ := rs_no hK h
    rcases hX with ⟨rfl, rfl⟩ | ⟨rfl, rfl, _, _⟩
    · exact ⟨1, out, _, by rw [m_Law_way, m_Exp_way, rx_0]; rfl, by rw [if_pos rfl, e2, Option.bind_some, if_pos rfl, fails_1]; rfl⟩
    · exact ⟨2, out, _, by rw [m_Law_way, m_Exp_way, rx_1, Option.bind_some, se_r, e1]; rfl, by rw [if_neg (by decide), e2, Option.bind_some, if_pos rfl, fails_2]; rfl⟩
  · obtain ⟨e1, e2⟩ := rs_yes hK hj
    rcases hX with ⟨rfl, rfl⟩ | ⟨rfl, rfl, hE, hM⟩
    · exact ⟨1, out, _, by rw [m_Law_way, m_Exp_way, rx_0]; rfl, by rw [if_pos rfl, e2, Option.bind_some, if_neg (by decide), fails_1]; rfl⟩
    · have hIA := WG_IA (fs := fs) hw
      have hlen := WG_len (fs := fs) hw
      have hB := TM_TB hM.1
      have lhs : ∃ k o, m_Law_way (nI (gs.count 1)) di pa st 1 out (nI j) i = some (k, o) := by
        rw [m_Law_way, m_Exp_way, rx_1, Option.bind_some, se_r, e1, Option.bind_some, se_r]
        by_cases c : (0 : Int32) ≤ i
        · obtain ⟨w, hw2, rfl⟩ := nI_of (Int32.not_lt.mpr c)
          rw [if_pos c, p_stepOfWay hp8.2 hE.2.1 hE.2.2.1 hj hw2, Option.bind_some, Option.bind_some, se_r, in01]
          exact ⟨_, _, rfl⟩
        · rw [if_neg c]; exact ⟨_, _, rfl⟩
      obtain ⟨k, o, hlhs⟩ := lhs
      rw [if_neg (by decide), e2, Option.bind_some, if_neg (by decide), fails_0, Option.bind_some, if_pos rfl, gd_nI (by omega) (by decide), nI_clamp (by omega)]
      suffices hs : ∃ b, (if i < (0 : Int32) then some ((-1 : Int32), (0 : Int32), ml) else (if i < mdi j then (m_Mod_lead (nI (gs.count 0)) (nI (gs.count 1)) mse mne ml (nI j) (mdi j)).bind (fun v11 => ((L_Mod_way_67 mse mne v11 i (mdi j) fu (0 : Int32) (0 : Int32) (0 : Int32)).bind (fun v21 => some (v21, (0 : Int32), v11)))) else some ((-1 : Int32), (0 : Int32), ml))) = some b by
        obtain ⟨b, hb⟩ := hs
        exact ⟨k, o, b, hlhs, hb⟩
      by_cases c0 : i < 0
      · rw [if_pos c0]; exact ⟨_, rfl⟩
      · rw [if_neg c0]
        by_cases c1 : i < mdi j
        · rw [if_pos c1]
          obtain ⟨w, hw2, rfl⟩ := nI_of c0
          have hin : j ∈ (WG gs fs).1 := Classical.byContradiction fun z => by
            rw [hM.2.1 j hj, if_neg z] at c1
            have : (-1 : Int32).toInt = -1 := by decide
            have h2 := nI_toInt hw2
            rw [Int32.lt_iff_toInt_lt] at c1
            omega
          have hdl := (hIA.2.1 _ hin).2
          rw [hM.2.1 j hj, if_pos hin] at c1 ⊢
          have hwd := (nI_ltI hw2 (show (WG gs fs).2.1 j < 2 ^ 31 by omega)).mp c1
          obtain ⟨r, r1, r2⟩ := p_lead hI hK hB hj (show (WG gs fs).2.1 j ≤ 255 by omega) ml
          have hPth : Pth (nxG gs fs) (2 ^ gs.count 0) ((WG gs fs).2.1 j) j := (walk_least (nx := nxG gs fs) (C := 2 ^ gs.count 0) hp8.2 hp8.1 (fun s _ c _ t ht => nxA_lt ht)).1 j hin
          have hLd := Pth_Ld (q := j) _ 0 j hPth rfl
          obtain ⟨z, hz⟩ := p_w67 hI hK hB hwd (show (WG gs fs).2.1 j ≤ 255 by omega) r2 (w + 1) fu 0 0 0 (by omega) (by rw [fu]; omega) (by omega) (by rw [Nat.sub_zero]; exact hLd)
          have hz' : L_Mod_way_67 mse mne r (nI w) (nI ((WG gs fs).2.1 j)) fu (0 : Int32) (0 : Int32) (0 : Int32) = some z := hz
          rw [r1, Option.bind_some, hz', Option.bind_some]
          exact ⟨_, rfl⟩
        · rw [if_neg c1]; exact ⟨_, rfl⟩
end QW
