/-! the reference's table and its levels -/
theorem p_mstates {K : Nat} (h : K ≤ 8) : m_Mod_states (nI K) = some (nI (2 ^ K)) := by
  have key : ∀ k : Fin 9, (1 : Int32) <<< (nI k.val &&& 31) = nI (2 ^ k.val) := by decide +kernel
  rw [m_Mod_states, key ⟨K, by omega⟩]
theorem p_mchoices {I : Nat} (h : I ≤ 8) : m_Mod_choices (nI I) = some (nI (2 ^ I)) := by
  have key : ∀ k : Fin 9, (1 : Int32) <<< (nI k.val &&& 31) = nI (2 ^ k.val) := by decide +kernel
  rw [m_Mod_choices, key ⟨I, by omega⟩]
def TMa (gs : List Nat) (fs : List (Nat × Nat)) (se nx : Nat → Int32) (on : Nat → Int64) (s c : Nat) : Prop :=
  se (16 * s + c) = (if stN gs fs s c = true then 1 else 0) ∧ (∀ t, nxA gs fs (nvF gs fs) s c = some t → nx (16 * s + c) = nI t) ∧ ∀ g, g < gs.length → bL (on (16 * s + c)) g = vaN gs fs g s c
section REFE
variable {ga fe inp la ou : Int32} {so nu to fr oo ne : Nat → Int32} {gs : List Nat} {fs : List (Nat × Nat)} {os : List Nat}
theorem p_e32 (hw : WF gs fs os) (hR : RM ga fe inp la ou so nu to fr oo ne gs fs os) {s : Nat} (hs : s < 2 ^ gs.count 1) :
    ∀ (k n c : Nat) (v ma se nx : Nat → Int32) (on : Nat → Int64), c + k = 2 ^ gs.count 0 → k < n → (∀ d, d < c → TMa gs fs se nx on s d) →
      ∃ r, L_Mod_explore_32 ga fe inp so nu to fr ne (nI s) n (nI c) v ma se nx on = some r ∧ (∀ d, d < 2 ^ gs.count 0 → TMa gs fs r.2.2.1 r.2.2.2.1 r.2.2.2.2 s d) ∧ ∀ j, j / 16 ≠ s → r.2.2.1 j = se j ∧ r.2.2.2.1 j = nx j ∧ r.2.2.2.2 j = on j := by
  have hI := hw.2.1
  have hp := pow4 hI
  have hin : inp = nI (gs.count 0) := hR.2.2.1
  intro k
  induction k with
  | zero =>
    intro n c v ma se nx on h1 h2 hd
    obtain ⟨n, rfl⟩ : ∃ z, n = z + 1 := ⟨n - 1, by omega⟩
    rw [L_Mod_explore_32, hin, p_mchoices (by omega), Option.bind_some, if_pos ((nI_leI (by omega) (by omega)).mpr (by omega))]
    exact ⟨_, rfl, fun d hd2 => hd d (by omega), fun _ _ => ⟨rfl, rfl, rfl⟩⟩
  | succ k ih =>
    intro n c v ma se nx on h1 h2 hd
    obtain ⟨n, rfl⟩ : ∃ z, n = z + 1 := ⟨n - 1, by omega⟩
    obtain ⟨r, r1, r2, r3, r4, r5⟩ := p_work hw hR hs (show c < 16 by omega) v ma se nx on
    obtain ⟨q, q1, q2, q3⟩ := ih n (c + 1) r.1 r.2.1 r.2.2.1 r.2.2.2.1 r.2.2.2.2 (by omega) (by omega) (fun d hd2 => by
      by_cases z : d = c
      · rw [z]; exact ⟨r2, r3, r4⟩
      · obtain ⟨e1, e2, e3⟩ := r5 (16 * s + d) (by omega)
        obtain ⟨f1, f2, f3⟩ := hd d (by omega)
        refine ⟨by rw [e1]; exact f1, fun t ht => by rw [e2]; exact f2 t ht, fun g hg => by rw [e3]; exact f3 g hg⟩)
    rw [L_Mod_explore_32, hin, p_mchoices (by omega), Option.bind_some, if_neg (by rw [nI_leI (by omega) (by omega)]; omega), r1, Option.bind_some, nI_1, ← hin]
    refine ⟨q, q1, q2, fun j hj => ?_⟩
    obtain ⟨e1, e2, e3⟩ := r5 j (by omega)
    obtain ⟨f1, f2, f3⟩ := q3 j hj
    rw [f1, f2, f3, e1, e2, e3]
    exact ⟨rfl, rfl, rfl⟩
theorem p_e7 (hw : WF gs fs os) (hR : RM ga fe inp la ou so nu to fr oo ne gs fs os) :
    ∀ (k n i : Nat) (v ma se nx : Nat → Int32) (on : Nat → Int64) (di : Nat → Int32), i + k = 2 ^ gs.count 1 → k < n → (∀ s, s < i → (∀ d, d < 2 ^ gs.count 0 → TMa gs fs se nx on s d) ∧ di s = if s = 0 then 0 else -1) →
      ∃ r, L_Mod_explore_7 ga fe inp la so nu to fr ne n (nI i) v ma se nx on di = some r ∧ ∀ s, s < 2 ^ gs.count 1 → (∀ d, d < 2 ^ gs.count 0 → TMa gs fs r.2.2.1 r.2.2.2.1 r.2.2.2.2.1 s d) ∧ r.2.2.2.2.2 s = if s = 0 then 0 else -1 := by
  have hI := hw.2.1
  have hK := hw.2.2.1
  have hp := pow4 hI
  have hp8 := pow8 hK
  have hla : la = nI (gs.count 1) := hR.2.2.2.1
  intro k
  induction k with
  | zero =>
    intro n i v ma se nx on di h1 h2 hd
    obtain ⟨n, rfl⟩ : ∃ z, n = z + 1 := ⟨n - 1, by omega⟩
    rw [L_Mod_explore_7, hla, p_mstates hK, Option.bind_some, if_pos ((nI_leI (by omega) (by omega)).mpr (by omega))]
    exact ⟨_, rfl, fun s hs => hd s (by omega)⟩
  | succ k ih =>
    intro n i v ma se nx on di h1 h2 hd
    obtain ⟨n, rfl⟩ : ∃ z, n = z + 1 := ⟨n - 1, by omega⟩
    obtain ⟨r, r1, r2, r3⟩ := p_e32 hw hR (show i < 2 ^ gs.count 1 by omega) (2 ^ gs.count 0) fu 0 v ma se nx on (by omega) (by rw [fu]; omega) (fun d hd => absurd hd (by omega))
    have r1' : L_Mod_explore_32 ga fe inp so nu to fr ne (nI i) fu (0 : Int32) v ma se nx on = some r := r1
    have key : ∀ x : Int32, x = (if i = 0 then 0 else -1) → ∃ q, L_Mod_explore_7 ga fe inp la so nu to fr ne n (nI (i + 1)) r.1 r.2.1 r.2.2.1 r.2.2.2.1 r.2.2.2.2 (upd di i x) = some q ∧ ∀ s, s < 2 ^ gs.count 1 → (∀ d, d < 2 ^ gs.count 0 → TMa gs fs q.2.2.1 q.2.2.2.1 q.2.2.2.2.1 s d) ∧ q.2.2.2.2.2 s = if s = 0 then 0 else -1 := by
      intro x hx
      refine ih n (i + 1) _ _ _ _ _ _ (by omega) (by omega) (fun s hs => ?_)
      by_cases z : s = i
      · rw [z, upd_eq, if_pos rfl]
        exact ⟨r2, hx⟩
      · rw [upd_eq, if_neg z]
        obtain ⟨a, b⟩ := hd s (by omega)
        refine ⟨fun d hd2 => ?_, b⟩
        obtain ⟨e1, e2, e3⟩ := r3 (16 * s + d) (by omega)
        obtain ⟨f1, f2, f3⟩ := a d hd2
        exact ⟨by rw [e1]; exact f1, fun t ht => by rw [e2]; exact f2 t ht, fun g hg => by rw [e3]; exact f3 g hg⟩
    rw [L_Mod_explore_7]
    have hst := p_mstates hK
    rw [← hla] at hst
    rw [hst, Option.bind_some, if_neg (by rw [nI_leI (by omega) (by omega)]; omega)]
    simp only [sx_let, gd_nI (show i < 256 by omega) (show 256 < 2 ^ 31 by decide), nI_clamp (show i < 2 ^ 31 by omega), q0 (show i < 2 ^ 31 by omega), r1', Option.bind_some, nI_1]
    by_cases c : i = 0
    · rw [if_pos c]; exact key _ (by rw [if_pos c])
    · rw [if_neg c]; exact key _ (by rw [if_neg c])
end REFE
/-- a table of next states -/
def TB (nx : Nat → Nat → Option Nat) (S C : Nat) (se ne : Nat → Int32) : Prop := ∀ s, s < S → ∀ c, c < C → (nx s c = none → se (16 * s + c) = 0) ∧ ∀ t, nx s c = some t → se (16 * s + c) = 1 ∧ ne (16 * s + c) = nI t ∧ t < S
section REFL
variable {nx : Nat → Nat → Option Nat} {I K : Nat} {se ne : Nat → Int32}
def MB (nx : Nat → Nat → Option Nat) (C S d : Nat) (d0 di : Nat → Int32) : Prop := ∀ t, t < S → di t = d0 t ∨ (d0 t = -1 ∧ di t = nI (d + 1) ∧ Pth nx C (d + 1) t)
def FL (S : Nat) (x : Int32) (d0 di : Nat → Int32) : Prop := (x = 0 ∧ ∀ t, t < S → di t = d0 t) ∨ (x = 1 ∧ ∃ t, t < S ∧ d0 t = -1 ∧ di t ≠ -1)
theorem p_e81 (hI : I ≤ 4) (hK : K ≤ 8) (hT : TB nx (2 ^ K) (2 ^ I) se ne) {d s : Nat} (hd : d < 1000) (hs : s < 2 ^ K) {d0 : Nat → Int32} (hP : d0 s = nI d → Pth nx (2 ^ I) d s) :
    ∀ (k n c : Nat) (x : Int32) (di : Nat → Int32), c + k = 2 ^ I → k < n → MB nx (2 ^ I) (2 ^ K) d d0 di → FL (2 ^ K) x d0 di → (∀ e, e < c → ∀ t, nx s e = some t → di t ≠ -1) →
      ∃ r, L_Mod_explore_81 (nI I) se ne (nI d) (nI s) n x (nI c) di = some r ∧ MB nx (2 ^ I) (2 ^ K) d d0 r.2 ∧ FL (2 ^ K) r.1 d0 r.2 ∧ (∀ t, t < 2 ^ K → di t ≠ -1 → r.2 t ≠ -1) ∧ (d0 s = nI d → ∀ e, e < 2 ^ I → ∀ t, nx s e = some t → r.2 t ≠ -1) := by
  have hp := pow4 hI
  have hp8 := pow8 hK
  intro k
  induction k with
  | zero =>
    intro n c x di h1 h2 hM hF hc
    obtain ⟨n, rfl⟩ : ∃ z, n = z + 1 := ⟨n - 1, by omega⟩
    rw [L_Mod_explore_81, p_mchoices (by omega), Option.bind_some, if_pos ((nI_leI (by omega) (by omega)).mpr (by omega))]
    exact ⟨_, rfl, hM, hF, fun _ _ h => h, fun _ e he => hc e (by omega)⟩
  | succ k ih =>
    intro n c x di h1 h2 hM hF hc
    obtain ⟨n, rfl⟩ : ∃ z, n = z + 1 := ⟨n - 1, by omega⟩
    have hsd : di s = nI d ↔ d0 s = nI d := by
      rcases hM s hs with z | ⟨z1, z2, _⟩
      · rw [z]
      · rw [z1, z2]
        constructor
        · intro q; rw [nI_eq (by omega) (by omega)] at q; omega
        · intro q; exact absurd q.symm (m1_ne (by omega))
    have ha : 16 * s + c < 4096 := by omega
    rw [L_Mod_explore_81, p_mchoices (by omega), Option.bind_some, if_neg (by rw [nI_leI (by omega) (by omega)]; omega), gd_nI (show s < 256 by omega) (by decide), nI_clamp (show s < 2 ^ 31 by omega)]
    simp only [i16m, gd_nI ha (show 4096 < 2 ^ 31 by decide), nI_clamp (show 16 * s + c < 2 ^ 31 by omega), nI_1]
    by_cases c1 : d0 s = nI d
    · rw [if_pos (hsd.mpr c1)]
      cases e : nx s c with
      | none =>
        rw [if_pos ((hT s hs c (by omega)).1 e)]
        refine ih n (c + 1) x di (by omega) (by omega) hM hF (fun e' he t ht => ?_)
        by_cases z : e' = c
        · rw [z, e] at ht; cases ht
        · exact hc e' (by omega) t ht
      | some t =>
        obtain ⟨t1, t2, t3⟩ := (hT s hs c (by omega)).2 t e
        rw [if_neg (by rw [t1]; decide), t2, gd_nI (show t < 256 by omega) (by decide), gd_nI (show t < 256 by omega) (by decide), nI_clamp (show t < 2 ^ 31 by omega)]
        by_cases c2 : di t = -1
        · rw [if_pos c2]
          have d0t : d0 t = -1 := by
            rcases hM t t3 with z | ⟨z1, _, _⟩
            · rw [← z]; exact c2
            · exact z1
          have hne : nI (d + 1) ≠ (-1 : Int32) := m1_ne (by omega)
          obtain ⟨r, r1, r2, r3, r4, r5⟩ := ih n (c + 1) 1 (upd di t (nI (d + 1))) (by omega) (by omega) (fun q hq => by
              rw [upd_eq]
              by_cases z : q = t
              · rw [if_pos z, z]; exact Or.inr ⟨d0t, rfl, s, hP c1, c, by omega, e⟩
              · rw [if_neg z]; exact hM q hq) (Or.inr ⟨rfl, t, t3, d0t, by rw [upd_eq, if_pos rfl]; exact hne⟩) (fun e' he q hq => by
              rw [upd_eq]
              by_cases z : q = t
              · rw [if_pos z]; exact hne
              · rw [if_neg z]
                by_cases z2 : e' = c
                · rw [z2, e] at hq; cases hq; exact absurd rfl z
                · exact hc e' (by omega) q hq)
          refine ⟨r, r1, r2, r3, fun q hq hq2 => r4 q hq ?_, r5⟩
          rw [upd_eq]
          by_cases z : q = t
          · rw [if_pos z]; exact hne
          · rw [if_neg z]; exact hq2
        · rw [if_neg c2]
          refine ih n (c + 1) x di (by omega) (by omega) hM hF (fun e' he q hq => ?_)
          by_cases z : e' = c
          · rw [z, e] at hq; cases hq; exact c2
          · exact hc e' (by omega) q hq
    · rw [if_neg (fun q => c1 (hsd.mp q))]
      exact ⟨_, rfl, hM, hF, fun _ _ h => h, fun q => absurd q c1⟩
theorem p_e70 (hI : I ≤ 4) (hK : K ≤ 8) (hT : TB nx (2 ^ K) (2 ^ I) se ne) {d : Nat} (hd : d < 1000) {d0 : Nat → Int32} (hP : ∀ s, s < 2 ^ K → d0 s = nI d → Pth nx (2 ^ I) d s) :
    ∀ (k n i : Nat) (x : Int32) (di : Nat → Int32), i + k = 2 ^ K → k < n → MB nx (2 ^ I) (2 ^ K) d d0 di → FL (2 ^ K) x d0 di → (∀ s, s < i → d0 s = nI d → ∀ e, e < 2 ^ I → ∀ t, nx s e = some t → di t ≠ -1) →
      ∃ r, L_Mod_explore_70 (nI I) (nI K) se ne (nI d) n x (nI i) di = some r ∧ MB nx (2 ^ I) (2 ^ K) d d0 r.2 ∧ FL (2 ^ K) r.1 d0 r.2 ∧ (∀ s, s < 2 ^ K → d0 s = nI d → ∀ e, e < 2 ^ I → ∀ t, nx s e = some t → r.2 t ≠ -1) := by
  have hp := pow4 hI
  have hp8 := pow8 hK
  intro k
  induction k with
  | zero =>
    intro n i x di h1 h2 hM hF hc
    obtain ⟨n, rfl⟩ : ∃ z, n = z + 1 := ⟨n - 1, by omega⟩
    rw [L_Mod_explore_70, p_mstates hK, Option.bind_some, if_pos ((nI_leI (by omega) (by omega)).mpr (by omega))]
    exact ⟨_, rfl, hM, hF, fun s hs => hc s (by omega)⟩
  | succ k ih =>
    intro n i x di h1 h2 hM hF hc
    obtain ⟨n, rfl⟩ : ∃ z, n = z + 1 := ⟨n - 1, by omega⟩
    obtain ⟨r, r1, r2, r3, r4, r5⟩ := p_e81 hI hK hT hd (show i < 2 ^ K by omega) (hP i (by omega)) (2 ^ I) fu 0 x di (by omega) (by rw [fu]; omega) hM hF (fun e he => absurd he (by omega))
    have r1' : L_Mod_explore_81 (nI I) se ne (nI d) (nI i) fu x (0 : Int32) di = some r := r1
    rw [L_Mod_explore_70, p_mstates hK, Option.bind_some, if_neg (by rw [nI_leI (by omega) (by omega)]; omega), r1', Option.bind_some, nI_1]
    refine ih n (i + 1) r.1 r.2 (by omega) (by omega) r2 r3 (fun s hs hs2 e he t ht => ?_)
    by_cases z : s = i
    · rw [z] at hs2 ht; exact r5 hs2 e he t ht
    · exact r4 t ((hT s (by omega) e he).2 t ht).2.2 (hc s (by omega) hs2 e he t ht)
/-- the levels so far -/
def LV (nx : Nat → Nat → Option Nat) (C S d : Nat) (di : Nat → Int32) : Prop := ∀ s, s < S → (∃ n, n ≤ d ∧ di s = nI n ∧ Pth nx C n s ∧ ∀ m, m < n → ¬ Pth nx C m s) ∨ (di s = -1 ∧ ∀ m, m ≤ d → ¬ Pth nx C m s)
def DS (nx : Nat → Nat → Option Nat) (C S : Nat) (di : Nat → Int32) : Prop := ∀ s, s < S → (∃ n, n < 1000 ∧ di s = nI n ∧ Pth nx C n s ∧ ∀ m, m < n → ¬ Pth nx C m s) ∨ (di s = -1 ∧ ∀ m, ¬ Pth nx C m s)
def cM (S : Nat) (di : Nat → Int32) : Nat := (List.range' 0 S).countP (fun t => decide (di t = -1))
theorem Pth_lt {S C : Nat} (h1 : 1 ≤ S) (hn : ∀ s, s < S → ∀ c, c < C → ∀ t, nx s c = some t → t < S) : ∀ {m s : Nat}, Pth nx C m s → s < S
  | 0, s, h => by rw [show s = 0 from h]; omega
  | m + 1, s, ⟨q, hq, c, hc, e⟩ => hn q (Pth_lt h1 hn hq) c hc s e
theorem LV_next {S C d : Nat} (hd : d < 1000) (h1 : 1 ≤ S) (hn : ∀ s, s < S → ∀ c, c < C → ∀ t, nx s c = some t → t < S) {d0 di : Nat → Int32} (hL : LV nx C S d d0) (hM : MB nx C S d d0 di) (hc : ∀ s, s < S → d0 s = nI d → ∀ e, e < C → ∀ t, nx s e = some t → di t ≠ -1) : LV nx C S (d + 1) di := by
  intro s hs
  have hno : (∀ m, m ≤ d → ¬ Pth nx C m s) → di s = -1 → ¬ Pth nx C (d + 1) s := by
    intro h2 h3 ⟨q, hq, c, hc2, e⟩
    have hqS := Pth_lt h1 hn hq
    rcases hL q hqS with ⟨n, n1, n2, n3, n4⟩ | ⟨_, n2⟩
    · by_cases z : n = d
      · rw [z] at n2; exact hc q hqS n2 c hc2 s e h3
      · exact h2 (n + 1) (by omega) ⟨q, n3, c, hc2, e⟩
    · exact n2 d (Nat.le_refl _) hq
  rcases hM s hs with z | ⟨z1, z2, z3⟩
  · rcases hL s hs with ⟨n, n1, n2, n3, n4⟩ | ⟨n1, n2⟩
    · exact Or.inl ⟨n, by omega, by rw [z]; exact n2, n3, n4⟩
    · refine Or.inr ⟨by rw [z]; exact n1, fun m hm => ?_⟩
      rcases Nat.lt_or_ge d m with q | q
      · rw [show m = d + 1 by omega]
        exact hno n2 (by rw [z]; exact n1)
      · exact n2 m q
  · rcases hL s hs with ⟨n, n1, n2, n3, n4⟩ | ⟨n1, n2⟩
    · rw [z1] at n2; exact absurd n2.symm (m1_ne (by omega))
    · exact Or.inl ⟨d + 1, Nat.le_refl _, z2, z3, fun m hm => n2 m (by omega)⟩
theorem p_e62 (hI : I ≤ 4) (hK : K ≤ 8) (hT : TB nx (2 ^ K) (2 ^ I) se ne) : ∀ (u n d : Nat) (di : Nat → Int32), cM (2 ^ K) di ≤ u → u + 2 ≤ n → d + u < 900 → LV nx (2 ^ I) (2 ^ K) d di →
      ∃ r, L_Mod_explore_62 (nI I) (nI K) se ne n (1 : Int32) (nI d) di = some r ∧ DS nx (2 ^ I) (2 ^ K) r := by
  have hp := pow4 hI
  have hp8 := pow8 hK
  have hn : ∀ s, s < 2 ^ K → ∀ c, c < 2 ^ I → ∀ t, nx s c = some t → t < 2 ^ K := fun s hs c hc t ht => ((hT s hs c hc).2 t ht).2.2
  intro u
  induction u with
  | zero =>
    intro n d di h1 h2 h3 hL
    obtain ⟨n, rfl⟩ : ∃ z, n = z + 2 := ⟨n - 2, by omega⟩
    have hP : ∀ s, s < 2 ^ K → di s = nI d → Pth nx (2 ^ I) d s := fun s hs e => by
      rcases hL s hs with ⟨m, m1, m2, m3, _⟩ | ⟨m1, _⟩
      · rw [m2, nI_eq (by omega) (by omega)] at e; rw [← e]; exact m3
      · rw [m1] at e; exact absurd e.symm (m1_ne (by omega))
    obtain ⟨r, r1, r2, r3, r4⟩ := p_e70 hI hK hT (show d < 1000 by omega) hP (2 ^ K) fu 0 0 di (by omega) (by rw [fu]; omega) (fun t _ => Or.inl rfl) (Or.inl ⟨rfl, fun _ _ => rfl⟩) (fun s hs => absurd hs (by omega))
    have r1' : L_Mod_explore_70 (nI I) (nI K) se ne (nI d) fu (0 : Int32) (0 : Int32) di = some r := r1
    rw [L_Mod_explore_62, if_neg (by decide), r1', Option.bind_some]
    have hz : r.1 = 0 ∧ ∀ t, t < 2 ^ K → r.2 t = di t := by
      rcases r3 with z | ⟨_, t, t1, t2, _⟩
      · exact z
      · have hc : cM (2 ^ K) di = 0 := by omega
        have := List.countP_eq_zero.mp hc t (List.mem_range'_1.mpr ⟨by omega, by omega⟩)
        exact absurd (decide_eq_true t2) this
    rw [hz.1, L_Mod_explore_62, if_pos rfl]
    refine ⟨_, rfl, fun s hs => ?_⟩
    rw [hz.2 s hs]
    rcases hL s hs with ⟨m, m1, m2, m3, m4⟩ | ⟨m1, m2⟩
    · exact Or.inl ⟨m, by omega, m2, m3, m4⟩
    · have hc : cM (2 ^ K) di = 0 := by omega
      have := List.countP_eq_zero.mp hc s (List.mem_range'_1.mpr ⟨by omega, by omega⟩)
      exact absurd (decide_eq_true m1) this
  | succ u ih =>
    intro n d di h1 h2 h3 hL
    obtain ⟨n, rfl⟩ : ∃ z, n = z + 2 := ⟨n - 2, by omega⟩
    have hP : ∀ s, s < 2 ^ K → di s = nI d → Pth nx (2 ^ I) d s := fun s hs e => by
      rcases hL s hs with ⟨m, m1, m2, m3, _⟩ | ⟨m1, _⟩
      · rw [m2, nI_eq (by omega) (by omega)] at e; rw [← e]; exact m3
      · rw [m1] at e; exact absurd e.symm (m1_ne (by omega))
    obtain ⟨r, r1, r2, r3, r4⟩ := p_e70 hI hK hT (show d < 1000 by omega) hP (2 ^ K) fu 0 0 di (by omega) (by rw [fu]; omega) (fun t _ => Or.inl rfl) (Or.inl ⟨rfl, fun _ _ => rfl⟩) (fun s hs => absurd hs (by omega))
    have r1' : L_Mod_explore_70 (nI I) (nI K) se ne (nI d) fu (0 : Int32) (0 : Int32) di = some r := r1
    rw [L_Mod_explore_62, if_neg (by decide), r1', Option.bind_some]
    have hL2 := LV_next (show d < 1000 by omega) hp8.1 hn hL r2 r4
    rcases r3 with ⟨z1, z2⟩ | ⟨z1, t, t1, t2, t3⟩
    · rw [z1, L_Mod_explore_62, if_pos rfl]
      refine ⟨_, rfl, ?_⟩
      have hall : ∀ m s, Pth nx (2 ^ I) m s → ∃ j, j ≤ d ∧ Pth nx (2 ^ I) j s := by
        intro m
        induction m with
        | zero => intro s hs; exact ⟨0, by omega, hs⟩
        | succ m ihm =>
          intro s hs
          have hsS := Pth_lt hp8.1 hn hs
          obtain ⟨q, hq, c, hc, e⟩ := hs
          obtain ⟨j, j1, j2⟩ := ihm q hq
          rcases hL s hsS with ⟨m, m1, _, m3, _⟩ | ⟨m1, _⟩
          · exact ⟨m, m1, m3⟩
          · rcases hL2 s hsS with ⟨x, x1, x2, x3, x4⟩ | ⟨_, x2⟩
            · rw [z2 s hsS, m1] at x2; exact absurd x2.symm (m1_ne (by omega))
            · exact absurd ⟨q, j2, c, hc, e⟩ (x2 (j + 1) (by omega))
      intro s hs
      rw [z2 s hs]
      rcases hL s hs with ⟨m, m1, m2, m3, m4⟩ | ⟨m1, m2⟩
      · exact Or.inl ⟨m, by omega, m2, m3, m4⟩
      · refine Or.inr ⟨m1, fun m hm => ?_⟩
        obtain ⟨j, j1, j2⟩ := hall m s hm
        exact m2 j j1 j2
    · rw [z1, nI_1]
      have hlt : cM (2 ^ K) r.2 < cM (2 ^ K) di := by
        refine cnt_lt (fun x hx h => ?_) ⟨t, List.mem_range'_1.mpr ⟨by omega, by omega⟩, decide_eq_false t3, decide_eq_true t2⟩
        have hx2 := List.mem_range'_1.mp hx
        have h' : r.2 x = -1 := of_decide_eq_true h
        rcases r2 x (by omega) with y | ⟨y1, y2, _⟩
        · exact decide_eq_true (by rw [← y]; exact h')
        · exact decide_eq_true y1
      exact ih (n + 1) (d + 1) r.2 (by omega) (by omega) (by omega) hL2
/-- the reference's distances are the walk's -/
theorem DS_walk {S C : Nat} (hS : S ≤ 256) (h1 : 1 ≤ S) (hn : ∀ s, s < S → ∀ c, c < C → ∀ t, nx s c = some t → t < S) {di : Nat → Int32} (h : DS nx C S di) {s : Nat} (hs : s < S) : di s = if s ∈ (walkA nx C 256 0 begA).1 then nI ((walkA nx C 256 0 begA).2.1 s) else -1 := by
  obtain ⟨a1, _, a3⟩ := walk_least (nx := nx) (C := C) hS h1 hn
  rcases h s hs with ⟨n, _, n2, n3, n4⟩ | ⟨n1, n2⟩
  · obtain ⟨b1, b2⟩ := a3 n s n3
    rw [if_pos b1, n2]
    congr 1
    have := a1 s b1
    rcases Nat.lt_or_ge ((walkA nx C 256 0 begA).2.1 s) n with z | z
    · exact absurd this (n4 _ z)
    · omega
  · rw [if_neg (fun q => n2 _ (a1 s q)), n1]
end REFL
