theorem p_stateTotal {K : Nat} (h : K ≤ 8) : m_Net_stateTotal (nI K) = some (nI (2 ^ K)) := by
  have key : ∀ k : Fin 9, (1 : Int32) <<< (nI k.val &&& 31) = nI (2 ^ k.val) := by decide +kernel
  rw [m_Net_stateTotal, key ⟨K, by omega⟩]
theorem p_choiceTotal {I : Nat} (h : I ≤ 8) : m_Net_choiceTotal (nI I) = some (nI (2 ^ I)) := by
  have key : ∀ k : Fin 9, (1 : Int32) <<< (nI k.val &&& 31) = nI (2 ^ k.val) := by decide +kernel
  rw [m_Net_choiceTotal, key ⟨I, by omega⟩]
def wt (K : Nat) : Nat := (2 ^ K - 1) / 4 + 1
theorem pow8 {K : Nat} (h : K ≤ 8) : 1 ≤ 2 ^ K ∧ 2 ^ K ≤ 256 := ⟨Nat.one_le_two_pow, Nat.pow_le_pow_right (by decide) h⟩
theorem pow4 {K : Nat} (h : K ≤ 4) : 1 ≤ 2 ^ K ∧ 2 ^ K ≤ 16 := ⟨Nat.one_le_two_pow, Nat.pow_le_pow_right (by decide) h⟩
theorem wt_le {K : Nat} (h : K ≤ 8) : 1 ≤ wt K ∧ wt K ≤ 64 := by
  have := pow8 h
  rw [wt]; omega
theorem wt_of {K s : Nat} (h : s < 2 ^ K) : s / 4 < wt K := by rw [wt]; omega
theorem p_wordTotal {K : Nat} (h : K ≤ 8) : m_Net_wordTotal (nI K) = some (nI (wt K)) := by
  have hp := pow8 h
  rw [m_Net_wordTotal, p_stateTotal h, Option.bind_some, i1, pk_sub hp.1, p_wordOf (by omega), Option.bind_some, nI_add, wt]
section FI
variable {so ra st li nl ou : Nat → Int32} {gT iT lT oT : Int32} {gs : List Nat} {fs : List (Nat × Nat)} {os : List Nat} {nv : Nat → Nat}
theorem NX_of {se va : Nat → Int64} (hw : WF gs fs os) (hn : ∀ k, k < gs.count 1 → nv k < 2 * gs.length) (h1 : ∀ w, w < wt (gs.count 1) → se w = SE gs fs w ∧ ∀ g, g < gs.length → va (g * 64 + w) = KN gs fs w (2 * g)) {s c : Nat} (hs : s < 2 ^ gs.count 1) :
    (if bL (se (s / 4)) (s % 4 * 16 + c) = false then -1 else nI (nxt va nv (s / 4) (s % 4 * 16 + c) (gs.count 1))) = NX gs fs nv s c := by
  have hwd := wt_of hs
  have h64 := (wt_le hw.2.2.1).2
  obtain ⟨e1, e2⟩ := h1 _ hwd
  rw [NX, e1, nxt_agr (va := va) (vb := VA gs fs) (gs.count 1) (fun i hi => ?_)]
  have := hn i hi
  rw [e2 _ (by omega), VA]
  congr 1
  · congr 1; omega
  · omega
theorem p_fill58 {K I s : Nat} {se va : Nat → Int64} (hK : K ≤ 8) (hI : I ≤ 16) (hs : s < 256) (hnl : ∀ k, k < K → nl k = nI (nv k) ∧ nv k < 120) :
    ∀ (k n c : Nat) (ns : Nat → Int32), c + k = I → k < n → ∃ r, L_Tab_fill_58 nl (nI K) se va (nI I) (nI s) n (nI c) ns = some r ∧ (∀ d, c ≤ d → d < I → r (s * 16 + d) = if bL (se (s / 4)) (s % 4 * 16 + d) = false then -1 else nI (nxt va nv (s / 4) (s % 4 * 16 + d) K)) ∧ (∀ j, (∀ d, c ≤ d → d < I → j ≠ s * 16 + d) → r j = ns j) := by
  intro k
  induction k with
  | zero =>
    intro n c ns h1 h2
    obtain ⟨n, rfl⟩ : ∃ z, n = z + 1 := ⟨n - 1, by omega⟩
    rw [L_Tab_fill_58, if_pos ((nI_leI (by omega) (by omega)).mpr (by omega))]
    exact ⟨_, rfl, fun d a b => absurd b (by omega), fun _ _ => rfl⟩
  | succ k ih =>
    intro n c ns h1 h2
    obtain ⟨n, rfl⟩ : ∃ z, n = z + 1 := ⟨n - 1, by omega⟩
    have e16 : nI s * (16 : Int32) + nI c = nI (s * 16 + c) := by rw [i16, pk_mul, nI_add]
    rw [L_Tab_fill_58, if_neg (by rw [nI_leI (by omega) (by omega)]; omega), p_findNext hK hs (by omega) hnl, Option.bind_some, e16, gd_nI (by omega) (by decide), nI_clamp (by omega), nI_1]
    obtain ⟨r, r1, r2, r3⟩ := ih n (c + 1) (upd ns (s * 16 + c) (if bL (se (s / 4)) (s % 4 * 16 + c) = false then -1 else nI (nxt va nv (s / 4) (s % 4 * 16 + c) K))) (by omega) (by omega)
    refine ⟨r, r1, fun d a b => ?_, fun j hj => ?_⟩
    · rcases Nat.lt_or_ge c d with e | e
      · exact r2 d (by omega) b
      · have : d = c := by omega
        subst this
        rw [r3 _ (fun d' a' b' => by omega), upd_eq, if_pos rfl]
    · rw [r3 j (fun d' a' b' => hj d' (by omega) b'), upd_eq, if_neg (hj c (Nat.le_refl _) (by omega))]
theorem p_fill49 {K I S : Nat} {se va : Nat → Int64} (hK : K ≤ 8) (hI : I ≤ 16) (hS : S ≤ 256) (hnl : ∀ k, k < K → nl k = nI (nv k) ∧ nv k < 120) :
    ∀ (k n s : Nat) (ns : Nat → Int32), s + k = S → k < n → ∃ r, L_Tab_fill_49 nl (nI K) se va (nI S) (nI I) n (nI s) ns = some r ∧ (∀ q, s ≤ q → q < S → ∀ d, d < I → r (q * 16 + d) = if bL (se (q / 4)) (q % 4 * 16 + d) = false then -1 else nI (nxt va nv (q / 4) (q % 4 * 16 + d) K)) ∧ (∀ q, q < s → ∀ d, d < I → r (q * 16 + d) = ns (q * 16 + d)) := by
  intro k
  induction k with
  | zero =>
    intro n s ns h1 h2
    obtain ⟨n, rfl⟩ : ∃ z, n = z + 1 := ⟨n - 1, by omega⟩
    rw [L_Tab_fill_49, if_pos ((nI_leI (by omega) (by omega)).mpr (by omega))]
    exact ⟨_, rfl, fun d a b => absurd b (by omega), fun _ _ _ _ => rfl⟩
  | succ k ih =>
    intro n s ns h1 h2
    obtain ⟨n, rfl⟩ : ∃ z, n = z + 1 := ⟨n - 1, by omega⟩
    obtain ⟨r0, a1, a2, a3⟩ := p_fill58 (nl := nl) (se := se) (va := va) (s := s) hK hI (by omega) hnl I fu 0 ns (by omega) (by rw [fu]; omega)
    have a1' : L_Tab_fill_58 nl (nI K) se va (nI I) (nI s) fu (0 : Int32) ns = some r0 := a1
    rw [L_Tab_fill_49, if_neg (by rw [nI_leI (by omega) (by omega)]; omega), a1', Option.bind_some, nI_1]
    obtain ⟨r, r1, r2, r3⟩ := ih n (s + 1) r0 (by omega) (by omega)
    refine ⟨r, r1, fun q a b d hd => ?_, fun q a d hd => ?_⟩
    · rcases Nat.lt_or_ge s q with e | e
      · exact r2 q (by omega) b d hd
      · have : q = s := by omega
        subst this
        rw [r3 _ (by omega) d hd]
        exact a2 d (Nat.zero_le _) hd
    · rw [r3 q (by omega) d hd, a3 _ (fun d' _ b' => by omega)]
/-- what the table holds of the net -/
def TI (gs : List Nat) (fs : List (Nat × Nat)) (nv : Nat → Nat) (se va : Nat → Int64) (ns : Nat → Int32) : Prop :=
  (∀ w, w < wt (gs.count 1) → se w = SE gs fs w ∧ ∀ g, g < gs.length → va (g * 64 + w) = KN gs fs w (2 * g)) ∧ ∀ s, s < 2 ^ gs.count 1 → ∀ c, c < 2 ^ gs.count 0 → ns (s * 16 + c) = NX gs fs nv s c
theorem p_fill (h : RC so ra st li nl ou gT iT lT oT gs fs os) (hw : WF gs fs os) (hn : ∀ k, k < gs.count 1 → nl k = nI (nv k) ∧ nv k < 2 * gs.length) (kn se va : Nat → Int64) (ns : Nat → Int32) :
    ∃ v, m_Tab_fill so ra st li nl gT iT lT kn se va ns = some v ∧ TI gs fs nv v.2.1 v.2.2.1 v.2.2.2 := by
  have hK := hw.2.2.1
  have hI := hw.2.1
  have hG := hw.1
  have hpK := pow8 hK
  have hpI := pow4 hI
  have hW := wt_le hK
  obtain ⟨v1, e1, e2, -⟩ := p_fillL h hw hW.2 (wt (gs.count 1)) fu 0 kn se va (by omega) (by rw [fu]; omega)
  have hn' : ∀ k, k < gs.count 1 → nl k = nI (nv k) ∧ nv k < 120 := fun k hk => ⟨(hn k hk).1, by have := (hn k hk).2; omega⟩
  obtain ⟨v2, f1, f2, -⟩ := p_fill49 (nl := nl) (se := v1.2.1) (va := v1.2.2) hK hpI.2 hpK.2 hn' (2 ^ gs.count 1) fu 0 ns (by omega) (by rw [fu]; omega)
  have hiT : iT = nI (gs.count 0) := h.2.1
  have hlT : lT = nI (gs.count 1) := h.2.2.1
  have e1' : L_Tab_fill_7 so ra st li gT (nI (wt (gs.count 1))) fu (0 : Int32) kn se va = some v1 := e1
  have f1' : L_Tab_fill_49 nl (nI (gs.count 1)) v1.2.1 v1.2.2 (nI (2 ^ gs.count 1)) (nI (2 ^ gs.count 0)) fu (0 : Int32) ns = some v2 := f1
  rw [m_Tab_fill, hlT, hiT, p_wordTotal hK, Option.bind_some, e1', Option.bind_some, p_stateTotal hK, Option.bind_some, p_choiceTotal (by omega), Option.bind_some, f1', Option.bind_some]
  have e3 : ∀ w, w < wt (gs.count 1) → v1.2.1 w = SE gs fs w ∧ ∀ g, g < gs.length → v1.2.2 (g * 64 + w) = KN gs fs w (2 * g) := fun w hw' => e2 w (Nat.zero_le _) hw'
  refine ⟨_, rfl, e3, fun s hs c hc => ?_⟩
  dsimp only
  rw [f2 s (Nat.zero_le _) hs c hc]
  exact NX_of hw (fun k hk => (hn k hk).2) e3 hs
end FI
