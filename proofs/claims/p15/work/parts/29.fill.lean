/-- the next state's number out of the first k latches; nv: the latches' literals -/
def nxt (va : Nat → Int64) (nv : Nat → Nat) (w b : Nat) : Nat → Nat
  | 0 => 0
  | k + 1 => nxt va nv w b k + (if bL (va (nv k / 2 * 64 + w)) b = decide (nv k % 2 = 1) then 0 else 1) * 2 ^ k
theorem nxt_lt {va : Nat → Int64} {nv : Nat → Nat} {w b : Nat} : ∀ k, nxt va nv w b k < 2 ^ k
  | 0 => by simp [nxt]
  | k + 1 => by
    have := nxt_lt (va := va) (nv := nv) (w := w) (b := b) k
    rw [nxt, Nat.pow_succ]
    split <;> omega
theorem or_shl {X k z : Nat} (hk : k < 8) (hX : X < 2 ^ k) (hz : z < 2) : nI X ||| (nI z <<< (nI k &&& 31)) = nI (X + z * 2 ^ k) := by
  have key : ∀ k : Fin 8, ∀ X : Fin 128, ∀ z : Fin 2, X.val < 2 ^ k.val → nI X.val ||| (nI z.val <<< (nI k.val &&& 31)) = nI (X.val + z.val * 2 ^ k.val) := by decide +kernel
  have h128 : 2 ^ k ≤ 2 ^ 7 := Nat.pow_le_pow_right (by decide) (by omega)
  exact key ⟨k, hk⟩ ⟨X, by omega⟩ ⟨z, hz⟩ hX
theorem p_findL {nl : Nat → Int32} {va : Nat → Int64} {nv : Nat → Nat} {K w b : Nat} (hK : K ≤ 8) (hw : w < 64) (hb : b < 64) (hnl : ∀ k, k < K → nl k = nI (nv k) ∧ nv k < 120) :
    ∀ (m n i : Nat), i + m = K → m < n → L_Tab_findNext_39 nl (nI K) va (nI w) (nI b) n (nI (nxt va nv w b i)) (nI i) = some (nI (nxt va nv w b K)) := by
  intro m
  induction m with
  | zero =>
    intro n i h1 h2
    obtain ⟨n, rfl⟩ : ∃ z, n = z + 1 := ⟨n - 1, by omega⟩
    have : i = K := by omega
    subst this
    rw [L_Tab_findNext_39, if_pos ((nI_leI (by omega) (by omega)).mpr (Nat.le_refl _))]
  | succ m ih =>
    intro n i h1 h2
    obtain ⟨n, rfl⟩ : ∃ z, n = z + 1 := ⟨n - 1, by omega⟩
    obtain ⟨e1, e2⟩ := hnl i (by omega)
    have hs : nI (nv i) >>> ((1 : Int32) &&& 31) = nI (nv i / 2) := by
      have key : ∀ l : Fin 128, nI l.val >>> ((1 : Int32) &&& 31) = nI (l.val / 2) := by decide +kernel
      exact key ⟨nv i, by omega⟩
    have e64 : nI (nv i / 2) * (64 : Int32) + nI w = nI (nv i / 2 * 64 + w) := by rw [i64, pk_mul, nI_add]
    rw [L_Tab_findNext_39, if_neg (by rw [nI_leI (by omega) (by omega)]; omega), gd_nI (by omega) (by decide), nI_clamp (by omega), e1, hs, e64, gd_nI (by omega) (by decide), nI_clamp (by omega), sh_par hb (by omega), or_shl (by omega) (nxt_lt i) (by split <;> decide), nI_1]
    exact ih n (i + 1) (by omega) (by omega)
theorem p_findNext {nl : Nat → Int32} {se va : Nat → Int64} {nv : Nat → Nat} {K s c : Nat} (hK : K ≤ 8) (hs : s < 256) (hc : c < 16) (hnl : ∀ k, k < K → nl k = nI (nv k) ∧ nv k < 120) :
    m_Tab_findNext nl (nI K) se va (nI s) (nI c) = some (if bL (se (s / 4)) (s % 4 * 16 + c) = false then -1 else nI (nxt va nv (s / 4) (s % 4 * 16 + c) K)) := by
  have hL : L_Tab_findNext_39 nl (nI K) va (nI (s / 4)) (nI (s % 4 * 16 + c)) fu (0 : Int32) (0 : Int32) = _ := p_findL hK (by omega) (by omega) hnl K fu 0 (by omega) (by rw [fu]; omega)
  rw [m_Tab_findNext, p_wordOf hs, Option.bind_some, p_shiftOf hs, Option.bind_some, gd_nI (by omega) (by decide), nI_clamp (by omega), nI_add, hL]
  simp only [lg_cmp0, sh_and1 (show s % 4 * 16 + c < 64 by omega)]
  split <;> rfl
