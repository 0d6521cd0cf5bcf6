/-! told apart; the reference's shows and differ -/
def DFc (nx : Nat → Nat → Option Nat) (sh : Nat → Nat → Nat → Prop) (R : Nat → Nat → Prop) (s t c : Nat) : Prop :=
  (nx s c = none ∧ nx t c ≠ none) ∨ (nx s c ≠ none ∧ nx t c = none) ∨ ∃ a b, nx s c = some a ∧ nx t c = some b ∧ (¬ sh s t c ∨ R a b)
def DF (nx : Nat → Nat → Option Nat) (C : Nat) (sh : Nat → Nat → Nat → Prop) (R : Nat → Nat → Prop) (s t : Nat) : Prop := ∃ c, c < C ∧ DFc nx sh R s t c
/-- the least such relation -/
def TA (nx : Nat → Nat → Option Nat) (C : Nat) (sh : Nat → Nat → Nat → Prop) (s t : Nat) : Prop := ∀ R : Nat → Nat → Prop, (∀ a b, DF nx C sh R a b → R a b) → R s t
section TOLD
variable {nx : Nat → Nat → Option Nat} {C : Nat} {sh : Nat → Nat → Nat → Prop}
theorem DF_mono {R Q : Nat → Nat → Prop} (h : ∀ a b, R a b → Q a b) {s t : Nat} (hd : DF nx C sh R s t) : DF nx C sh Q s t := by
  obtain ⟨c, hc, hd⟩ := hd
  refine ⟨c, hc, ?_⟩
  rcases hd with hd | hd | ⟨a, b, h1, h2, h3⟩
  · exact Or.inl hd
  · exact Or.inr (Or.inl hd)
  · refine Or.inr (Or.inr ⟨a, b, h1, h2, ?_⟩)
    rcases h3 with h3 | h3
    · exact Or.inl h3
    · exact Or.inr (h _ _ h3)
theorem TA_in {s t : Nat} (h : DF nx C sh (TA nx C sh) s t) : TA nx C sh s t := fun R hR => hR s t (DF_mono (fun _ _ q => q R hR) h)
theorem TA_sym (hsh : ∀ s t c, sh s t c → sh t s c) {s t : Nat} (h : TA nx C sh s t) : TA nx C sh t s := by
  refine h (fun a b => TA nx C sh b a) (fun a b hd => TA_in ?_)
  obtain ⟨c, hc, hd⟩ := hd
  refine ⟨c, hc, ?_⟩
  rcases hd with ⟨h1, h2⟩ | ⟨h1, h2⟩ | ⟨x, y, h1, h2, h3⟩
  · exact Or.inr (Or.inl ⟨h2, h1⟩)
  · exact Or.inl ⟨h2, h1⟩
  · refine Or.inr (Or.inr ⟨y, x, h2, h1, ?_⟩)
    rcases h3 with h3 | h3
    · exact Or.inl (fun q => h3 (hsh _ _ _ q))
    · exact Or.inr h3
theorem TA_ne (hsh : ∀ s c, sh s s c) {s t : Nat} (h : TA nx C sh s t) : s ≠ t := by
  refine h (fun a b => a ≠ b) (fun a b hd e => ?_)
  subst e
  obtain ⟨c, hc, hd⟩ := hd
  rcases hd with ⟨h1, h2⟩ | ⟨h1, h2⟩ | ⟨x, y, h1, h2, h3⟩
  · exact h2 h1
  · exact h1 h2
  · rw [h1] at h2
    cases h2
    rcases h3 with h3 | h3
    · exact h3 (hsh _ _)
    · exact h3 rfl
end TOLD
/-- the outputs are the same -/
def shN (gs : List Nat) (fs : List (Nat × Nat)) (os : List Nat) (s t c : Nat) : Prop := ∀ i, i < os.length → vaN gs fs (os.getD i 0) s c = vaN gs fs (os.getD i 0) t c
theorem shN_sym {gs : List Nat} {fs : List (Nat × Nat)} {os : List Nat} (s t c : Nat) (h : shN gs fs os s t c) : shN gs fs os t s c := fun i hi => (h i hi).symm
theorem shN_rfl {gs : List Nat} {fs : List (Nat × Nat)} {os : List Nat} (s c : Nat) : shN gs fs os s s c := fun _ _ => rfl
theorem sar_bit {x : Int64} {g : Nat} (hg : g < 60) : (x >>> ((nI g).toInt64 &&& 63)) &&& (1 : Int64) = if bL x g = true then 1 else 0 := by
  have key : ∀ g : Fin 60, (((nI g.val).toInt64 &&& 63).toBitVec.smod 64).toNat = g.val := by decide +kernel
  have hs := key ⟨g, hg⟩
  rw [← Int64.toBitVec_inj, Int64.toBitVec_and]
  have e1 : (x >>> ((nI g).toInt64 &&& 63)).toBitVec = x.toBitVec.sshiftRight g := by
    show x.toBitVec.sshiftRight' (((nI g).toInt64 &&& 63).toBitVec.smod 64) = _
    rw [BitVec.sshiftRight', hs]
  rw [e1]
  apply BitVec.eq_of_getLsbD_eq
  intro i hi
  have e2 : (1 : Int64).toBitVec = 1#64 := rfl
  rw [BitVec.getLsbD_and, e2, BitVec.getLsbD_one, BitVec.getLsbD_sshiftRight]
  by_cases c : i = 0
  · subst c
    rw [if_pos (by omega), Nat.add_zero]
    have e3 : x.toBitVec.getLsbD g = bL x g := rfl
    rw [e3]
    cases bL x g <;> rfl
  · have h0 : (if bL x g = true then (1 : Int64) else 0).toBitVec.getLsbD i = false := by
      split
      · rw [e2, BitVec.getLsbD_one]; simp [c]
      · show (0#64).getLsbD i = false
        simp
    rw [h0]
    simp [c]
theorem i256m {s c : Nat} : ((256 : Int32) * nI s) + nI c = nI (256 * s + c) := by rw [i256, pk_mul, nI_add]
section REFD
variable {se ne oo ap : Nat → Int32} {on : Nat → Int64} {gs : List Nat} {fs : List (Nat × Nat)} {os : List Nat}
theorem p_shL (hw : WF gs fs os) (hoo : ∀ o, o < os.length → oo o = nI (os.getD o 0)) {s t c : Nat} (hs : s < 256) (ht : t < 256) (hc : c < 16) (h1 : ∀ g, g < gs.length → bL (on (16 * s + c)) g = vaN gs fs g s c) (h2 : ∀ g, g < gs.length → bL (on (16 * t + c)) g = vaN gs fs g t c) :
    ∀ (k n i : Nat) (x : Int32), i + k = os.length → k < n → ((x = 1 ∧ ∀ j, j < i → vaN gs fs (os.getD j 0) s c = vaN gs fs (os.getD j 0) t c) ∨ (x = 0 ∧ ¬ shN gs fs os s t c)) →
      (L_Mod_shows_6 (nI os.length) oo on (nI s) (nI t) (nI c) n x (nI i) = some 1 ∧ shN gs fs os s t c) ∨ (L_Mod_shows_6 (nI os.length) oo on (nI s) (nI t) (nI c) n x (nI i) = some 0 ∧ ¬ shN gs fs os s t c) := by
  have hG := hw.1
  have hO : os.length ≤ 6 := hw.2.2.2.2.2.2.1
  have hos := hw.2.2.2.2.2.2.2
  intro k
  induction k with
  | zero =>
    intro n i x a1 a2 hx
    obtain ⟨n, rfl⟩ : ∃ z, n = z + 1 := ⟨n - 1, by omega⟩
    rw [L_Mod_shows_6, if_pos ((nI_leI (by omega) (by omega)).mpr (by omega))]
    have e : i = os.length := by omega
    subst e
    rcases hx with ⟨z, h⟩ | ⟨z, h⟩
    · exact Or.inl ⟨by rw [z], h⟩
    · exact Or.inr ⟨by rw [z], h⟩
  | succ k ih =>
    intro n i x a1 a2 hx
    obtain ⟨n, rfl⟩ : ∃ z, n = z + 1 := ⟨n - 1, by omega⟩
    have hi : i < os.length := by omega
    have ho : os.getD i 0 < gs.length := hos _ (by simp [List.getD_eq_getElem?_getD, hi])
    rw [L_Mod_shows_6, if_neg (by rw [nI_leI (by omega) (by omega)]; omega)]
    simp only [i16m, gd_nI (show 16 * s + c < 4096 by omega) (show 4096 < 2 ^ 31 by decide), gd_nI (show 16 * t + c < 4096 by omega) (show 4096 < 2 ^ 31 by decide), gd_nI (show i < 6 by omega) (show 6 < 2 ^ 31 by decide), nI_clamp (show 16 * s + c < 2 ^ 31 by omega), nI_clamp (show 16 * t + c < 2 ^ 31 by omega), nI_clamp (show i < 2 ^ 31 by omega), hoo i hi, lg_cmp0, nI_1]
    rw [sar_bit (show os.getD i 0 < 60 by omega), sar_bit (show os.getD i 0 < 60 by omega), h1 _ ho, h2 _ ho]
    rcases hx with ⟨z, h⟩ | ⟨z, h⟩
    · rw [if_neg (by rw [z]; decide)]
      by_cases c1 : vaN gs fs (os.getD i 0) s c = vaN gs fs (os.getD i 0) t c
      · rw [c1, if_pos rfl]
        refine ih n (i + 1) 1 (by omega) (by omega) (Or.inl ⟨rfl, fun j hj => ?_⟩)
        by_cases q : j = i
        · rw [q]; exact c1
        · exact h j (by omega)
      · rw [if_neg]
        · exact ih n (i + 1) 0 (by omega) (by omega) (Or.inr ⟨rfl, fun q => c1 (q i hi)⟩)
        · intro q
          apply c1
          revert q
          cases vaN gs fs (os.getD i 0) s c <;> cases vaN gs fs (os.getD i 0) t c <;> decide
    · rw [if_pos z]
      exact ih n (i + 1) 0 (by omega) (by omega) (Or.inr ⟨rfl, h⟩)
theorem p_shows (hw : WF gs fs os) (hoo : ∀ o, o < os.length → oo o = nI (os.getD o 0)) {s t c : Nat} (hs : s < 256) (ht : t < 256) (hc : c < 16) (h1 : ∀ g, g < gs.length → bL (on (16 * s + c)) g = vaN gs fs g s c) (h2 : ∀ g, g < gs.length → bL (on (16 * t + c)) g = vaN gs fs g t c) :
    (m_Mod_shows (nI os.length) oo on (nI s) (nI t) (nI c) = some 1 ∧ shN gs fs os s t c) ∨ (m_Mod_shows (nI os.length) oo on (nI s) (nI t) (nI c) = some 0 ∧ ¬ shN gs fs os s t c) := by
  have hO : os.length ≤ 6 := hw.2.2.2.2.2.2.1
  rw [m_Mod_shows]
  rcases p_shL hw hoo hs ht hc h1 h2 os.length fu 0 1 (by omega) (by rw [fu]; omega) (Or.inl ⟨rfl, fun j hj => absurd hj (by omega)⟩) with ⟨a, b⟩ | ⟨a, b⟩
  · have a' : L_Mod_shows_6 (nI os.length) oo on (nI s) (nI t) (nI c) fu (1 : Int32) (0 : Int32) = some 1 := a
    rw [a', Option.bind_some, gd_z1]; exact Or.inl ⟨rfl, b⟩
  · have a' : L_Mod_shows_6 (nI os.length) oo on (nI s) (nI t) (nI c) fu (1 : Int32) (0 : Int32) = some 0 := a
    rw [a', Option.bind_some, gd_z0]; exact Or.inr ⟨rfl, b⟩
/-- what the reference's table holds of the net -/
def TM (gs : List Nat) (fs : List (Nat × Nat)) (se ne : Nat → Int32) (on : Nat → Int64) : Prop := ∀ s, s < 2 ^ gs.count 1 → ∀ c, c < 2 ^ gs.count 0 → TMa gs fs se ne on s c
def nxG (gs : List Nat) (fs : List (Nat × Nat)) : Nat → Nat → Option Nat := nxA gs fs (nvF gs fs)
theorem TM_TB (h : TM gs fs se ne on) : TB (nxG gs fs) (2 ^ gs.count 1) (2 ^ gs.count 0) se ne := by
  intro s hs c hc
  obtain ⟨a, b, _⟩ := h s hs c hc
  refine ⟨fun e => ?_, fun t e => ?_⟩
  · rw [a, nxA_none.mp e]; rfl
  · refine ⟨?_, b t e, nxA_lt e⟩
    have : stN gs fs s c = true := by
      cases q : stN gs fs s c with
      | true => rfl
      | false => rw [nxG, nxA_none.mpr q] at e; cases e
    rw [a, this]; rfl
def apR (ap : Nat → Int32) (a b : Nat) : Prop := ap (256 * a + b) ≠ 0
theorem p_dfL (hw : WF gs fs os) (hoo : ∀ o, o < os.length → oo o = nI (os.getD o 0)) (hT : TM gs fs se ne on) {s t : Nat} (hs : s < 2 ^ gs.count 1) (ht : t < 2 ^ gs.count 1) :
    ∀ (k n c : Nat) (x : Int32), c + k = 2 ^ gs.count 0 → k < n → ((x = 1 ∧ DF (nxG gs fs) (2 ^ gs.count 0) (shN gs fs os) (apR ap) s t) ∨ (x = 0 ∧ ∀ d, d < c → ¬ DFc (nxG gs fs) (shN gs fs os) (apR ap) s t d)) →
      (L_Mod_differ_5 (nI (gs.count 0)) (nI os.length) oo se ne on ap (nI s) (nI t) n x (nI c) = some 1 ∧ DF (nxG gs fs) (2 ^ gs.count 0) (shN gs fs os) (apR ap) s t) ∨ (L_Mod_differ_5 (nI (gs.count 0)) (nI os.length) oo se ne on ap (nI s) (nI t) n x (nI c) = some 0 ∧ ¬ DF (nxG gs fs) (2 ^ gs.count 0) (shN gs fs os) (apR ap) s t) := by
  have hI := hw.2.1
  have hK := hw.2.2.1
  have hp := pow4 hI
  have hp8 := pow8 hK
  have hB := TM_TB hT
  intro k
  induction k with
  | zero =>
    intro n c x a1 a2 hx
    obtain ⟨n, rfl⟩ : ∃ z, n = z + 1 := ⟨n - 1, by omega⟩
    rw [L_Mod_differ_5, p_mchoices (by omega), Option.bind_some, if_pos ((nI_leI (by omega) (by omega)).mpr (by omega))]
    rcases hx with ⟨z, h⟩ | ⟨z, h⟩
    · exact Or.inl ⟨by rw [z], h⟩
    · refine Or.inr ⟨by rw [z], fun ⟨d, hd, q⟩ => h d (by omega) q⟩
  | succ k ih =>
    intro n c x a1 a2 hx
    obtain ⟨n, rfl⟩ : ∃ z, n = z + 1 := ⟨n - 1, by omega⟩
    have hc : c < 2 ^ gs.count 0 := by omega
    have yes : DFc (nxG gs fs) (shN gs fs os) (apR ap) s t c → (L_Mod_differ_5 (nI (gs.count 0)) (nI os.length) oo se ne on ap (nI s) (nI t) n (1 : Int32) (nI (c + 1)) = some 1 ∧ DF (nxG gs fs) (2 ^ gs.count 0) (shN gs fs os) (apR ap) s t) ∨ (L_Mod_differ_5 (nI (gs.count 0)) (nI os.length) oo se ne on ap (nI s) (nI t) n (1 : Int32) (nI (c + 1)) = some 0 ∧ ¬ DF (nxG gs fs) (2 ^ gs.count 0) (shN gs fs os) (apR ap) s t) :=
      fun q => ih n (c + 1) 1 (by omega) (by omega) (Or.inl ⟨rfl, c, hc, q⟩)
    have no : (∀ d, d < c → ¬ DFc (nxG gs fs) (shN gs fs os) (apR ap) s t d) → ¬ DFc (nxG gs fs) (shN gs fs os) (apR ap) s t c → (L_Mod_differ_5 (nI (gs.count 0)) (nI os.length) oo se ne on ap (nI s) (nI t) n (0 : Int32) (nI (c + 1)) = some 1 ∧ DF (nxG gs fs) (2 ^ gs.count 0) (shN gs fs os) (apR ap) s t) ∨ (L_Mod_differ_5 (nI (gs.count 0)) (nI os.length) oo se ne on ap (nI s) (nI t) n (0 : Int32) (nI (c + 1)) = some 0 ∧ ¬ DF (nxG gs fs) (2 ^ gs.count 0) (shN gs fs os) (apR ap) s t) :=
      fun h q => ih n (c + 1) 0 (by omega) (by omega) (Or.inr ⟨rfl, fun d hd => by
        by_cases z : d = c
        · rw [z]; exact q
        · exact h d (by omega)⟩)
    rw [L_Mod_differ_5, p_mchoices (by omega), Option.bind_some, if_neg (by rw [nI_leI (by omega) (by omega)]; omega)]
    rcases hx with ⟨z, h⟩ | ⟨z, h⟩
    · rw [if_neg (by rw [z]; decide), nI_1]
      exact ih n (c + 1) 1 (by omega) (by omega) (Or.inl ⟨rfl, h⟩)
    · rw [if_pos z]
      simp only [i16m, gd_nI (show 16 * s + c < 4096 by omega) (show 4096 < 2 ^ 31 by decide), gd_nI (show 16 * t + c < 4096 by omega) (show 4096 < 2 ^ 31 by decide), nI_clamp (show 16 * s + c < 2 ^ 31 by omega), nI_clamp (show 16 * t + c < 2 ^ 31 by omega), nI_1]
      cases es : nxG gs fs s c with
      | none =>
        have e1 := (hB s hs c hc).1 es
        cases et : nxG gs fs t c with
        | none =>
          have e2 := (hB t ht c hc).1 et
          rw [e1, e2, if_pos rfl, if_pos rfl]
          refine no h (fun q => ?_)
          rcases q with ⟨_, q⟩ | ⟨q, _⟩ | ⟨a, b, q, _⟩
          · exact q et
          · exact q es
          · rw [es] at q; cases q
        | some b =>
          have e2 := ((hB t ht c hc).2 b et).1
          rw [e1, e2, if_neg (by decide)]
          exact yes (Or.inl ⟨es, by rw [et]; exact fun q => by cases q⟩)
      | some a =>
        obtain ⟨e1, n1, l1⟩ := (hB s hs c hc).2 a es
        cases et : nxG gs fs t c with
        | none =>
          have e2 := (hB t ht c hc).1 et
          rw [e1, e2, if_neg (by decide)]
          exact yes (Or.inr (Or.inl ⟨by rw [es]; exact fun q => (nomatch q), et⟩))
        | some b =>
          obtain ⟨e2, n2, l2⟩ := (hB t ht c hc).2 b et
          rw [e1, e2, if_pos rfl, if_neg (by decide)]
          rcases p_shows hw hoo (show s < 256 by omega) (show t < 256 by omega) (show c < 16 by omega) (hT s hs c hc).2.2 (hT t ht c hc).2.2 with ⟨p1, p2⟩ | ⟨p1, p2⟩
          · rw [p1, Option.bind_some, if_neg (by decide), n1, n2, i256m, gd_nI (show 256 * a + b < 65536 by omega) (by decide), nI_clamp (by omega)]
            by_cases c1 : ap (256 * a + b) = 0
            · rw [if_pos c1]
              refine no h (fun q => ?_)
              rcases q with ⟨q, _⟩ | ⟨_, q⟩ | ⟨x, y, q1, q2, q⟩
              · rw [es] at q; cases q
              · rw [et] at q; cases q
              · rw [es] at q1; rw [et] at q2; cases q1; cases q2
                rcases q with q | q
                · exact q p2
                · exact q c1
            · rw [if_neg c1]
              exact yes (Or.inr (Or.inr ⟨a, b, es, et, Or.inr c1⟩))
          · rw [p1, Option.bind_some, if_pos rfl]
            exact yes (Or.inr (Or.inr ⟨a, b, es, et, Or.inl p2⟩))
theorem p_differ (hw : WF gs fs os) (hoo : ∀ o, o < os.length → oo o = nI (os.getD o 0)) (hT : TM gs fs se ne on) {s t : Nat} (hs : s < 2 ^ gs.count 1) (ht : t < 2 ^ gs.count 1) :
    (m_Mod_differ (nI (gs.count 0)) (nI os.length) oo se ne on ap (nI s) (nI t) = some 1 ∧ DF (nxG gs fs) (2 ^ gs.count 0) (shN gs fs os) (apR ap) s t) ∨ (m_Mod_differ (nI (gs.count 0)) (nI os.length) oo se ne on ap (nI s) (nI t) = some 0 ∧ ¬ DF (nxG gs fs) (2 ^ gs.count 0) (shN gs fs os) (apR ap) s t) := by
  have hp := pow4 hw.2.1
  rw [m_Mod_differ]
  rcases p_dfL (ap := ap) hw hoo hT hs ht (2 ^ gs.count 0) fu 0 0 (by omega) (by rw [fu]; omega) (Or.inr ⟨rfl, fun d hd => absurd hd (by omega)⟩) with ⟨a, b⟩ | ⟨a, b⟩
  · have a' : L_Mod_differ_5 (nI (gs.count 0)) (nI os.length) oo se ne on ap (nI s) (nI t) fu (0 : Int32) (0 : Int32) = some 1 := a
    rw [a', Option.bind_some, gd_z1]; exact Or.inl ⟨rfl, b⟩
  · have a' : L_Mod_differ_5 (nI (gs.count 0)) (nI os.length) oo se ne on ap (nI s) (nI t) fu (0 : Int32) (0 : Int32) = some 0 := a
    rw [a', Option.bind_some, gd_z0]; exact Or.inr ⟨rfl, b⟩
end REFD
