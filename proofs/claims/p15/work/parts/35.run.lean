/-! Walk.leave and Walk.run, whole -/
theorem st_bits {v : Int64} {q b : Nat} (hq : q < 4) (hb : b < 64) : bL (((((v.toUInt64 >>> ((nI (q * 16)).toInt64.toUInt64 &&& Int64.toUInt64 63)).toInt64).toInt32) &&& (65535 : Int32)).toInt64 <<< ((nI (q * 16)).toInt64 &&& 63)) b = (decide (b / 16 = q) && bL v b) := by
  have key : ∀ q : Fin 4, (((nI (q.val * 16)).toInt64 &&& 63).toBitVec.smod 64).toNat = q.val * 16 := by decide +kernel
  have k2 : ∀ i : Nat, (65535#32).getLsbD i = decide (i < 16) := fun i => Nat.testBit_two_pow_sub_one 16 i
  have hsb := sh_bits (v := v) (b := q * 16) (by omega)
  generalize (v.toUInt64 >>> ((nI (q * 16)).toInt64.toUInt64 &&& Int64.toUInt64 63)).toInt64 = x at hsb ⊢
  have e0 : ∀ i, i < 32 → (x.toInt32 &&& (65535 : Int32)).toBitVec.getLsbD i = (decide (i < 16) && v.toBitVec.getLsbD (q * 16 + i)) := by
    intro i hi
    have z1 : x.toInt32.toBitVec = x.toBitVec.signExtend 32 := rfl
    have z2 : (65535 : Int32).toBitVec = 65535#32 := rfl
    rw [Int32.toBitVec_and, BitVec.getLsbD_and, z1, z2, k2, BitVec.getLsbD_signExtend, hsb, BitVec.getLsbD_ushiftRight]
    simp [hi, show i < 64 by omega, Bool.and_comm]
  generalize x.toInt32 &&& (65535 : Int32) = y at e0 ⊢
  have e1 : ∀ i, i < 64 → y.toInt64.toBitVec.getLsbD i = (decide (i < 16) && v.toBitVec.getLsbD (q * 16 + i)) := by
    intro i hi
    have z1 : y.toInt64.toBitVec = y.toBitVec.signExtend 64 := rfl
    rw [z1, BitVec.getLsbD_signExtend]
    by_cases c : i < 32
    · rw [if_pos c, e0 i c]; simp [hi]
    · have hm : y.toBitVec.msb = false := by
        rw [BitVec.msb_eq_getLsbD_last, e0 31 (by decide)]; simp
      rw [if_neg c, hm]
      simp [show ¬ i < 16 by omega]
  rw [bL, Int64.toBitVec_shiftLeft, BitVec.shiftLeft_eq', key ⟨q, hq⟩, BitVec.getLsbD_shiftLeft, e1 _ (by omega), bL]
  by_cases c1 : b < q * 16
  · simp [c1, show ¬ b / 16 = q by omega]
  · rw [show q * 16 + (b - q * 16) = b by omega]
    by_cases c2 : b - q * 16 < 16
    · simp [c1, c2, hb, show b / 16 = q by omega]
    · simp [c2, show ¬ b / 16 = q by omega]
/-- which pairs of a state that was left and a choice settle, as bits -/
def PW (W : Nat) (se : Nat → Int64) (sp : Nat → Int64) (l : List Nat) : Prop := ∀ w, w < W → ∀ b, b < 64 → bL (sp w) b = (decide (4 * w + b / 16 ∈ l) && bL (se w) b)
def leaveA (nx : Nat → Nat → Option Nat) (C : Nat) (A : WA) (s : Nat) : WA := (List.range' 0 C).foldl (stepA nx s) A
theorem p_leave {S s C W : Nat} {ns : Nat → Int32} {se : Nat → Int64} {nx : Nat → Nat → Option Nat} (hS : S ≤ 256) (hC : C ≤ 16) (hW : W ≤ 64) (hnx : ∀ c, c < C → nxOf ns s c (nx s c) ∧ ∀ t, nx s c = some t → t < S)
    {di od pa st : Nat → Int32} {sp : Nat → Int64} {re du dS dC : Int32} {A : WA} {l : List Nat} (hR : RW S di od pa st re du dS dC A) (hI : IA S A) (hs : s ∈ A.1) (hsW : s / 4 < W) (hP : PW W se sp l) :
    ∃ v, m_Wlk_leave se ns di od pa st sp re du dS dC (nI s) (nI C) = some v ∧ RW S v.1 v.2.1 v.2.2.1 v.2.2.2.1 v.2.2.2.2.2.1 v.2.2.2.2.2.2.1 v.2.2.2.2.2.2.2.1 v.2.2.2.2.2.2.2.2 (leaveA nx C A s) ∧ IA S (leaveA nx C A s) ∧ PW W se v.2.2.2.2.1 (l ++ [s]) := by
  have hsS := (hI.2.1 s hs).1
  obtain ⟨v, v1, v2, v3⟩ := p_leaveL hS hC hnx C fu 0 di od pa st re du dS dC A (by omega) (by rw [fu]; omega) hR hI hs
  have v1' : L_Wlk_leave_26 ns (nI s) (nI C) fu (0 : Int32) di od pa st re du dS dC = some v := v1
  rw [m_Wlk_leave, p_wordOf (by omega), Option.bind_some, gd_nI (by omega) (by decide), m_Tab_settledIn, p_wordOf (by omega), Option.bind_some, gd_nI (by omega) (by decide), p_shiftOf (by omega), Option.bind_some, Option.bind_some, Option.bind_some, gd_nI (by omega) (by decide), v1', Option.bind_some, nI_clamp (by omega)]
  refine ⟨_, rfl, v2, v3, ?_⟩
  intro w hw b hb
  dsimp only
  rw [updL_eq]
  by_cases c : w = s / 4
  · rw [if_pos c, bL, Int64.toBitVec_or, BitVec.getLsbD_or]
    have q1 := hP w hw b hb
    have q2 := st_bits (v := se (s / 4)) (q := s % 4) (b := b) (by omega) hb
    rw [bL] at q1 q2
    rw [← c] at q2 ⊢
    rw [q1, q2]
    by_cases d : 4 * w + b / 16 = s
    · have e16 : decide (b / 16 = s % 4) = true := decide_eq_true (by omega)
      have e17 : decide (s ∈ l ++ [s]) = true := decide_eq_true (by simp)
      rw [d, e16, e17]
      cases decide (s ∈ l) <;> cases bL (se w) b <;> rfl
    · simp [d, show ¬ b / 16 = s % 4 by omega]
  · rw [if_neg c, hP w hw b hb]
    simp [show ¬ 4 * w + b / 16 = s by omega]
theorem step_pre {nx : Nat → Nat → Option Nat} {s : Nat} (A : WA) (c : Nat) : ∃ t, (stepA nx s A c).1 = A.1 ++ t := by
  rw [stepA]
  split
  · exact ⟨[], by simp⟩
  · split
    · exact ⟨[], by simp⟩
    · exact ⟨_, rfl⟩
theorem fold_pre {nx : Nat → Nat → Option Nat} {s : Nat} : ∀ (l : List Nat) (A : WA), ∃ t, (l.foldl (stepA nx s) A).1 = A.1 ++ t
  | [], A => ⟨[], by simp⟩
  | c :: l, A => by
    obtain ⟨t, ht⟩ := step_pre (nx := nx) (s := s) A c
    obtain ⟨u, hu⟩ := fold_pre (nx := nx) (s := s) l (stepA nx s A c)
    exact ⟨t ++ u, by rw [List.foldl_cons, hu, ht, List.append_assoc]⟩
/-- the walk: the states are left in their order -/
def walkA (nx : Nat → Nat → Option Nat) (C : Nat) : Nat → Nat → WA → WA
  | 0, _, A => A
  | n + 1, i, A => if A.1.length ≤ i then A else walkA nx C n (i + 1) (leaveA nx C A (A.1.getD i 0))
theorem p_runL {S C W : Nat} {ns : Nat → Int32} {se : Nat → Int64} {nx : Nat → Nat → Option Nat} (hS : S ≤ 256) (hC : C ≤ 16) (hW : W ≤ 64) (hSW : ∀ s, s < S → s / 4 < W) (hnx : ∀ s, s < S → ∀ c, c < C → nxOf ns s c (nx s c) ∧ ∀ t, nx s c = some t → t < S) :
    ∀ (k n i : Nat) (di od pa st : Nat → Int32) (sp : Nat → Int64) (re du dS dC : Int32) (A : WA), i + k = 256 → k < n → RW S di od pa st re du dS dC A → IA S A → PW W se sp (A.1.take i) →
      ∃ v, L_Wlk_run_21 se ns (nI C) n (nI i) di od pa st sp re du dS dC = some v ∧ RW S v.1 v.2.1 v.2.2.1 v.2.2.2.1 v.2.2.2.2.2.1 v.2.2.2.2.2.2.1 v.2.2.2.2.2.2.2.1 v.2.2.2.2.2.2.2.2 (walkA nx C k i A) ∧ IA S (walkA nx C k i A) ∧ PW W se v.2.2.2.2.1 (walkA nx C k i A).1 := by
  intro k
  induction k with
  | zero =>
    intro n i di od pa st sp re du dS dC A h1 h2 hR hI hP
    obtain ⟨n, rfl⟩ : ∃ z, n = z + 1 := ⟨n - 1, by omega⟩
    have hlen := nodup_le hI.1 (fun q hq => (hI.2.1 q hq).1)
    rw [L_Wlk_run_21, hR.2.2.2.1, if_pos ((nI_leI (by omega) (by omega)).mpr (by omega))]
    rw [List.take_of_length_le (by omega)] at hP
    exact ⟨_, rfl, ⟨hR.1, hR.2.1, hR.2.2.1, rfl, hR.2.2.2.2⟩, hI, hP⟩
  | succ k ih =>
    intro n i di od pa st sp re du dS dC A h1 h2 hR hI hP
    obtain ⟨n, rfl⟩ : ∃ z, n = z + 1 := ⟨n - 1, by omega⟩
    have hlen := nodup_le hI.1 (fun q hq => (hI.2.1 q hq).1)
    have hre := hR.2.2.2.1
    rw [L_Wlk_run_21, walkA]
    by_cases c : A.1.length ≤ i
    · rw [hre, if_pos ((nI_leI (by omega) (by omega)).mpr c), if_pos c]
      rw [List.take_of_length_le c] at hP
      exact ⟨_, rfl, ⟨hR.1, hR.2.1, hR.2.2.1, rfl, hR.2.2.2.2⟩, hI, hP⟩
    · rw [if_neg c, if_neg (show ¬ re ≤ nI i by rw [hre, nI_leI (by omega) (by omega)]; exact c), if_neg (show ¬ (256 : Int32) ≤ nI i by rw [i256, nI_leI (by omega) (by omega)]; omega), gd_nI (by omega) (by decide), nI_clamp (by omega), hR.2.1 i (by omega), nI_1]
      have eg : A.1.getD i 0 = A.1[i]'(by omega) := by rw [List.getD_eq_getElem?_getD, List.getElem?_eq_getElem (by omega)]; rfl
      have hm : A.1.getD i 0 ∈ A.1 := by rw [eg]; exact List.getElem_mem _
      have hmS := (hI.2.1 _ hm).1
      obtain ⟨v, v1, v2, v3, v4⟩ := p_leave hS hC hW (hnx _ hmS) hR hI hm (hSW _ hmS) hP
      rw [v1, Option.bind_some]
      refine ih n (i + 1) _ _ _ _ _ _ _ _ _ _ (by omega) (by omega) v2 v3 ?_
      obtain ⟨t, ht⟩ := fold_pre (nx := nx) (s := A.1.getD i 0) (List.range' 0 C) A
      have : (leaveA nx C A (A.1.getD i 0)).1.take (i + 1) = A.1.take i ++ [A.1.getD i 0] := by
        rw [leaveA, ht, List.take_append_of_le_length (by omega), eg, List.take_succ_eq_append_getElem (by omega)]
      rw [this]
      exact v4
theorem p_forget7 {S : Nat} (hS : S ≤ 256) : ∀ (k n i : Nat) (di : Nat → Int32), i + k = S → k < n → ∃ r, L_Wlk_forget_7 (nI S) n (nI i) di = some r ∧ (∀ s, i ≤ s → s < S → r s = -1) ∧ ∀ s, s < i → r s = di s := by
  intro k
  induction k with
  | zero =>
    intro n i di h1 h2
    obtain ⟨n, rfl⟩ : ∃ z, n = z + 1 := ⟨n - 1, by omega⟩
    rw [L_Wlk_forget_7, if_pos ((nI_leI (by omega) (by omega)).mpr (by omega))]
    exact ⟨_, rfl, fun s a b => absurd b (by omega), fun _ _ => rfl⟩
  | succ k ih =>
    intro n i di h1 h2
    obtain ⟨n, rfl⟩ : ∃ z, n = z + 1 := ⟨n - 1, by omega⟩
    rw [L_Wlk_forget_7, if_neg (by rw [nI_leI (by omega) (by omega)]; omega), gd_nI (by omega) (by decide), nI_clamp (by omega), nI_1]
    obtain ⟨r, r1, r2, r3⟩ := ih n (i + 1) (upd di i (-1)) (by omega) (by omega)
    refine ⟨r, r1, fun s a b => ?_, fun s a => by rw [r3 s (by omega), upd_eq, if_neg (by omega)]⟩
    rcases Nat.lt_or_ge i s with e | e
    · exact r2 s (by omega) b
    · rw [r3 s (by omega), upd_eq, if_pos (by omega)]
theorem p_forget35 {W : Nat} (hW : W ≤ 64) : ∀ (k n i : Nat) (sp : Nat → Int64), i + k = W → k < n → ∃ r, L_Wlk_forget_35 (nI W) n (nI i) sp = some r ∧ (∀ s, i ≤ s → s < W → r s = 0) ∧ ∀ s, s < i → r s = sp s := by
  intro k
  induction k with
  | zero =>
    intro n i di h1 h2
    obtain ⟨n, rfl⟩ : ∃ z, n = z + 1 := ⟨n - 1, by omega⟩
    rw [L_Wlk_forget_35, if_pos ((nI_leI (by omega) (by omega)).mpr (by omega))]
    exact ⟨_, rfl, fun s a b => absurd b (by omega), fun _ _ => rfl⟩
  | succ k ih =>
    intro n i di h1 h2
    obtain ⟨n, rfl⟩ : ∃ z, n = z + 1 := ⟨n - 1, by omega⟩
    rw [L_Wlk_forget_35, if_neg (by rw [nI_leI (by omega) (by omega)]; omega), gd_nI (by omega) (by decide), nI_clamp (by omega), nI_1]
    obtain ⟨r, r1, r2, r3⟩ := ih n (i + 1) (vp_updL di i 0) (by omega) (by omega)
    refine ⟨r, r1, fun s a b => ?_, fun s a => by rw [r3 s (by omega), updL_eq, if_neg (by omega)]⟩
    rcases Nat.lt_or_ge i s with e | e
    · exact r2 s (by omega) b
    · rw [r3 s (by omega), updL_eq, if_pos (by omega)]
def begA : WA := ([0], fun _ => 0, fun _ => 0, fun _ => 0, 0, none)
theorem IA_beg {S : Nat} (h : 1 ≤ S) : IA S begA := by
  refine ⟨by simp [begA], fun s hs => ?_, fun s _ h0 => absurd rfl h0, fun d hd => by cases hd⟩
  have : s = 0 := by simpa [begA] using hs
  subst this
  exact ⟨h, by simp [begA]⟩
/-- Walk.run: the walk of any table -/
theorem p_run {K I : Nat} {ns : Nat → Int32} {se : Nat → Int64} {nx : Nat → Nat → Option Nat} (hK : K ≤ 8) (hI : I ≤ 4) (hnx : ∀ s, s < 2 ^ K → ∀ c, c < 2 ^ I → nxOf ns s c (nx s c) ∧ ∀ t, nx s c = some t → t < 2 ^ K)
    (di od pa st : Nat → Int32) (sp : Nat → Int64) (wd re du dS dC : Int32) :
    ∃ v, m_Wlk_run (nI I) (nI K) se ns di od pa st sp wd re du dS dC = some v ∧ RW (2 ^ K) v.1 v.2.1 v.2.2.1 v.2.2.2.1 v.2.2.2.2.2.2.1 v.2.2.2.2.2.2.2.1 v.2.2.2.2.2.2.2.2.1 v.2.2.2.2.2.2.2.2.2 (walkA nx (2 ^ I) 256 0 begA) ∧ IA (2 ^ K) (walkA nx (2 ^ I) 256 0 begA) ∧ PW (wt K) se v.2.2.2.2.1 (walkA nx (2 ^ I) 256 0 begA).1 ∧ v.2.2.2.2.2.1 = nI (wt K) := by
  have hpK := pow8 hK
  have hpI := pow4 hI
  have hW := wt_le hK
  obtain ⟨r7, a1, a2, -⟩ := p_forget7 hpK.2 (2 ^ K) fu 0 di (by omega) (by rw [fu]; omega)
  obtain ⟨r35, b1, b2, -⟩ := p_forget35 hW.2 (wt K) fu 0 sp (by omega) (by rw [fu]; omega)
  have a1' : L_Wlk_forget_7 (nI (2 ^ K)) fu (0 : Int32) di = some r7 := a1
  have b1' : L_Wlk_forget_35 (nI (wt K)) fu (0 : Int32) sp = some r35 := b1
  have hR : RW (2 ^ K) (upd r7 0 (0 : Int32)) (upd od 0 (0 : Int32)) (upd pa 0 (-1 : Int32)) (upd st 0 (-1 : Int32)) (nI 1) (0 : Int32) (-1 : Int32) (-1 : Int32) begA := by
    refine ⟨fun s hs => ?_, fun i hi => ?_, fun s _ h0 => absurd rfl h0, rfl, rfl, rfl, rfl⟩
    · rw [upd_eq]
      by_cases c : s = 0
      · rw [if_pos c, if_pos (by rw [c]; simp [begA])]; rfl
      · rw [if_neg c, if_neg (by simpa [begA] using c)]; exact a2 s (Nat.zero_le _) hs
    · have : i = 0 := by simp [begA] at hi; omega
      subst this
      rfl
  have hP : PW (wt K) se r35 (begA.1.take 0) := by
    intro w hw b hb
    rw [b2 w (Nat.zero_le _) hw]
    simp [bL]
  obtain ⟨v, v1, v2, v3, v4⟩ := p_runL hpK.2 hpI.2 hW.2 (fun s hs => wt_of hs) hnx 256 fu 0 _ _ _ _ r35 _ _ _ _ begA (by omega) (by rw [fu]; omega) hR (IA_beg hpK.1) hP
  have v1' : L_Wlk_run_21 se ns (nI (2 ^ I)) fu (0 : Int32) (upd r7 0 (0 : Int32)) (upd od 0 (0 : Int32)) (upd pa 0 (-1 : Int32)) (upd st 0 (-1 : Int32)) r35 (nI 1) (0 : Int32) (-1 : Int32) (-1 : Int32) = some v := v1
  have hreach : m_Wlk_reach r7 od pa st (0 : Int32) (0 : Int32) (0 : Int32) (-1 : Int32) (-1 : Int32) = some (upd r7 0 (0 : Int32), upd od 0 (0 : Int32), upd pa 0 (-1 : Int32), upd st 0 (-1 : Int32), nI 1) := by
    rw [m_Wlk_reach, i0, gd_nI (by omega) (by decide), gd_nI (by omega) (by decide), gd_nI (by omega) (by decide), gd_nI (by omega) (by decide)]
    rfl
  rw [m_Wlk_run, m_Wlk_forget, p_stateTotal hK, Option.bind_some, a1', Option.bind_some, p_wordTotal hK, Option.bind_some, b1', Option.bind_some, Option.bind_some]
  dsimp only
  rw [hreach, Option.bind_some, p_choiceTotal (by omega), Option.bind_some]
  dsimp only
  rw [v1', Option.bind_some]
  exact ⟨_, rfl, v2, v3, v4, rfl⟩
