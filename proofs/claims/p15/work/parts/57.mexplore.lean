/-! the reference's explore, whole -/
theorem cnt_in {S : Nat} {l : List Nat} (hn : l.Nodup) (hl : ∀ s, s ∈ l → s < S) (p : Nat → Bool) : (List.range' 0 S).countP (fun s => decide (s ∈ l) && p s) = l.countP p := by
  rw [List.countP_eq_length_filter, List.countP_eq_length_filter]
  apply Nat.le_antisymm
  · refine List.Nodup.length_le_of_subset (List.Pairwise.filter _ List.nodup_range') (fun s hs => ?_)
    have h := (List.mem_filter.mp hs).2
    rw [Bool.and_eq_true, decide_eq_true_eq] at h
    exact List.mem_filter.mpr h
  · refine List.Nodup.length_le_of_subset (List.Pairwise.filter _ hn) (fun s hs => ?_)
    have h := List.mem_filter.mp hs
    have h2 := hl s h.1
    refine List.mem_filter.mpr ⟨List.mem_range'_1.mpr ⟨by omega, by omega⟩, ?_⟩
    rw [Bool.and_eq_true, decide_eq_true_eq]
    exact h
theorem neg1_lt : (-1 : Int32) < 0 := by decide
section REFX
variable {gs : List Nat} {fs : List (Nat × Nat)} {os : List Nat}
abbrev WG (gs : List Nat) (fs : List (Nat × Nat)) : WA := WK gs fs (nvF gs fs)
/-- what the reference's cells hold of what is explored -/
def EM (gs : List Nat) (fs : List (Nat × Nat)) (os : List Nat) (se ne : Nat → Int32) (on : Nat → Int64) (di ap : Nat → Int32) : Prop :=
  TM gs fs se ne on ∧ (∀ s, s < 2 ^ gs.count 1 → di s = if s ∈ (WG gs fs).1 then nI ((WG gs fs).2.1 s) else -1) ∧ (∀ j, j < 65536 → ap j = 0 ∨ ap j = 1) ∧ (∀ a, a < 256 → ap (256 * a + a) = 0) ∧
  ∀ a b, a < 2 ^ gs.count 1 → b < 2 ^ gs.count 1 → a ∈ (WG gs fs).1 → b ∈ (WG gs fs).1 → (ap (256 * a + b) ≠ 0 ↔ TA (nxG gs fs) (2 ^ gs.count 0) (shN gs fs os) a b)
theorem WG_IA (hw : WF gs fs os) : IA (2 ^ gs.count 1) (WG gs fs) := by
  have hp8 := pow8 hw.2.2.1
  have key : ∀ (k i : Nat) (A : WA), IA (2 ^ gs.count 1) A → IA (2 ^ gs.count 1) (walkA (nxA gs fs (nvF gs fs)) (2 ^ gs.count 0) k i A) := by
    intro k
    induction k with
    | zero => intro i A h; exact h
    | succ k ih =>
      intro i A h
      rw [walkA]
      by_cases c : A.1.length ≤ i
      · rw [if_pos c]; exact h
      · rw [if_neg c]
        have hil : i < A.1.length := by omega
        have hm : A.1.getD i 0 ∈ A.1 := by rw [getD_at hil]; exact List.getElem_mem _
        exact ih (i + 1) _ (IA_fold h hm (fun d _ t ht => nxA_lt ht))
  exact key 256 0 begA (IA_beg hp8.1)
theorem WG_len (hw : WF gs fs os) : (WG gs fs).1.length ≤ 256 ∧ 1 ≤ (WG gs fs).1.length := by
  have hI := WG_IA (fs := fs) hw
  have hlen := nodup_le hI.1 (fun q hq => (hI.2.1 q hq).1)
  have hp8 := pow8 hw.2.2.1
  have h0 : 0 ∈ (WG gs fs).1 := walk_0
  exact ⟨by omega, List.length_pos_of_mem h0⟩
theorem WG_di (hw : WF gs fs os) {di : Nat → Int32} (h : ∀ s, s < 2 ^ gs.count 1 → di s = if s ∈ (WG gs fs).1 then nI ((WG gs fs).2.1 s) else -1) : ∀ q, q < 2 ^ gs.count 1 → (di q < 0 ↔ rdK gs fs (nvF gs fs) q = false) := by
  intro q hq
  have hI := WG_IA (fs := fs) hw
  have hl := WG_len (fs := fs) hw
  rw [h q hq, rdK, decide_eq_false_iff_not]
  by_cases c : q ∈ (WG gs fs).1
  · rw [if_pos c]
    have := (hI.2.1 q c).2
    exact ⟨fun z => absurd z (nI_pos (by omega)), fun z => absurd c z⟩
  · rw [if_neg c]
    exact ⟨fun _ => c, fun _ => neg1_lt⟩
theorem p_re4 (hw : WF gs fs os) {di : Nat → Int32} (h : ∀ s, s < 2 ^ gs.count 1 → di s = if s ∈ (WG gs fs).1 then nI ((WG gs fs).2.1 s) else -1) : ∀ (k n i m : Nat), i + k = 2 ^ gs.count 1 → k < n → L_Mod_reached_4 (nI (gs.count 1)) di n (nI m) (nI i) = some (nI (m + (List.range' i k).countP (fun s => decide (s ∈ (WG gs fs).1)))) := by
  have hK := hw.2.2.1
  have hp8 := pow8 hK
  intro k
  induction k with
  | zero =>
    intro n i m h1 h2
    obtain ⟨n, rfl⟩ : ∃ z, n = z + 1 := ⟨n - 1, by omega⟩
    rw [L_Mod_reached_4, p_mstates hK, Option.bind_some, if_pos ((nI_leI (by omega) (by omega)).mpr (by omega))]
    rfl
  | succ k ih =>
    intro n i m h1 h2
    obtain ⟨n, rfl⟩ : ∃ z, n = z + 1 := ⟨n - 1, by omega⟩
    rw [L_Mod_reached_4, p_mstates hK, Option.bind_some, if_neg (by rw [nI_leI (by omega) (by omega)]; omega), gd_nI (show i < 256 by omega) (by decide), nI_clamp (by omega), nI_1, nI_1, List.range'_succ, List.countP_cons]
    have hd := WG_di hw h i (by omega)
    rw [rdK, decide_eq_false_iff_not] at hd
    by_cases c : i ∈ (WG gs fs).1
    · rw [if_neg (fun z => hd.mp z c), ih n (i + 1) (m + 1) (by omega) (by omega), if_pos (decide_eq_true c), Nat.add_assoc, Nat.add_comm 1]
    · rw [if_pos (hd.mpr c), ih n (i + 1) m (by omega) (by omega), if_neg (by simpa using c)]
      rfl
theorem p_mreached (hw : WF gs fs os) {di : Nat → Int32} (h : ∀ s, s < 2 ^ gs.count 1 → di s = if s ∈ (WG gs fs).1 then nI ((WG gs fs).2.1 s) else -1) : m_Mod_reached (nI (gs.count 1)) di = some (nI (WG gs fs).1.length) := by
  have hp8 := pow8 hw.2.2.1
  have hI := WG_IA (fs := fs) hw
  have e := p_re4 hw h (2 ^ gs.count 1) fu 0 0 (by omega) (by rw [fu]; omega)
  have e' : L_Mod_reached_4 (nI (gs.count 1)) di fu (0 : Int32) (0 : Int32) = some (nI (0 + (List.range' 0 (2 ^ gs.count 1)).countP (fun s => decide (s ∈ (WG gs fs).1)))) := e
  rw [m_Mod_reached, e', Option.bind_some, Nat.zero_add]
  have c := cnt_in hI.1 (fun s hs => (hI.2.1 s hs).1) (fun _ => true)
  have c2 : (List.range' 0 (2 ^ gs.count 1)).countP (fun s => decide (s ∈ (WG gs fs).1)) = (List.range' 0 (2 ^ gs.count 1)).countP (fun s => decide (s ∈ (WG gs fs).1) && true) := by
    congr 1
    funext s
    rw [Bool.and_true]
  rw [c2, c, List.countP_true]
theorem p_mexplore {ga fe inp la ou : Int32} {so nu to fr oo ne : Nat → Int32} (hw : WF gs fs os) (hR : RM ga fe inp la ou so nu to fr oo ne gs fs os) (co : Int32) (v ma : Nat → Int32) (ex : Int32) (se nx : Nat → Int32) (on : Nat → Int64) (di ap : Nat → Int32) :
    ∃ r, m_Mod_explore co ga fe inp la ou so nu v ma to fr oo ne ex se nx on di ap = some r ∧ r.1 = nI (WG gs fs).1.length ∧ r.2.1 = 0 ∧ r.2.2.2.2.1 = 1 ∧ EM gs fs os r.2.2.2.2.2.1 r.2.2.2.2.2.2.1 r.2.2.2.2.2.2.2.1 r.2.2.2.2.2.2.2.2.1 r.2.2.2.2.2.2.2.2.2 := by
  have hI := hw.2.1
  have hK := hw.2.2.1
  have hp4 := pow4 hI
  have hp8 := pow8 hK
  have hoo : ∀ o, o < os.length → oo o = nI (os.getD o 0) := hR.2.2.2.2.2.2.2
  have hin : inp = nI (gs.count 0) := hR.2.2.1
  have hla : la = nI (gs.count 1) := hR.2.2.2.1
  have hou : ou = nI os.length := hR.2.2.2.2.1
  obtain ⟨r, r1, r2⟩ := p_e7 hw hR (2 ^ gs.count 1) fu 0 v ma se nx on di (by omega) (by rw [fu]; omega) (fun s hs => absurd hs (by omega))
  have r1' : L_Mod_explore_7 ga fe inp la so nu to fr ne fu (0 : Int32) v ma se nx on di = some r := r1
  have hT : TM gs fs r.2.2.1 r.2.2.2.1 r.2.2.2.2.1 := fun s hs c hc => (r2 s hs).1 c hc
  have hB := TM_TB hT
  have hL : LV (nxG gs fs) (2 ^ gs.count 0) (2 ^ gs.count 1) 0 r.2.2.2.2.2 := by
    intro s hs
    rw [(r2 s hs).2]
    by_cases c : s = 0
    · rw [if_pos c]; exact Or.inl ⟨0, Nat.le_refl _, rfl, c, fun m hm => absurd hm (by omega)⟩
    · rw [if_neg c]; exact Or.inr ⟨rfl, fun m hm z => by rw [show m = 0 by omega] at z; exact c z⟩
  have hcM : cM (2 ^ gs.count 1) r.2.2.2.2.2 ≤ 256 := by
    have := List.countP_le_length (p := fun t => decide (r.2.2.2.2.2 t = -1)) (l := List.range' 0 (2 ^ gs.count 1))
    rw [List.length_range'] at this
    exact Nat.le_trans this hp8.2
  obtain ⟨q, q1, q2⟩ := p_e62 hI hK hB 256 fu 0 r.2.2.2.2.2 hcM (by rw [fu]; omega) (by omega) hL
  have q1' : L_Mod_explore_62 inp la r.2.2.1 r.2.2.2.1 fu (1 : Int32) (0 : Int32) r.2.2.2.2.2 = some q := by rw [hin, hla]; exact q1
  have hn : ∀ s, s < 2 ^ gs.count 1 → ∀ c, c < 2 ^ gs.count 0 → ∀ t, nxG gs fs s c = some t → t < 2 ^ gs.count 1 := fun s _ c _ t ht => nxA_lt ht
  have hq : ∀ s, s < 2 ^ gs.count 1 → q s = if s ∈ (WG gs fs).1 then nI ((WG gs fs).2.1 s) else -1 := fun s hs => DS_walk hp8.2 hp8.1 hn q2 hs
  have hcl : ∀ s, s < 2 ^ gs.count 1 → rdK gs fs (nvF gs fs) s = true → ∀ c, c < 2 ^ gs.count 0 → ∀ t, nxG gs fs s c = some t → rdK gs fs (nvF gs fs) t = true := by
    intro s hs hr c hc t ht
    rw [rdK, decide_eq_true_eq] at hr ⊢
    exact walk_closed hp8.2 (fun s _ c _ t ht => nxA_lt ht) 256 0 begA (by omega) (IA_beg hp8.1) (fun s hs => absurd hs (by simp)) s hr c hc t ht
  obtain ⟨w, w1, w2, w3, w4⟩ := p_tell hw hoo hT (WG_di hw hq) hcl ap
  rw [← hin, ← hla, ← hou] at w1
  have h5 := p_mreached hw hq
  rw [← hla] at h5
  rw [m_Mod_explore, r1', Option.bind_some, q1', Option.bind_some, w1, Option.bind_some, h5, Option.bind_some]
  exact ⟨_, rfl, rfl, rfl, rfl, hT, hq, w2, w3, fun a b ha hb hra hrb => w4 a b ha hb (decide_eq_true hra) (decide_eq_true hrb)⟩
end REFX
