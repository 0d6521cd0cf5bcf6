/-! groups: alike under the last names means not told apart -/
section GE
variable {rd : Nat → Bool} {N : Nat → Nat} {al : Nat → Nat → Bool}
theorem prt_pre {L a : Nat} : ∀ {b : Nat}, a ≤ b → ∃ t, prt rd N al L b = prt rd N al L a ++ t
  | 0, h => ⟨[], by rw [show a = 0 by omega]; simp⟩
  | b + 1, h => by
    by_cases c : a = b + 1
    · exact ⟨[], by rw [c]; simp⟩
    · obtain ⟨t, ht⟩ := prt_pre (b := b) (show a ≤ b by omega)
      rw [prt, ht]
      split
      · exact ⟨t ++ [b], by rw [List.append_assoc]⟩
      · exact ⟨t, rfl⟩
theorem fi_le (hs : ∀ p x, al p x = true → al x p = true) (ht : ∀ p x y, al p x = true → al x y = true → al p y = true) {a b : Nat} (hab : a ≤ b) (hra : rd a = true) (hN : N a = N b) (h : al a b = true) : fiN rd N al a = fiN rd N al b := by
  by_cases c : a = b
  · rw [c]
  · have eqv : ∀ q, al q b = al q a := fun q => Bool.eq_iff_iff.mpr ⟨fun z => ht q b a z (hs a b h), fun z => ht q a b z h⟩
    rw [fiN, fiN, ← hN]
    cases e : (prt rd N al (N a) a).find? (fun p => al p a) with
    | some p =>
      obtain ⟨t, e2⟩ := prt_pre (rd := rd) (N := N) (al := al) (L := N a) hab
      rw [e2, List.find?_append, fnd_congr (f := fun p => al p b) (g := fun p => al p a) (fun p _ => eqv p), e]
      rfl
    | none =>
      obtain ⟨t, e2⟩ := prt_pre (rd := rd) (N := N) (al := al) (L := N a) (show a + 1 ≤ b by omega)
      have e3 : prt rd N al (N a) (a + 1) = prt rd N al (N a) a ++ [a] := by rw [prt, if_pos ⟨hra, rfl, e⟩]
      rw [e2, e3, List.find?_append, List.find?_append, fnd_congr (f := fun p => al p b) (g := fun p => al p a) (l := prt rd N al (N a) a) (fun p _ => eqv p), e]
      have e4 : [a].find? (fun p => al p b) = some a := by rw [List.find?_cons, h]
      rw [e4]
      rfl
theorem fi_same (hs : ∀ p x, al p x = true → al x p = true) (ht : ∀ p x y, al p x = true → al x y = true → al p y = true) {a b : Nat} (hra : rd a = true) (hrb : rd b = true) (hN : N a = N b) (h : al a b = true) : fiN rd N al a = fiN rd N al b := by
  rcases Nat.le_total a b with c | c
  · exact fi_le hs ht c hra hN h
  · exact (fi_le hs ht c hrb hN.symm (hs a b h)).symm
theorem fi_al {x : Nat} : fiN rd N al x = x ∨ al (fiN rd N al x) x = true := by
  rw [fiN]
  cases e : (prt rd N al (N x) x).find? (fun p => al p x) with
  | none => exact Or.inl rfl
  | some p =>
    have h := List.find?_some (p := fun p => al p x) e
    exact Or.inr h
end GE
section GA
variable {se va : Nat → Int64} {ov : Nat → Nat} {O : Nat} {nx : Nat → Nat → Option Nat} {C : Nat} {N : Nat → Nat}
theorem alN_iff {p x : Nat} : alN se va ov O N nx C p x = true ↔ LooksA se va ov O p x ∧ GoesA (fun q => nI (N q)) nx C p x := alA_iff
theorem alN_sym (p x : Nat) (h : alN se va ov O N nx C p x = true) : alN se va ov O N nx C x p = true := by
  rw [alN_iff] at h ⊢
  obtain ⟨⟨h1, h2⟩, h3⟩ := h
  exact ⟨⟨fun c hc => (h1 c hc).symm, fun i hi c hc q => (h2 i hi c hc (by rw [h1 c hc]; exact q)).symm⟩, fun c hc => (h3 c hc).symm⟩
theorem alN_trans (p x y : Nat) (h : alN se va ov O N nx C p x = true) (k : alN se va ov O N nx C x y = true) : alN se va ov O N nx C p y = true := by
  rw [alN_iff] at h k ⊢
  obtain ⟨⟨h1, h2⟩, h3⟩ := h
  obtain ⟨⟨k1, k2⟩, k3⟩ := k
  exact ⟨⟨fun c hc => (h1 c hc).trans (k1 c hc), fun i hi c hc q => (h2 i hi c hc q).trans (k2 i hi c hc (by rw [← h1 c hc]; exact q))⟩, fun c hc => (h3 c hc).trans (k3 c hc)⟩
end GA
section GT
variable {gs : List Nat} {fs : List (Nat × Nat)} {os : List Nat} {pn : Nat → Int32} {pt : Int32} {se va : Nat → Int64} {ns di od pa st : Nat → Int32} {sp : Nat → Int64} {wd re du dS dC : Int32}
  {mse mne : Nat → Int32} {mon : Nat → Int64} {mdi map : Nat → Int32}
/-- alike, in the net's words -/
theorem al_net (hw : WF gs fs os) (hT : TI gs fs (nvF gs fs) se va ns) {N : Nat → Nat} (hN : ∀ q, q < 2 ^ gs.count 1 → rdK gs fs (nvF gs fs) q = true → N q < 2 ^ 31) (hcl : ∀ s, s < 2 ^ gs.count 1 → rdK gs fs (nvF gs fs) s = true → ∀ c, c < 2 ^ gs.count 0 → ∀ t, nxG gs fs s c = some t → rdK gs fs (nvF gs fs) t = true) {a b : Nat} (ha : a < 2 ^ gs.count 1) (hb : b < 2 ^ gs.count 1) (hra : rdK gs fs (nvF gs fs) a = true) (hrb : rdK gs fs (nvF gs fs) b = true) :
    alN se va (fun i => os.getD i 0) os.length N (nxA gs fs (nvF gs fs)) (2 ^ gs.count 0) a b = false ↔ DF (nxG gs fs) (2 ^ gs.count 0) (shN gs fs os) (fun x y => N x ≠ N y) a b := by
  have hp4 := pow4 hw.2.1
  have hp8 := pow8 hw.2.2.1
  have hos := hw.2.2.2.2.2.2.2
  have hov : ∀ i, i < os.length → os.getD i 0 < gs.length := fun i hi => hos _ (by simp [List.getD_eq_getElem?_getD, hi])
  have es : ∀ s, s < 2 ^ gs.count 1 → ∀ c, sb se s c = stN gs fs s c := fun s hs c => TI_sb hw hT hs
  have ev : ∀ s, s < 2 ^ gs.count 1 → ∀ i, i < os.length → ∀ c, vb va (os.getD i 0) s c = vaN gs fs (os.getD i 0) s c := fun s hs i hi c => TI_vb hw hT hs (hov i hi)
  have hsome : ∀ s c, stN gs fs s c = true → ∃ t, nxG gs fs s c = some t := fun s c h => by
    cases e : nxG gs fs s c with
    | none => rw [nxA_none.mp e] at h; cases h
    | some t => exact ⟨t, rfl⟩
  rw [← Bool.not_eq_true, alN_iff]
  constructor
  · intro h
    apply Classical.byContradiction
    intro hno
    apply h
    have hnc : ∀ c, c < 2 ^ gs.count 0 → ¬ DFc (nxG gs fs) (shN gs fs os) (fun x y => N x ≠ N y) a b c := fun c hc q => hno ⟨c, hc, q⟩
    have hst : ∀ c, c < 2 ^ gs.count 0 → stN gs fs a c = stN gs fs b c := by
      intro c hc
      cases e1 : stN gs fs a c <;> cases e2 : stN gs fs b c
      · rfl
      · obtain ⟨t, ht⟩ := hsome b c e2
        exact absurd (Or.inl ⟨nxA_none.mpr e1, by rw [ht]; exact fun z => (nomatch z)⟩) (hnc c hc)
      · obtain ⟨t, ht⟩ := hsome a c e1
        exact absurd (Or.inr (Or.inl ⟨by rw [ht]; exact fun z => (nomatch z), nxA_none.mpr e2⟩)) (hnc c hc)
      · rfl
    have hm : ∀ c, c % 2 ^ gs.count 0 < 2 ^ gs.count 0 := fun c => Nat.mod_lt _ (by omega)
    refine ⟨⟨fun c hc => ?_, fun i hi c hc q => ?_⟩, fun c hc => ?_⟩
    · rw [es a ha, es b hb, stN_mod hw (by omega) hc, stN_mod (s := b) hw (by omega) hc]
      exact hst _ (hm c)
    · rw [es a ha, stN_mod hw (by omega) hc] at q
      rw [ev a ha i hi, ev b hb i hi, vaN_mod hw (by omega) hc, vaN_mod (s := b) hw (by omega) hc]
      obtain ⟨x, hx⟩ := hsome a _ q
      obtain ⟨y, hy⟩ := hsome b (c % 2 ^ gs.count 0) (by rw [← hst _ (hm c)]; exact q)
      have : shN gs fs os a b (c % 2 ^ gs.count 0) := Classical.byContradiction fun z => hnc _ (hm c) (Or.inr (Or.inr ⟨x, y, hx, hy, Or.inl z⟩))
      exact this i hi
    · rw [nmN, nmN]
      have e := hst c hc
      cases e1 : nxA gs fs (nvF gs fs) a c with
      | none =>
        have e2 : nxA gs fs (nvF gs fs) b c = none := nxA_none.mpr (by rw [← e]; exact nxA_none.mp e1)
        rw [e2]
      | some x =>
        cases e2 : nxA gs fs (nvF gs fs) b c with
        | none =>
          have := nxA_none.mp e2
          rw [← e] at this
          rw [nxA_none.mpr this] at e1
          cases e1
        | some y =>
          have : N x = N y := Classical.byContradiction fun z => hnc c hc (Or.inr (Or.inr ⟨x, y, e1, e2, Or.inr z⟩))
          show nI (N x) = nI (N y)
          rw [this]
  · intro ⟨c, hc, h⟩ ⟨⟨k1, k2⟩, k3⟩
    have k1' := k1 c (by omega)
    rw [es a ha, es b hb] at k1'
    rcases h with ⟨h1, h2⟩ | ⟨h1, h2⟩ | ⟨x, y, h1, h2, h3⟩
    · have := nxA_none.mp h1
      rw [k1'] at this
      exact h2 (nxA_none.mpr this)
    · have := nxA_none.mp h2
      rw [← k1'] at this
      exact h1 (nxA_none.mpr this)
    · rcases h3 with h3 | h3
      · apply h3
        intro i hi
        have hst : stN gs fs a c = true := by
          cases e : stN gs fs a c with
          | true => rfl
          | false => rw [nxG, nxA_none.mpr e] at h1; cases h1
        have := k2 i hi c (by omega) (by rw [es a ha]; exact hst)
        rw [ev a ha i hi, ev b hb i hi] at this
        exact this
      · have k4 := k3 c hc
        rw [nmN, nmN] at k4
        rw [nxG] at h1 h2
        rw [h1, h2] at k4
        have lx := nxA_lt h1
        have ly := nxA_lt h2
        have rx := hcl a ha hra c hc x h1
        have ry := hcl b hb hrb c hc y h2
        have k5 : nI (N x) = nI (N y) := k4
        rw [nI_eq (hN x lx rx) (hN y ly ry)] at k5
        exact h3 k5
/-- the last names are the same just where states are not told apart -/
theorem names_TA (hw : WF gs fs os) (hE : EX gs fs os (nvF gs fs) pn pt se va ns di od pa st sp wd re du dS dC) : ∃ N : Nat → Nat, HN (2 ^ gs.count 1) (rdK gs fs (nvF gs fs)) pn N ∧ pt = nI (nPt (rdK gs fs (nvF gs fs)) N 0 (2 ^ gs.count 1)) ∧
    ∀ a b, a < 2 ^ gs.count 1 → b < 2 ^ gs.count 1 → rdK gs fs (nvF gs fs) a = true → rdK gs fs (nvF gs fs) b = true → (N a = N b ↔ ¬ TA (nxG gs fs) (2 ^ gs.count 0) (shN gs fs os) a b) := by
  have hp8 := pow8 hw.2.2.1
  have hT := hE.1
  obtain ⟨j, hN, hpt, hst⟩ := hE.2.2.2.2.2
  have h0 : rdK gs fs (nvF gs fs) 0 = true := decide_eq_true walk_0
  have hcl : ∀ s, s < 2 ^ gs.count 1 → rdK gs fs (nvF gs fs) s = true → ∀ c, c < 2 ^ gs.count 0 → ∀ t, nxG gs fs s c = some t → rdK gs fs (nvF gs fs) t = true := by
    intro s hs hr c hc t ht
    rw [rdK, decide_eq_true_eq] at hr ⊢
    exact walk_closed hp8.2 (fun s _ c _ t ht => nxA_lt ht) 256 0 begA (by omega) (IA_beg hp8.1) (fun s hs => absurd hs (by simp)) s hr c hc t ht
  refine ⟨_, hN, hpt, ?_⟩
  generalize hM : spl se va (fun i => os.getD i 0) os.length (nxA gs fs (nvF gs fs)) (2 ^ gs.count 0) (rdK gs fs (nvF gs fs)) = M at *
  have hM0 : ∀ q, M 0 q = 0 := fun q => by rw [← hM]; rfl
  have hMs : ∀ i, M (i + 1) = fiN (rdK gs fs (nvF gs fs)) (M i) (alN se va (fun i => os.getD i 0) os.length (M i) (nxA gs fs (nvF gs fs)) (2 ^ gs.count 0)) := fun i => by rw [← hM]; rfl
  have hMle : ∀ i q, rdK gs fs (nvF gs fs) q = true → M i q ≤ q := fun i q hr => by rw [← hM]; exact spl_le hr
  have hMb : ∀ i q, q < 2 ^ gs.count 1 → rdK gs fs (nvF gs fs) q = true → M i q < 2 ^ 31 := fun i q hq hr => by have := hMle i q hr; omega
  -- other names: told apart
  have up : ∀ i a b, a < 2 ^ gs.count 1 → b < 2 ^ gs.count 1 → rdK gs fs (nvF gs fs) a = true → rdK gs fs (nvF gs fs) b = true → M i a ≠ M i b → TA (nxG gs fs) (2 ^ gs.count 0) (shN gs fs os) a b := by
    intro i
    induction i with
    | zero => intro a b _ _ _ _ h; rw [hM0, hM0] at h; exact absurd rfl h
    | succ i ih =>
      intro a b ha hb hra hrb h
      by_cases c : M i a = M i b
      · rw [hMs i] at h
        have hal : alN se va (fun i => os.getD i 0) os.length (M i) (nxA gs fs (nvF gs fs)) (2 ^ gs.count 0) a b = false := by
          cases e : alN se va (fun i => os.getD i 0) os.length (M i) (nxA gs fs (nvF gs fs)) (2 ^ gs.count 0) a b with
          | false => rfl
          | true => exact absurd (fi_same alN_sym alN_trans hra hrb c e) h
        obtain ⟨c, hc, hd⟩ := (al_net hw hT (fun q hq hr => hMb i q hq hr) hcl ha hb hra hrb).mp hal
        apply TA_in
        refine ⟨c, hc, ?_⟩
        rcases hd with hd | hd | ⟨x, y, h1, h2, h3⟩
        · exact Or.inl hd
        · exact Or.inr (Or.inl hd)
        · refine Or.inr (Or.inr ⟨x, y, h1, h2, ?_⟩)
          rcases h3 with h3 | h3
          · exact Or.inl h3
          · exact Or.inr (ih x y (nxA_lt h1) (nxA_lt h2) (hcl a ha hra c hc x h1) (hcl b hb hrb c hc y h2) h3)
      · exact ih a b ha hb hra hrb c
  intro a b ha hb hra hrb
  constructor
  · intro e hta
    have hR := hta (fun a b => a < 2 ^ gs.count 1 → b < 2 ^ gs.count 1 → rdK gs fs (nvF gs fs) a = true → rdK gs fs (nvF gs fs) b = true → M (j + 1) a ≠ M (j + 1) b) (fun a b hd ha hb hra hrb e => by
      -- a and b are alike to their part's least state
      have hpa := fi_al (rd := rdK gs fs (nvF gs fs)) (N := M j) (al := alN se va (fun i => os.getD i 0) os.length (M j) (nxA gs fs (nvF gs fs)) (2 ^ gs.count 0)) (x := a)
      have hpb := fi_al (rd := rdK gs fs (nvF gs fs)) (N := M j) (al := alN se va (fun i => os.getD i 0) os.length (M j) (nxA gs fs (nvF gs fs)) (2 ^ gs.count 0)) (x := b)
      rw [← hMs j] at hpa hpb
      have hrf : ∀ p q, p = q → alN se va (fun i => os.getD i 0) os.length (M j) (nxA gs fs (nvF gs fs)) (2 ^ gs.count 0) p q = true := fun p q e => by
        subst e
        exact alN_iff.mpr ⟨⟨fun _ _ => rfl, fun _ _ _ _ _ => rfl⟩, fun _ _ => rfl⟩
      have ka : alN se va (fun i => os.getD i 0) os.length (M j) (nxA gs fs (nvF gs fs)) (2 ^ gs.count 0) (M (j + 1) a) a = true := by
        rcases hpa with z | z
        · exact hrf _ _ z
        · exact z
      have kb : alN se va (fun i => os.getD i 0) os.length (M j) (nxA gs fs (nvF gs fs)) (2 ^ gs.count 0) (M (j + 1) b) b = true := by
        rcases hpb with z | z
        · exact hrf _ _ z
        · exact z
      rw [← e] at kb
      have kab := alN_trans _ _ _ (alN_sym _ _ ka) kb
      have hno : ¬ DF (nxG gs fs) (2 ^ gs.count 0) (shN gs fs os) (fun x y => M j x ≠ M j y) a b := fun z => by
        rw [(al_net hw hT (fun q hq hr => hMb j q hq hr) hcl ha hb hra hrb).mpr z] at kab
        cases kab
      apply hno
      obtain ⟨c, hc, hd⟩ := hd
      refine ⟨c, hc, ?_⟩
      rcases hd with hd | hd | ⟨x, y, h1, h2, h3⟩
      · exact Or.inl hd
      · exact Or.inr (Or.inl hd)
      · refine Or.inr (Or.inr ⟨x, y, h1, h2, ?_⟩)
        rcases h3 with h3 | h3
        · exact Or.inl h3
        · refine Or.inr ?_
          have lx := nxA_lt h1
          have ly := nxA_lt h2
          have rx := hcl a ha hra c hc x h1
          have ry := hcl b hb hrb c hc y h2
          have := h3 lx ly rx ry
          rw [hst x lx rx, hst y ly ry] at this
          exact this)
    exact hR ha hb hra hrb e
  · intro h
    exact Classical.byContradiction fun z => h (up (j + 1) a b ha hb hra hrb z)
end GT
