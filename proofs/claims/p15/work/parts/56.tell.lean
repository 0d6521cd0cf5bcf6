/-! the reference's tell -/
section REFT
variable {se ne oo di : Nat → Int32} {on : Nat → Int64} {gs : List Nat} {fs : List (Nat × Nat)} {os : List Nat} {rd : Nat → Bool}
theorem p_t2 : ∀ (k n i : Nat) (ap : Nat → Int32), i + k = 65536 → k < n → ∃ r, L_Mod_tell_2 n (nI i) ap = some r ∧ (∀ j, i ≤ j → j < 65536 → r j = 0) ∧ ∀ j, j < i → r j = ap j := by
  intro k
  induction k with
  | zero =>
    intro n i ap h1 h2
    obtain ⟨n, rfl⟩ : ∃ z, n = z + 1 := ⟨n - 1, by omega⟩
    have e : (65536 : Int32) = nI 65536 := rfl
    rw [L_Mod_tell_2, e, if_pos ((nI_leI (by omega) (by omega)).mpr (by omega))]
    exact ⟨_, rfl, fun s a b => absurd b (by omega), fun _ _ => rfl⟩
  | succ k ih =>
    intro n i ap h1 h2
    obtain ⟨n, rfl⟩ : ∃ z, n = z + 1 := ⟨n - 1, by omega⟩
    have e : (65536 : Int32) = nI 65536 := rfl
    rw [L_Mod_tell_2, e, if_neg (by rw [nI_leI (by omega) (by omega)]; omega), gd_nI (by omega) (by decide), nI_clamp (by omega), nI_1, nar0]
    obtain ⟨r, r1, r2, r3⟩ := ih n (i + 1) (upd ap i 0) (by omega) (by omega)
    refine ⟨r, r1, fun s a b => ?_, fun s a => by rw [r3 s (by omega), upd_eq, if_neg (by omega)]⟩
    rcases Nat.lt_or_ge i s with e | e
    · exact r2 s (by omega) b
    · rw [r3 s (by omega), upd_eq, if_pos (by omega)]
/-- what the marks hold -/
def AP (gs : List Nat) (fs : List (Nat × Nat)) (os : List Nat) (ap : Nat → Int32) : Prop :=
  (∀ j, j < 65536 → ap j = 0 ∨ ap j = 1) ∧ (∀ a b, a < 256 → b < 256 → ap (256 * a + b) ≠ 0 → TA (nxG gs fs) (2 ^ gs.count 0) (shN gs fs os) a b) ∧ ∀ a b, a < 256 → b < 256 → ap (256 * a + b) = ap (256 * b + a)
def FG (gs : List Nat) (fs : List (Nat × Nat)) (os : List Nat) (rd : Nat → Bool) (a0 ap : Nat → Int32) (x : Int32) (D : Nat → Nat → Prop) : Prop :=
  (x = 0 ∧ ap = a0 ∧ ∀ a b, D a b → rd a = true → rd b = true → a0 (256 * a + b) = 0 → ¬ DF (nxG gs fs) (2 ^ gs.count 0) (shN gs fs os) (apR a0) a b) ∨ (x = 1 ∧ (∀ j, a0 j ≠ 0 → ap j ≠ 0) ∧ ∃ j, j < 65536 ∧ a0 j = 0 ∧ ap j ≠ 0)
theorem AP_lt (hw : WF gs fs os) {s t : Nat} {ap : Nat → Int32} (hA : AP gs fs os ap) (hs : s < 2 ^ gs.count 1) (ht : t < 2 ^ gs.count 1) (hd : DF (nxG gs fs) (2 ^ gs.count 0) (shN gs fs os) (apR ap) s t) : TA (nxG gs fs) (2 ^ gs.count 0) (shN gs fs os) s t := by
  have hp8 := pow8 hw.2.2.1
  apply TA_in
  obtain ⟨c, hc, hd⟩ := hd
  refine ⟨c, hc, ?_⟩
  rcases hd with hd | hd | ⟨a, b, h1, h2, h3⟩
  · exact Or.inl hd
  · exact Or.inr (Or.inl hd)
  · refine Or.inr (Or.inr ⟨a, b, h1, h2, ?_⟩)
    have l1 := nxA_lt h1
    have l2 := nxA_lt h2
    rcases h3 with h3 | h3
    · exact Or.inl h3
    · exact Or.inr (hA.2.1 a b (by omega) (by omega) h3)
theorem p_t41 (hw : WF gs fs os) (hoo : ∀ o, o < os.length → oo o = nI (os.getD o 0)) (hT : TM gs fs se ne on) (hdi : ∀ q, q < 2 ^ gs.count 1 → (di q < 0 ↔ rd q = false)) {s : Nat} (hs : s < 2 ^ gs.count 1) {a0 : Nat → Int32} :
    ∀ (k n t : Nat) (x : Int32) (ap : Nat → Int32), t + k = s → k < n → AP gs fs os ap → FG gs fs os rd a0 ap x (fun a b => b < a ∧ (a < s ∨ (a = s ∧ b < t))) →
      ∃ r, L_Mod_tell_41 (nI (gs.count 0)) (nI os.length) oo se ne on di (nI s) n x (nI t) ap = some r ∧ AP gs fs os r.2 ∧ FG gs fs os rd a0 r.2 r.1 (fun a b => b < a ∧ a < s + 1) := by
  have hp8 := pow8 hw.2.2.1
  intro k
  induction k with
  | zero =>
    intro n t x ap h1 h2 hA hF
    obtain ⟨n, rfl⟩ : ∃ z, n = z + 1 := ⟨n - 1, by omega⟩
    rw [L_Mod_tell_41, if_pos ((nI_leI (by omega) (by omega)).mpr (by omega))]
    refine ⟨_, rfl, hA, ?_⟩
    rcases hF with ⟨z1, z2, z3⟩ | z
    · exact Or.inl ⟨z1, z2, fun a b hab => z3 a b ⟨hab.1, by omega⟩⟩
    · exact Or.inr z
  | succ k ih =>
    intro n t x ap h1 h2 hA hF
    obtain ⟨n, rfl⟩ : ∃ z, n = z + 1 := ⟨n - 1, by omega⟩
    have ht : t < 2 ^ gs.count 1 := by omega
    have skip : (∀ a0', ap = a0' → rd s = true → rd t = true → a0' (256 * s + t) = 0 → ¬ DF (nxG gs fs) (2 ^ gs.count 0) (shN gs fs os) (apR a0') s t) → ∃ r, L_Mod_tell_41 (nI (gs.count 0)) (nI os.length) oo se ne on di (nI s) n x (nI (t + 1)) ap = some r ∧ AP gs fs os r.2 ∧ FG gs fs os rd a0 r.2 r.1 (fun a b => b < a ∧ a < s + 1) := by
      intro hq
      refine ih n (t + 1) x ap (by omega) (by omega) hA ?_
      rcases hF with ⟨z1, z2, z3⟩ | z
      · refine Or.inl ⟨z1, z2, fun a b hab => ?_⟩
        by_cases e : a = s ∧ b = t
        · rw [e.1, e.2]; exact hq a0 z2
        · exact z3 a b ⟨hab.1, by omega⟩
      · exact Or.inr z
    rw [L_Mod_tell_41, if_neg (by rw [nI_leI (by omega) (by omega)]; omega)]
    simp only [i256m, gd_nI (show s < 256 by omega) (show 256 < 2 ^ 31 by decide), gd_nI (show t < 256 by omega) (show 256 < 2 ^ 31 by decide), gd_nI (show 256 * s + t < 65536 by omega) (show 65536 < 2 ^ 31 by decide), gd_nI (show 256 * t + s < 65536 by omega) (show 65536 < 2 ^ 31 by decide), nI_clamp (show s < 2 ^ 31 by omega), nI_clamp (show t < 2 ^ 31 by omega), nI_clamp (show 256 * s + t < 2 ^ 31 by omega), nI_clamp (show 256 * t + s < 2 ^ 31 by omega), nI_1, nar1]
    by_cases c1 : di s < 0
    · rw [if_pos c1]
      exact skip (fun _ _ q => by rw [(hdi s hs).mp c1] at q; cases q)
    · rw [if_neg c1]
      by_cases c2 : di t < 0
      · rw [if_pos c2]
        exact skip (fun _ _ _ q => by rw [(hdi t ht).mp c2] at q; cases q)
      · rw [if_neg c2]
        by_cases c3 : ap (256 * s + t) = 0
        · rw [if_pos c3]
          rcases p_differ (ap := ap) hw hoo hT hs ht with ⟨p1, p2⟩ | ⟨p1, p2⟩
          · rw [p1, Option.bind_some, if_neg (by decide)]
            have hta := AP_lt hw hA hs ht p2
            have hat : ∀ j, upd (upd ap (256 * s + t) 1) (256 * t + s) 1 j = if j = 256 * t + s then 1 else if j = 256 * s + t then 1 else ap j := fun j => by rw [upd_eq, upd_eq]
            refine ih n (t + 1) 1 _ (by omega) (by omega) ⟨fun j hj => ?_, fun a b ha hb => ?_, fun a b ha hb => ?_⟩ ?_
            · rw [hat]
              split
              · exact Or.inr rfl
              · split
                · exact Or.inr rfl
                · exact hA.1 j hj
            · rw [hat]
              intro q
              by_cases e1 : 256 * a + b = 256 * t + s
              · have e2 : a = t := by omega
                have e3 : b = s := by omega
                rw [e2, e3]; exact TA_sym shN_sym hta
              · rw [if_neg e1] at q
                by_cases e4 : 256 * a + b = 256 * s + t
                · have e2 : a = s := by omega
                  have e3 : b = t := by omega
                  rw [e2, e3]; exact hta
                · rw [if_neg e4] at q
                  exact hA.2.1 a b ha hb q
            · rw [hat, hat]
              by_cases e1 : a = t ∧ b = s
              · rw [e1.1, e1.2]
                simp
              · by_cases e2 : a = s ∧ b = t
                · rw [e2.1, e2.2]
                  simp
                · rw [if_neg (by omega), if_neg (by omega), if_neg (by omega), if_neg (by omega)]
                  exact hA.2.2 a b ha hb
            · refine Or.inr ⟨rfl, fun j hj => ?_, 256 * s + t, by omega, ?_, ?_⟩
              · rw [hat]
                split
                · decide
                · split
                  · decide
                  · rcases hF with ⟨_, z2, _⟩ | ⟨_, z, _⟩
                    · rw [z2]; exact hj
                    · exact z j hj
              · rcases hF with ⟨_, z2, _⟩ | ⟨_, z, _⟩
                · rw [← z2]; exact c3
                · exact Classical.byContradiction fun q => z _ q c3
              · rw [hat]
                split
                · decide
                · rw [if_pos rfl]; decide
          · rw [p1, Option.bind_some, if_pos rfl]
            exact skip (fun b e _ _ _ => by rw [← e]; exact p2)
        · rw [if_neg c3]
          exact skip (fun b e _ _ q => absurd (by rw [e]; exact q) c3)
theorem p_t31 (hw : WF gs fs os) (hoo : ∀ o, o < os.length → oo o = nI (os.getD o 0)) (hT : TM gs fs se ne on) (hdi : ∀ q, q < 2 ^ gs.count 1 → (di q < 0 ↔ rd q = false)) {a0 : Nat → Int32} :
    ∀ (k n s : Nat) (x : Int32) (ap : Nat → Int32), s + k = 2 ^ gs.count 1 → k < n → AP gs fs os ap → FG gs fs os rd a0 ap x (fun a b => b < a ∧ a < s) →
      ∃ r, L_Mod_tell_31 (nI (gs.count 0)) (nI (gs.count 1)) (nI os.length) oo se ne on di n x (nI s) ap = some r ∧ AP gs fs os r.2 ∧ FG gs fs os rd a0 r.2 r.1 (fun a b => b < a ∧ a < 2 ^ gs.count 1) := by
  have hK := hw.2.2.1
  have hp8 := pow8 hK
  intro k
  induction k with
  | zero =>
    intro n s x ap h1 h2 hA hF
    obtain ⟨n, rfl⟩ : ∃ z, n = z + 1 := ⟨n - 1, by omega⟩
    rw [L_Mod_tell_31, p_mstates hK, Option.bind_some, if_pos ((nI_leI (by omega) (by omega)).mpr (by omega))]
    rw [show s = 2 ^ gs.count 1 by omega] at hF
    exact ⟨_, rfl, hA, hF⟩
  | succ k ih =>
    intro n s x ap h1 h2 hA hF
    obtain ⟨n, rfl⟩ : ∃ z, n = z + 1 := ⟨n - 1, by omega⟩
    have hF2 : FG gs fs os rd a0 ap x (fun a b => b < a ∧ (a < s ∨ (a = s ∧ b < 0))) := by
      rcases hF with ⟨z1, z2, z3⟩ | z
      · exact Or.inl ⟨z1, z2, fun a b hab => z3 a b ⟨hab.1, by omega⟩⟩
      · exact Or.inr z
    obtain ⟨r, r1, r2, r3⟩ := p_t41 hw hoo hT hdi (show s < 2 ^ gs.count 1 by omega) s fu 0 x ap (by omega) (by rw [fu]; omega) hA hF2
    have r1' : L_Mod_tell_41 (nI (gs.count 0)) (nI os.length) oo se ne on di (nI s) fu x (0 : Int32) ap = some r := r1
    rw [L_Mod_tell_31, p_mstates hK, Option.bind_some, if_neg (by rw [nI_leI (by omega) (by omega)]; omega), r1', Option.bind_some, nI_1]
    exact ih n (s + 1) r.1 r.2 (by omega) (by omega) r2 r3
def cA (ap : Nat → Int32) : Nat := (List.range' 0 65536).countP (fun j => decide (ap j = 0))
theorem p_t23 (hw : WF gs fs os) (hoo : ∀ o, o < os.length → oo o = nI (os.getD o 0)) (hT : TM gs fs se ne on) (hdi : ∀ q, q < 2 ^ gs.count 1 → (di q < 0 ↔ rd q = false)) :
    ∀ (u n : Nat) (ap : Nat → Int32), cA ap ≤ u → u + 2 ≤ n → AP gs fs os ap → ∃ r, L_Mod_tell_23 (nI (gs.count 0)) (nI (gs.count 1)) (nI os.length) oo se ne on di n (1 : Int32) ap = some r ∧ AP gs fs os r ∧
      ∀ a b, b < a → a < 2 ^ gs.count 1 → rd a = true → rd b = true → r (256 * a + b) = 0 → ¬ DF (nxG gs fs) (2 ^ gs.count 0) (shN gs fs os) (apR r) a b := by
  have hp8 := pow8 hw.2.2.1
  intro u
  induction u with
  | zero =>
    intro n ap h1 h2 hA
    obtain ⟨n, rfl⟩ : ∃ z, n = z + 2 := ⟨n - 2, by omega⟩
    obtain ⟨r, r1, r2, r3⟩ := p_t31 (a0 := ap) hw hoo hT hdi (2 ^ gs.count 1) fu 0 0 ap (by omega) (by rw [fu]; omega) hA (Or.inl ⟨rfl, rfl, fun a b hab => absurd hab.2 (by omega)⟩)
    have r1' : L_Mod_tell_31 (nI (gs.count 0)) (nI (gs.count 1)) (nI os.length) oo se ne on di fu (0 : Int32) (0 : Int32) ap = some r := r1
    rw [L_Mod_tell_23, if_neg (by decide), r1', Option.bind_some]
    rcases r3 with ⟨z1, z2, z3⟩ | ⟨z1, _, j, j1, j2, _⟩
    · rw [z1, L_Mod_tell_23, if_pos rfl]
      refine ⟨_, rfl, r2, ?_⟩
      rw [z2]
      exact fun a b h1 h2 => z3 a b ⟨h1, h2⟩
    · have hc : cA ap = 0 := by omega
      have := List.countP_eq_zero.mp hc j (List.mem_range'_1.mpr ⟨by omega, by omega⟩)
      exact absurd (decide_eq_true j2) this
  | succ u ih =>
    intro n ap h1 h2 hA
    obtain ⟨n, rfl⟩ : ∃ z, n = z + 2 := ⟨n - 2, by omega⟩
    obtain ⟨r, r1, r2, r3⟩ := p_t31 (a0 := ap) hw hoo hT hdi (2 ^ gs.count 1) fu 0 0 ap (by omega) (by rw [fu]; omega) hA (Or.inl ⟨rfl, rfl, fun a b hab => absurd hab.2 (by omega)⟩)
    have r1' : L_Mod_tell_31 (nI (gs.count 0)) (nI (gs.count 1)) (nI os.length) oo se ne on di fu (0 : Int32) (0 : Int32) ap = some r := r1
    rw [L_Mod_tell_23, if_neg (by decide), r1', Option.bind_some]
    rcases r3 with ⟨z1, z2, z3⟩ | ⟨z1, z2, j, j1, j2, j3⟩
    · rw [z1, L_Mod_tell_23, if_pos rfl]
      refine ⟨_, rfl, r2, ?_⟩
      rw [z2]
      exact fun a b h1 h2 => z3 a b ⟨h1, h2⟩
    · rw [z1]
      have hlt : cA r.2 < cA ap := cnt_lt (fun x _ h => decide_eq_true (Classical.byContradiction fun q => z2 x q (of_decide_eq_true h))) ⟨j, List.mem_range'_1.mpr ⟨by omega, by omega⟩, decide_eq_false j3, decide_eq_true j2⟩
      exact ih (n + 1) r.2 (by omega) (by omega) r2
/-- the marks, at the end: just what is told apart -/
theorem p_tell (hw : WF gs fs os) (hoo : ∀ o, o < os.length → oo o = nI (os.getD o 0)) (hT : TM gs fs se ne on) (hdi : ∀ q, q < 2 ^ gs.count 1 → (di q < 0 ↔ rd q = false)) (hcl : ∀ s, s < 2 ^ gs.count 1 → rd s = true → ∀ c, c < 2 ^ gs.count 0 → ∀ t, nxG gs fs s c = some t → rd t = true) (ap : Nat → Int32) :
    ∃ r, m_Mod_tell (nI (gs.count 0)) (nI (gs.count 1)) (nI os.length) oo se ne on di ap = some r ∧ (∀ j, j < 65536 → r j = 0 ∨ r j = 1) ∧ (∀ a, a < 256 → r (256 * a + a) = 0) ∧ ∀ a b, a < 2 ^ gs.count 1 → b < 2 ^ gs.count 1 → rd a = true → rd b = true → (r (256 * a + b) ≠ 0 ↔ TA (nxG gs fs) (2 ^ gs.count 0) (shN gs fs os) a b) := by
  have hp8 := pow8 hw.2.2.1
  obtain ⟨r, r1, r2, -⟩ := p_t2 65536 fu 0 ap (by omega) (by rw [fu]; omega)
  have r1' : L_Mod_tell_2 fu (0 : Int32) ap = some r := r1
  have hA : AP gs fs os r := ⟨fun j hj => Or.inl (r2 j (Nat.zero_le _) hj), fun a b ha hb q => absurd (r2 _ (Nat.zero_le _) (by omega)) q, fun a b ha hb => by rw [r2 _ (Nat.zero_le _) (by omega), r2 _ (Nat.zero_le _) (by omega)]⟩
  have hcA : cA r ≤ 65536 := by
    have := List.countP_le_length (p := fun j => decide (r j = 0)) (l := List.range' 0 65536)
    rw [List.length_range'] at this
    exact this
  obtain ⟨q, q1, q2, q3⟩ := p_t23 hw hoo hT hdi 65536 fu r hcA (by rw [fu]; omega) hA
  rw [m_Mod_tell, r1', Option.bind_some, q1, Option.bind_some]
  have hself : ∀ a, a < 256 → q (256 * a + a) = 0 := fun a ha => Classical.byContradiction fun z => TA_ne shN_rfl (q2.2.1 a a ha ha z) rfl
  refine ⟨q, rfl, q2.1, hself, fun a b ha hb hra hrb => ⟨fun z => q2.2.1 a b (by omega) (by omega) z, fun z => ?_⟩⟩
  have hsymDF : ∀ a b, a < 2 ^ gs.count 1 → b < 2 ^ gs.count 1 → DF (nxG gs fs) (2 ^ gs.count 0) (shN gs fs os) (apR q) a b → DF (nxG gs fs) (2 ^ gs.count 0) (shN gs fs os) (apR q) b a := by
    intro a b ha hb ⟨c, hc, hd⟩
    refine ⟨c, hc, ?_⟩
    rcases hd with ⟨h1, h2⟩ | ⟨h1, h2⟩ | ⟨x, y, h1, h2, h3⟩
    · exact Or.inr (Or.inl ⟨h2, h1⟩)
    · exact Or.inl ⟨h2, h1⟩
    · have l1 := nxA_lt h1
      have l2 := nxA_lt h2
      refine Or.inr (Or.inr ⟨y, x, h2, h1, ?_⟩)
      rcases h3 with h3 | h3
      · exact Or.inl (fun w => h3 (shN_sym _ _ _ w))
      · refine Or.inr ?_
        rw [apR, q2.2.2 y x (by omega) (by omega)]
        exact h3
  have := z (fun a b => a < 2 ^ gs.count 1 → b < 2 ^ gs.count 1 → rd a = true → rd b = true → q (256 * a + b) ≠ 0) (fun a b hd ha hb hra hrb hz => by
    have hd2 : DF (nxG gs fs) (2 ^ gs.count 0) (shN gs fs os) (apR q) a b := by
      obtain ⟨c, hc, hd⟩ := hd
      refine ⟨c, hc, ?_⟩
      rcases hd with hd | hd | ⟨x, y, h1, h2, h3⟩
      · exact Or.inl hd
      · exact Or.inr (Or.inl hd)
      · refine Or.inr (Or.inr ⟨x, y, h1, h2, ?_⟩)
        rcases h3 with h3 | h3
        · exact Or.inl h3
        · exact Or.inr (h3 (nxA_lt h1) (nxA_lt h2) (hcl a ha hra c hc x h1) (hcl b hb hrb c hc y h2))
    rcases Nat.lt_trichotomy a b with e | e | e
    · exact q3 b a e hb hrb hra (by rw [q2.2.2 b a (by omega) (by omega)]; exact hz) (hsymDF a b ha hb hd2)
    · subst e
      exact TA_ne shN_rfl (AP_lt hw q2 ha ha hd2) rfl
    · exact q3 a b e ha hra hrb hz hd2)
  exact this ha hb hra hrb
end REFT
