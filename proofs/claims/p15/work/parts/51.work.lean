/-! the reference's work at a pair -/
theorem nar0 : vp_nar .boolean (0 : Int32) = 0 := by decide
theorem nar1 : vp_nar .boolean (1 : Int32) = 1 := by decide
theorem sh_bit {x r : Nat} (hx : x < 256) (hr : r < 8) : (nI x >>> (nI r &&& 31)) &&& (1 : Int32) = nI (if x.testBit r = true then 1 else 0) := by
  have key : ∀ x : Fin 256, ∀ r : Fin 8, (nI x.val >>> (nI r.val &&& 31)) &&& (1 : Int32) = nI (if x.val.testBit r.val = true then 1 else 0) := by decide +kernel
  exact key ⟨x, hx⟩ ⟨r, hr⟩
/-- a bit of a number below 256 is put -/
def stb (x r t : Nat) : Nat := x % 2 ^ r + t * 2 ^ r + x / 2 ^ (r + 1) * 2 ^ (r + 1)
theorem stb_I {x r t : Nat} (hx : x < 256) (hr : r < 8) (ht : t < 2) : (nI x &&& (((1 : Int32) <<< (nI r &&& 31)) ^^^ (-1 : Int32))) ||| (nI t <<< (nI r &&& 31)) = nI (stb x r t) ∧ stb x r t < 256 := by
  have key : ∀ x : Fin 256, ∀ r : Fin 8, ∀ t : Fin 2, (nI x.val &&& (((1 : Int32) <<< (nI r.val &&& 31)) ^^^ (-1 : Int32))) ||| (nI t.val <<< (nI r.val &&& 31)) = nI (stb x.val r.val t.val) ∧ stb x.val r.val t.val < 256 := by decide +kernel
  exact key ⟨x, hx⟩ ⟨r, hr⟩ ⟨t, ht⟩
theorem stb_bit {x r t k : Nat} (hx : x < 256) (hr : r < 8) (ht : t < 2) (hk : k < 8) : (stb x r t).testBit k = if k = r then decide (t = 1) else x.testBit k := by
  have key : ∀ x : Fin 256, ∀ r : Fin 8, ∀ t : Fin 2, ∀ k : Fin 8, (stb x.val r.val t.val).testBit k.val = if k.val = r.val then decide (t.val = 1) else x.val.testBit k.val := by decide +kernel
  exact key ⟨x, hx⟩ ⟨r, hr⟩ ⟨t, ht⟩ ⟨k, hk⟩
theorem shl1_bit {g j : Nat} (hg : g < 60) (hj : j < 64) : bL ((1 : Int64) <<< ((nI g).toInt64 &&& 63)) j = decide (j = g) := by
  have key : ∀ g : Fin 60, ∀ j : Fin 64, bL ((1 : Int64) <<< ((nI g.val).toInt64 &&& 63)) j.val = decide (j.val = g.val) := by decide +kernel
  exact key ⟨g, hg⟩ ⟨j, hj⟩
/-- what the gates begin with -/
def V0N (gs : List Nat) (s c g : Nat) : Nat := if gs.getD g 9 ≤ 1 then (if bvS gs s c g = true then 1 else 0) else 2
section REFW
variable {so nu to fr ne : Nat → Int32} {gs : List Nat} {fs : List (Nat × Nat)} {os : List Nat} {V : Nat → Nat} {v : Nat → Int32}
theorem p_w10 (hw : WF gs fs os) (hso : ∀ g, g < gs.length → so g = nI (gs.getD g 9) ∧ (gs.getD g 9 ≤ 1 → nu g = nI (rk gs g))) {s c : Nat} (hs : s < 256) (hc : c < 256) : ∀ (k n i : Nat) (va : Nat → Int32), i + k = gs.length → k < n → ∃ r, L_Mod_work_10 (nI gs.length) so nu (nI s) (nI c) n (nI i) va = some r ∧ (∀ g, i ≤ g → g < gs.length → r g = nI (V0N gs s c g)) ∧ ∀ g, g < i → r g = va g := by
  have hG := hw.1
  intro k
  induction k with
  | zero =>
    intro n i ma h1 h2
    obtain ⟨n, rfl⟩ : ∃ z, n = z + 1 := ⟨n - 1, by omega⟩
    rw [L_Mod_work_10, if_pos ((nI_leI (by omega) (by omega)).mpr (by omega))]
    exact ⟨_, rfl, fun s a b => absurd b (by omega), fun _ _ => rfl⟩
  | succ k ih =>
    intro n i ma h1 h2
    obtain ⟨n, rfl⟩ : ∃ z, n = z + 1 := ⟨n - 1, by omega⟩
    have hi : i < gs.length := by omega
    have h3 := so_le hw hi
    have hr := rk_lt hi
    obtain ⟨s1, s2⟩ := hso i hi
    have key : ∀ x : Int32, x = nI (V0N gs s c i) → ∃ r, L_Mod_work_10 (nI gs.length) so nu (nI s) (nI c) n (nI (i + 1)) (upd ma i x) = some r ∧ (∀ g, i ≤ g → g < gs.length → r g = nI (V0N gs s c g)) ∧ ∀ g, g < i → r g = ma g := by
      intro x hx
      obtain ⟨r, r1, r2, r3⟩ := ih n (i + 1) (upd ma i x) (by omega) (by omega)
      refine ⟨r, r1, fun s a b => ?_, fun s a => by rw [r3 s (by omega), upd_eq, if_neg (by omega)]⟩
      rcases Nat.lt_or_ge i s with e | e
      · exact r2 s (by omega) b
      · have : s = i := by omega
        subst this
        rw [r3 s (by omega), upd_eq, if_pos rfl, hx]
    rw [L_Mod_work_10, if_neg (by rw [nI_leI (by omega) (by omega)]; omega)]
    simp only [gd_nI (show i < 60 by omega) (show 60 < 2 ^ 31 by decide), nI_clamp (show i < 2 ^ 31 by omega), nI_1, s1, q0 (show gs.getD i 9 < 2 ^ 31 by omega), q1 (show gs.getD i 9 < 2 ^ 31 by omega)]
    by_cases c0 : gs.getD i 9 = 0
    · rw [if_pos c0, s2 (by omega)]
      rw [c0] at hr
      have := hw.2.1
      exact key _ (by rw [sh_bit hc (by omega), V0N, if_pos (show gs.getD i 9 ≤ 1 by omega), bvS, if_pos c0])
    · rw [if_neg c0]
      by_cases c1 : gs.getD i 9 = 1
      · rw [if_pos c1, s2 (by omega)]
        rw [c1] at hr
        have := hw.2.2.1
        exact key _ (by rw [sh_bit hs (by omega), V0N, if_pos (show gs.getD i 9 ≤ 1 by omega), bvS, if_neg c0])
      · rw [if_neg c1]
        exact key _ (by rw [V0N, if_neg (by omega)]; rfl)
theorem SV_0 {s c : Nat} : SV gs fs (bvS gs s c) (V0N gs s c) := by
  intro g hg
  rw [V0N]
  by_cases h : gs.getD g 9 ≤ 1
  · rw [if_pos h]
    have hb := Dv_base (fs := fs) (bv := bvS gs s c) g hg h
    cases e : bvS gs s c g with
    | true =>
      rw [e, if_pos rfl] at hb
      rw [if_pos rfl]
      exact ⟨by decide, fun _ => hb, fun q => absurd q (by decide), fun _ => rfl⟩
    | false =>
      rw [e, if_neg (by decide)] at hb
      rw [if_neg (by decide)]
      exact ⟨by decide, fun q => absurd q (by decide), fun _ => hb, fun _ => rfl⟩
  · rw [if_neg h]
    exact ⟨by decide, fun q => absurd q (by decide), fun q => absurd q (by decide), fun q => absurd q h⟩
theorem p_w85 (hw : WF gs fs os) (hso : ∀ g, g < gs.length → so g = nI (gs.getD g 9)) (hfs : ∀ k, k < fs.length → to k = nI (fs.getD k (0, 0)).1 ∧ fr k = nI ((fs.getD k (0, 0)).2 / 2) ∧ ne k = nI ((fs.getD k (0, 0)).2 % 2)) {bv : Nat → Bool} :
    ∀ (u n : Nat) (V : Nat → Nat) (v ma : Nat → Int32), SV gs fs bv V → (∀ g, g < gs.length → v g = nI (V g)) → unN gs V ≤ u → u + 2 ≤ n → ∃ r V2, L_Mod_work_85 (nI gs.length) (nI fs.length) so to fr ne n (1 : Int32) v ma = some r ∧ (∀ g, g < gs.length → r.1 g = nI (V2 g)) ∧ SV gs fs bv V2 ∧ ∀ g, g < gs.length → agN gs fs V2 g = V2 g := by
  intro u
  induction u with
  | zero =>
    intro n V v ma hS hv hu hn
    obtain ⟨n, rfl⟩ : ∃ z, n = z + 2 := ⟨n - 2, by omega⟩
    obtain ⟨r, r1, r2, r3⟩ := p_again hw hso hfs (fun g hg => ⟨hv g hg, (hS g hg).1⟩) ma
    rw [L_Mod_work_85, if_neg (by decide), r1, Option.bind_some]
    have hf : ∀ g, g < gs.length → agN gs fs V g = V g := Classical.byContradiction fun q => by have := unN_ag q; omega
    have hz : r.1 = 0 := by
      rcases r3 with ⟨z, _⟩ | ⟨_, g, hg, z⟩
      · exact z
      · exact absurd (hf g hg) z
    rw [hz, L_Mod_work_85, if_pos rfl]
    exact ⟨_, V, rfl, fun g hg => by rw [r2 g hg, hf g hg], hS, hf⟩
  | succ u ih =>
    intro n V v ma hS hv hu hn
    obtain ⟨n, rfl⟩ : ∃ z, n = z + 2 := ⟨n - 2, by omega⟩
    obtain ⟨r, r1, r2, r3⟩ := p_again hw hso hfs (fun g hg => ⟨hv g hg, (hS g hg).1⟩) ma
    rw [L_Mod_work_85, if_neg (by decide), r1, Option.bind_some]
    rcases r3 with ⟨z, hf⟩ | ⟨z, g, hg, hne⟩
    · rw [z, L_Mod_work_85, if_pos rfl]
      exact ⟨_, V, rfl, fun g hg => by rw [r2 g hg, hf g hg], hS, hf⟩
    · rw [z]
      have hlt := unN_ag (gs := gs) (fs := fs) (V := V) (fun q => hne (q g hg))
      exact ih (n + 1) (agN gs fs V) r.2.1 r.2.2 (SV_ag hw hS) r2 (by omega) (by omega)
/-- settles and ones of a pair -/
theorem p_w116 (hw : WF gs fs os) (hv : ∀ g, g < gs.length → v g = nI (V g) ∧ V g ≤ 2) {a : Nat} (ha : a < 4096) :
    ∀ (k n i : Nat) (se : Nat → Int32) (on : Nat → Int64), i + k = gs.length → k < n → ((se a = 1 ∧ ∀ g, g < i → V g ≠ 2) ∨ (se a = 0 ∧ ∃ g, g < gs.length ∧ V g = 2)) → (∀ g, g < i → bL (on a) g = decide (V g = 1)) → (∀ g, i ≤ g → g < 64 → bL (on a) g = false) →
      ∃ r, L_Mod_work_116 (nI gs.length) v (nI a) n (nI i) se on = some r ∧ ((r.1 a = 1 ∧ ∀ g, g < gs.length → V g ≠ 2) ∨ (r.1 a = 0 ∧ ∃ g, g < gs.length ∧ V g = 2)) ∧ (∀ g, g < gs.length → bL (r.2 a) g = decide (V g = 1)) ∧ (∀ j, j ≠ a → r.1 j = se j ∧ r.2 j = on j) := by
  have hG := hw.1
  intro k
  induction k with
  | zero =>
    intro n i se on h1 h2 hs ho hz
    obtain ⟨n, rfl⟩ : ∃ z, n = z + 1 := ⟨n - 1, by omega⟩
    rw [L_Mod_work_116, if_pos ((nI_leI (by omega) (by omega)).mpr (by omega))]
    have e : i = gs.length := by omega
    subst e
    exact ⟨_, rfl, hs, ho, fun _ _ => ⟨rfl, rfl⟩⟩
  | succ k ih =>
    intro n i se on h1 h2 hs ho hz
    obtain ⟨n, rfl⟩ : ∃ z, n = z + 1 := ⟨n - 1, by omega⟩
    have hi : i < gs.length := by omega
    obtain ⟨v1, v2⟩ := hv i hi
    have key : ∀ (x : Int32) (y : Int64), ((x = 1 ∧ ∀ g, g < i + 1 → V g ≠ 2) ∨ (x = 0 ∧ ∃ g, g < gs.length ∧ V g = 2)) → (∀ g, g < i + 1 → bL y g = decide (V g = 1)) → (∀ g, i + 1 ≤ g → g < 64 → bL y g = false) →
        ∃ r, L_Mod_work_116 (nI gs.length) v (nI a) n (nI (i + 1)) (upd se a x) (vp_updL on a y) = some r ∧ ((r.1 a = 1 ∧ ∀ g, g < gs.length → V g ≠ 2) ∨ (r.1 a = 0 ∧ ∃ g, g < gs.length ∧ V g = 2)) ∧ (∀ g, g < gs.length → bL (r.2 a) g = decide (V g = 1)) ∧ (∀ j, j ≠ a → r.1 j = se j ∧ r.2 j = on j) := by
      intro x y h3 h4 h5
      obtain ⟨r, r1, r2, r3, r4⟩ := ih n (i + 1) (upd se a x) (vp_updL on a y) (by omega) (by omega) (by rw [upd_eq, if_pos rfl]; exact h3) (by rw [updL_eq, if_pos rfl]; exact h4) (by rw [updL_eq, if_pos rfl]; exact h5)
      refine ⟨r, r1, r2, r3, fun j hj => ?_⟩
      obtain ⟨b1, b2⟩ := r4 j hj
      rw [b1, b2, upd_eq, updL_eq, if_neg hj, if_neg hj]
      exact ⟨rfl, rfl⟩
    have ones1 : V i = 1 → (∀ g, g < i + 1 → bL (on a ||| ((1 : Int64) <<< ((nI i).toInt64 &&& 63))) g = decide (V g = 1)) ∧ (∀ g, i + 1 ≤ g → g < 64 → bL (on a ||| ((1 : Int64) <<< ((nI i).toInt64 &&& 63))) g = false) := by
      intro h
      refine ⟨fun g hg => ?_, fun g hg hg2 => ?_⟩
      · rw [bL_or, shl1_bit (by omega) (by omega)]
        by_cases c : g = i
        · rw [c, h, hz i (Nat.le_refl _) (by omega)]; simp
        · rw [ho g (by omega), decide_eq_false c, Bool.or_false]
      · rw [bL_or, shl1_bit (by omega) (by omega), hz g (by omega) hg2, decide_eq_false (by omega)]; rfl
    have ones0 : V i ≠ 1 → (∀ g, g < i + 1 → bL (on a) g = decide (V g = 1)) ∧ (∀ g, i + 1 ≤ g → g < 64 → bL (on a) g = false) := by
      intro h
      refine ⟨fun g hg => ?_, fun g hg hg2 => hz g (by omega) hg2⟩
      by_cases c : g = i
      · rw [c, hz i (Nat.le_refl _) (by omega), decide_eq_false h]
      · exact ho g (by omega)
    have fin : ∀ x : Int32, ((x = 1 ∧ ∀ g, g < i + 1 → V g ≠ 2) ∨ (x = 0 ∧ ∃ g, g < gs.length ∧ V g = 2)) → ∃ r, (if V i = 1 then L_Mod_work_116 (nI gs.length) v (nI a) n (nI (i + 1)) (upd se a x) (vp_updL on a (on a ||| ((1 : Int64) <<< ((nI i).toInt64 &&& 63)))) else L_Mod_work_116 (nI gs.length) v (nI a) n (nI (i + 1)) (upd se a x) (vp_updL on a (on a))) = some r ∧ ((r.1 a = 1 ∧ ∀ g, g < gs.length → V g ≠ 2) ∨ (r.1 a = 0 ∧ ∃ g, g < gs.length ∧ V g = 2)) ∧ (∀ g, g < gs.length → bL (r.2 a) g = decide (V g = 1)) ∧ (∀ j, j ≠ a → r.1 j = se j ∧ r.2 j = on j) := by
      intro x hx
      by_cases c : V i = 1
      · rw [if_pos c]; exact key _ _ hx (ones1 c).1 (ones1 c).2
      · rw [if_neg c]; exact key _ _ hx (ones0 c).1 (ones0 c).2
    rw [L_Mod_work_116, if_neg (by rw [nI_leI (by omega) (by omega)]; omega)]
    simp only [sx_let, gd_nI ha (show 4096 < 2 ^ 31 by decide), gd_nI (show i < 60 by omega) (show 60 < 2 ^ 31 by decide), nI_clamp (show i < 2 ^ 31 by omega), nI_clamp (show a < 2 ^ 31 by omega), v1, q1 (show V i < 2 ^ 31 by omega), q2 (show V i < 2 ^ 31 by omega), nI_1, nar0, nar1]
    rcases hs with ⟨e, hs⟩ | ⟨e, hs⟩
    · rw [if_neg (by rw [e]; decide)]
      by_cases c : V i = 2
      · rw [if_pos c]
        exact fin 0 (Or.inr ⟨rfl, i, hi, c⟩)
      · rw [if_neg c]
        refine fin 1 (Or.inl ⟨rfl, fun g hg => ?_⟩)
        by_cases z : g = i
        · rw [z]; exact c
        · exact hs g (by omega)
    · rw [if_pos e]
      exact fin 0 (Or.inr ⟨rfl, hs⟩)
end REFW
