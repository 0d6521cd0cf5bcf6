/-! THE REFERENCE'S CELLS hold the net; a turn of its settling -/
def RM (ga fe inp la ou : Int32) (so nu to fr oo ne : Nat → Int32) (gs : List Nat) (fs : List (Nat × Nat)) (os : List Nat) : Prop :=
  ga = nI gs.length ∧ fe = nI fs.length ∧ inp = nI (gs.count 0) ∧ la = nI (gs.count 1) ∧ ou = nI os.length ∧
  (∀ g, g < gs.length → so g = nI (gs.getD g 9) ∧ (gs.getD g 9 ≤ 1 → nu g = nI (rk gs g))) ∧
  (∀ k, k < fs.length → to k = nI (fs.getD k (0, 0)).1 ∧ fr k = nI ((fs.getD k (0, 0)).2 / 2) ∧ ne k = nI ((fs.getD k (0, 0)).2 % 2)) ∧
  (∀ o, o < os.length → oo o = nI (os.getD o 0))
theorem q0 {q : Nat} (h : q < 2 ^ 31) : (nI q = (0 : Int32)) ↔ q = 0 := by rw [i0]; exact nI_eq h (by decide)
theorem q1 {q : Nat} (h : q < 2 ^ 31) : (nI q = (1 : Int32)) ↔ q = 1 := by rw [i1]; exact nI_eq h (by decide)
theorem q2 {q : Nat} (h : q < 2 ^ 31) : (nI q = (2 : Int32)) ↔ q = 2 := by rw [i2]; exact nI_eq h (by decide)
section REFA
variable {so to fr ne : Nat → Int32} {gs : List Nat} {fs : List (Nat × Nat)} {os : List Nat} {V : Nat → Nat} {v : Nat → Int32}
theorem p_ag4 (hw : WF gs fs os) (hso : ∀ g, g < gs.length → so g = nI (gs.getD g 9)) : ∀ (k n i : Nat) (ma : Nat → Int32), i + k = gs.length → k < n → ∃ r, L_Mod_again_4 (nI gs.length) so n (nI i) ma = some r ∧ (∀ g, i ≤ g → g < gs.length → r g = nI (m0N gs g)) ∧ ∀ g, g < i → r g = ma g := by
  have hG := hw.1
  intro k
  induction k with
  | zero =>
    intro n i ma h1 h2
    obtain ⟨n, rfl⟩ : ∃ z, n = z + 1 := ⟨n - 1, by omega⟩
    rw [L_Mod_again_4, if_pos ((nI_leI (by omega) (by omega)).mpr (by omega))]
    exact ⟨_, rfl, fun s a b => absurd b (by omega), fun _ _ => rfl⟩
  | succ k ih =>
    intro n i ma h1 h2
    obtain ⟨n, rfl⟩ : ∃ z, n = z + 1 := ⟨n - 1, by omega⟩
    have h3 := so_le hw (show i < gs.length by omega)
    have key : ∀ x : Int32, x = nI (m0N gs i) → ∃ r, L_Mod_again_4 (nI gs.length) so n (nI (i + 1)) (upd ma i x) = some r ∧ (∀ g, i ≤ g → g < gs.length → r g = nI (m0N gs g)) ∧ ∀ g, g < i → r g = ma g := by
      intro x hx
      obtain ⟨r, r1, r2, r3⟩ := ih n (i + 1) (upd ma i x) (by omega) (by omega)
      refine ⟨r, r1, fun s a b => ?_, fun s a => by rw [r3 s (by omega), upd_eq, if_neg (by omega)]⟩
      rcases Nat.lt_or_ge i s with e | e
      · exact r2 s (by omega) b
      · have : s = i := by omega
        subst this
        rw [r3 s (by omega), upd_eq, if_pos rfl, hx]
    rw [L_Mod_again_4, if_neg (by rw [nI_leI (by omega) (by omega)]; omega), gd_nI (by omega) (by decide), gd_nI (by omega) (by decide), gd_nI (by omega) (by decide), nI_clamp (by omega), nI_1, hso i (by omega)]
    simp only [q2 (show gs.getD i 9 < 2 ^ 31 by omega)]
    by_cases c : gs.getD i 9 = 2
    · rw [if_pos c]; exact key _ (by rw [m0N, if_pos c]; rfl)
    · rw [if_neg c]; exact key _ (by rw [m0N, if_neg c]; rfl)
theorem one_sub {x : Nat} (h : x < 2) : (1 : Int32) - nI x = nI (1 - x) := by
  have key : ∀ x : Fin 2, (1 : Int32) - nI x.val = nI (1 - x.val) := by decide +kernel
  exact key ⟨x, h⟩
theorem p_taken (hG : gs.length ≤ 60) (hv : ∀ g, g < gs.length → v g = nI (V g) ∧ V g ≤ 2) {k l : Nat} (hk : k < 240) (hl : l < 2 * gs.length) (hf : fr k = nI (l / 2)) (hn : ne k = nI (l % 2)) : m_Mod_taken v fr ne (nI k) = some (nI (tk V l)) := by
  obtain ⟨a, b⟩ := hv (l / 2) (by omega)
  rw [m_Mod_taken, gd_nI hk (by decide), gd_nI hk (by decide), nI_clamp (by omega), hf, hn, gd_nI (by omega) (by decide), nI_clamp (by omega), a, tk]
  simp only [q2 (show V (l / 2) < 2 ^ 31 by omega), q0 (show l % 2 < 2 ^ 31 by omega)]
  by_cases c1 : V (l / 2) = 2
  · rw [if_pos c1, if_pos (Or.inl c1)]
  · rw [if_neg c1]
    by_cases c2 : l % 2 = 0
    · rw [if_pos c2, if_pos (Or.inr c2)]
    · rw [if_neg c2, if_neg (by omega), one_sub (by omega)]
theorem tk_le (hv : ∀ g, g < gs.length → V g ≤ 2) {l : Nat} (hl : l < 2 * gs.length) : tk V l ≤ 2 := by
  have := hv (l / 2) (by omega)
  rw [tk]; split <;> omega
theorem mkG_le {st m : Nat} {ls : List Nat} (hst : st ≤ 1) (hm : m ≤ 2) : mkG V st m ls ≤ 2 := by
  rcases mkG_cases (V := V) hst ls m with ⟨a, _⟩ | ⟨a, _⟩ | ⟨a, _⟩ <;> omega
theorem sg_le {g : Nat} : sgN gs g ≤ 1 := by rw [sgN]; split <;> decide
theorem m0_le {g : Nat} : m0N gs g ≤ 2 := by rw [m0N]; split <;> decide
theorem p_ag41 (hw : WF gs fs os) (hso : ∀ g, g < gs.length → so g = nI (gs.getD g 9)) (hfs : ∀ k, k < fs.length → to k = nI (fs.getD k (0, 0)).1 ∧ fr k = nI ((fs.getD k (0, 0)).2 / 2) ∧ ne k = nI ((fs.getD k (0, 0)).2 % 2)) (hv : ∀ g, g < gs.length → v g = nI (V g) ∧ V g ≤ 2) :
    ∀ (k n i : Nat) (ma : Nat → Int32), i + k = fs.length → k < n → (∀ g, g < gs.length → ma g = nI (mkG V (sgN gs g) (m0N gs g) (fOf (fs.take i) g))) →
      ∃ r, L_Mod_again_41 (nI fs.length) so v to fr ne n (nI i) ma = some r ∧ ∀ g, g < gs.length → r g = nI (mkG V (sgN gs g) (m0N gs g) (fOf fs g)) := by
  have hG := hw.1
  have hF : fs.length ≤ 240 := hw.2.2.2.2.1
  intro k
  induction k with
  | zero =>
    intro n i ma h1 h2 hm
    obtain ⟨n, rfl⟩ : ∃ z, n = z + 1 := ⟨n - 1, by omega⟩
    rw [L_Mod_again_41, if_pos ((nI_leI (by omega) (by omega)).mpr (by omega))]
    rw [List.take_of_length_le (by omega)] at hm
    exact ⟨_, rfl, hm⟩
  | succ k ih =>
    intro n i ma h1 h2 hm
    obtain ⟨n, rfl⟩ : ∃ z, n = z + 1 := ⟨n - 1, by omega⟩
    obtain ⟨f1, f2, f3⟩ := hfs i (by omega)
    have eg : fs.getD i (0, 0) = fs[i]'(by omega) := by rw [List.getD_eq_getElem?_getD, List.getElem?_eq_getElem (by omega)]; rfl
    have hmem : fs.getD i (0, 0) ∈ fs := by rw [eg]; exact List.getElem_mem _
    have ht : fs.take (i + 1) = fs.take i ++ [fs.getD i (0, 0)] := by rw [eg, List.take_succ_eq_append_getElem (by omega)]
    generalize fs.getD i (0, 0) = f at *
    obtain ⟨t, l⟩ := f
    obtain ⟨w1, w2, _⟩ := hw.2.2.2.2.2.1 _ hmem
    dsimp only at *
    have h3 := so_le hw w1
    have htk := tk_le (fun g hg => (hv g hg).2) w2
    have hsg := sg_le (gs := gs) (g := t)
    have hmt := hm t w1
    have hmle := mkG_le (V := V) (ls := fOf (fs.take i) t) hsg (m0_le (gs := gs) (g := t))
    generalize hmv : mkG V (sgN gs t) (m0N gs t) (fOf (fs.take i) t) = m at *
    have key : ∀ ma2 : Nat → Int32, (∀ g, g < gs.length → g ≠ t → ma2 g = ma g) → ma2 t = nI (mkS V (sgN gs t) m l) → ∃ r, L_Mod_again_41 (nI fs.length) so v to fr ne n (nI (i + 1)) ma2 = some r ∧ ∀ g, g < gs.length → r g = nI (mkG V (sgN gs g) (m0N gs g) (fOf fs g)) := by
      intro ma2 a1 a2
      refine ih n (i + 1) ma2 (by omega) (by omega) (fun g hg => ?_)
      rw [ht, fOf_app]
      by_cases c : t = g
      · subst c
        rw [if_pos rfl, a2, mkG, List.foldl_append]
        rw [mkG] at hmv
        rw [hmv]; rfl
      · rw [if_neg c, a1 g hg (fun z => c z.symm)]; exact hm g hg
    have est : (if gs.getD t 9 = 2 then (0 : Int32) else 1) = nI (sgN gs t) := by
      rw [sgN]; split <;> rfl
    rw [L_Mod_again_41, if_neg (by rw [nI_leI (by omega) (by omega)]; omega)]
    simp only [sx_let]
    rw [gd_nI (by omega) (by decide), nI_clamp (by omega), f1, gd_nI (by omega) (by decide), nI_clamp (by omega), hso t w1, p_taken hG hv (by omega) w2 f2 f3]
    simp only [Option.bind_some, q2 (show gs.getD t 9 < 2 ^ 31 by omega), q2 (show tk V l < 2 ^ 31 by omega), gd_nI (show t < 60 by omega) (show 60 < 2 ^ 31 by decide), nI_1]
    have body : ∀ z : Int32, z = nI (sgN gs t) → ∃ r, (if nI (tk V l) = z then (if tk V l = 2 then (if upd ma t z t = z then L_Mod_again_41 (nI fs.length) so v to fr ne n (nI (i + 1)) (upd ma t z) else L_Mod_again_41 (nI fs.length) so v to fr ne n (nI (i + 1)) (upd (upd ma t z) t (2 : Int32))) else L_Mod_again_41 (nI fs.length) so v to fr ne n (nI (i + 1)) (upd ma t z)) else (if tk V l = 2 then (if ma t = z then L_Mod_again_41 (nI fs.length) so v to fr ne n (nI (i + 1)) ma else L_Mod_again_41 (nI fs.length) so v to fr ne n (nI (i + 1)) (upd ma t (2 : Int32))) else L_Mod_again_41 (nI fs.length) so v to fr ne n (nI (i + 1)) ma)) = some r ∧ ∀ g, g < gs.length → r g = nI (mkG V (sgN gs g) (m0N gs g) (fOf fs g)) := by
      intro z hz
      subst hz
      rw [hmt]
      simp only [nI_eq (show tk V l < 2 ^ 31 by omega) (show sgN gs t < 2 ^ 31 by omega), nI_eq (show m < 2 ^ 31 by omega) (show sgN gs t < 2 ^ 31 by omega)]
      by_cases c1 : tk V l = sgN gs t
      · rw [if_pos c1, if_neg (by omega)]
        exact key _ (fun g _ hg => by rw [upd_eq, if_neg hg]) (by rw [upd_eq, if_pos rfl, mkS, if_pos c1])
      · rw [if_neg c1]
        by_cases c2 : tk V l = 2
        · rw [if_pos c2]
          by_cases c3 : m = sgN gs t
          · rw [if_pos c3]
            exact key _ (fun _ _ _ => rfl) (by rw [hmt, mkS, if_neg c1, if_neg (by omega)])
          · rw [if_neg c3]
            exact key _ (fun g _ hg => by rw [upd_eq, if_neg hg]) (by rw [upd_eq, if_pos rfl, mkS, if_neg c1, if_pos ⟨c2, c3⟩]; rfl)
        · rw [if_neg c2]
          exact key _ (fun _ _ _ => rfl) (by rw [hmt, mkS, if_neg c1, if_neg (by omega)])
    by_cases c : gs.getD t 9 = 2
    · rw [if_pos c] at est ⊢
      exact body _ est
    · rw [if_neg c] at est ⊢
      exact body _ est
theorem p_ag127 (hw : WF gs fs os) (hso : ∀ g, g < gs.length → so g = nI (gs.getD g 9)) {ma : Nat → Int32} (hma : ∀ g, g < gs.length → ma g = nI (mkG V (sgN gs g) (m0N gs g) (fOf fs g))) (hV : ∀ g, g < gs.length → V g ≤ 2) :
    ∀ (k n i : Nat) (x : Int32) (va : Nat → Int32), i + k = gs.length → k < n → (∀ g, g < i → va g = nI (agN gs fs V g)) → (∀ g, i ≤ g → g < gs.length → va g = nI (V g)) → ((x = 0 ∧ ∀ g, g < i → agN gs fs V g = V g) ∨ (x = 1 ∧ ∃ g, g < gs.length ∧ agN gs fs V g ≠ V g)) →
      ∃ r, L_Mod_again_127 (nI gs.length) so ma n x (nI i) va = some r ∧ (∀ g, g < gs.length → r.2 g = nI (agN gs fs V g)) ∧ ((r.1 = 0 ∧ ∀ g, g < gs.length → agN gs fs V g = V g) ∨ (r.1 = 1 ∧ ∃ g, g < gs.length ∧ agN gs fs V g ≠ V g)) := by
  have hG := hw.1
  intro k
  induction k with
  | zero =>
    intro n i x va h1 h2 ha hb hx
    obtain ⟨n, rfl⟩ : ∃ z, n = z + 1 := ⟨n - 1, by omega⟩
    rw [L_Mod_again_127, if_pos ((nI_leI (by omega) (by omega)).mpr (by omega))]
    have e : i = gs.length := by omega
    subst e
    exact ⟨_, rfl, ha, hx⟩
  | succ k ih =>
    intro n i x va h1 h2 ha hb hx
    obtain ⟨n, rfl⟩ : ∃ z, n = z + 1 := ⟨n - 1, by omega⟩
    have hi : i < gs.length := by omega
    have h3 := so_le hw hi
    have hvi := hb i (Nat.le_refl _) hi
    have hVi := hV i hi
    have hmi := hma i hi
    have hmle := mkG_le (V := V) (ls := fOf fs i) (sg_le (gs := gs) (g := i)) (m0_le (gs := gs) (g := i))
    have e2 : (nI (gs.getD i 9) < (2 : Int32)) ↔ gs.getD i 9 < 2 := by rw [i2]; exact nI_ltI (by omega) (by omega)
    -- nothing changes here
    have stay : agN gs fs V i = V i → ∃ r, (if x = (0 : Int32) then L_Mod_again_127 (nI gs.length) so ma n (0 : Int32) (nI (i + 1)) (upd va i (nI (V i))) else L_Mod_again_127 (nI gs.length) so ma n (1 : Int32) (nI (i + 1)) (upd va i (nI (V i)))) = some r ∧ (∀ g, g < gs.length → r.2 g = nI (agN gs fs V g)) ∧ ((r.1 = 0 ∧ ∀ g, g < gs.length → agN gs fs V g = V g) ∨ (r.1 = 1 ∧ ∃ g, g < gs.length ∧ agN gs fs V g ≠ V g)) := by
      intro e
      have f1 : ∀ g, g < i + 1 → upd va i (nI (V i)) g = nI (agN gs fs V g) := fun g hg => by
        rw [upd_eq]
        by_cases c : g = i
        · rw [if_pos c, c, e]
        · rw [if_neg c]; exact ha g (by omega)
      have f2 : ∀ g, i + 1 ≤ g → g < gs.length → upd va i (nI (V i)) g = nI (V g) := fun g hg hg2 => by
        rw [upd_eq, if_neg (by omega)]; exact hb g (by omega) hg2
      rcases hx with ⟨hx, hx2⟩ | ⟨hx, hx2⟩
      · rw [if_pos hx]
        refine ih n (i + 1) _ _ (by omega) (by omega) f1 f2 (Or.inl ⟨rfl, fun g hg => ?_⟩)
        by_cases c : g = i
        · rw [c, e]
        · exact hx2 g (by omega)
      · rw [if_neg (by rw [hx]; decide)]
        exact ih n (i + 1) _ _ (by omega) (by omega) f1 f2 (Or.inr ⟨rfl, hx2⟩)
    rw [L_Mod_again_127, if_neg (by rw [nI_leI (by omega) (by omega)]; omega)]
    simp only [sx_let, gd_nI (show i < 60 by omega) (show 60 < 2 ^ 31 by decide), nI_clamp (show i < 2 ^ 31 by omega), hso i hi, hvi, hmi, e2, q2 (show V i < 2 ^ 31 by omega), q2 (show mkG V (sgN gs i) (m0N gs i) (fOf fs i) < 2 ^ 31 by omega), nI_1]
    by_cases c1 : gs.getD i 9 < 2
    · rw [if_pos c1]
      simp only [if_true]
      exact stay (by rw [agN, if_neg (by omega)])
    · rw [if_neg c1]
      by_cases c2 : V i = 2
      · rw [if_pos c2]
        by_cases c3 : mkG V (sgN gs i) (m0N gs i) (fOf fs i) = 2
        · rw [if_pos c3]
          simp only [if_true]
          exact stay (by rw [agN, if_pos ⟨by omega, c2⟩, c3, c2])
        · rw [if_neg c3]
          have hne : agN gs fs V i ≠ V i := by rw [agN, if_pos ⟨by omega, c2⟩, c2]; exact c3
          have f1 : ∀ g, g < i + 1 → upd va i (nI (mkG V (sgN gs i) (m0N gs i) (fOf fs i))) g = nI (agN gs fs V g) := fun g hg => by
            rw [upd_eq]
            by_cases c : g = i
            · rw [if_pos c, c, agN, if_pos ⟨by omega, c2⟩]
            · rw [if_neg c]; exact ha g (by omega)
          have f2 : ∀ g, i + 1 ≤ g → g < gs.length → upd va i (nI (mkG V (sgN gs i) (m0N gs i) (fOf fs i))) g = nI (V g) := fun g hg hg2 => by
            rw [upd_eq, if_neg (by omega)]; exact hb g (by omega) hg2
          have := ih n (i + 1) 1 _ (by omega) (by omega) f1 f2 (Or.inr ⟨rfl, i, hi, hne⟩)
          simp only [if_neg (show ¬ (1 : Int32) = 0 by decide), ite_self]
          exact this
      · rw [if_neg c2]
        simp only [if_true]
        exact stay (by rw [agN, if_neg (by omega)])
/-- a turn of the reference -/
theorem p_again (hw : WF gs fs os) (hso : ∀ g, g < gs.length → so g = nI (gs.getD g 9)) (hfs : ∀ k, k < fs.length → to k = nI (fs.getD k (0, 0)).1 ∧ fr k = nI ((fs.getD k (0, 0)).2 / 2) ∧ ne k = nI ((fs.getD k (0, 0)).2 % 2)) (hv : ∀ g, g < gs.length → v g = nI (V g) ∧ V g ≤ 2) (ma : Nat → Int32) :
    ∃ r, m_Mod_again (nI gs.length) (nI fs.length) so v ma to fr ne = some r ∧ (∀ g, g < gs.length → r.2.1 g = nI (agN gs fs V g)) ∧ ((r.1 = 0 ∧ ∀ g, g < gs.length → agN gs fs V g = V g) ∨ (r.1 = 1 ∧ ∃ g, g < gs.length ∧ agN gs fs V g ≠ V g)) := by
  have hG := hw.1
  have hF : fs.length ≤ 240 := hw.2.2.2.2.1
  obtain ⟨r1, a1, a2, _⟩ := p_ag4 hw hso gs.length fu 0 ma (by omega) (by rw [fu]; omega)
  obtain ⟨r2, b1, b2⟩ := p_ag41 hw hso hfs hv fs.length fu 0 r1 (by omega) (by rw [fu]; omega) (fun g hg => by rw [a2 g (Nat.zero_le _) hg]; rfl)
  obtain ⟨r3, c1, c2, c3⟩ := p_ag127 hw hso b2 (fun g hg => (hv g hg).2) gs.length fu 0 0 v (by omega) (by rw [fu]; omega) (fun g hg => absurd hg (by omega)) (fun g _ hg => (hv g hg).1) (Or.inl ⟨rfl, fun g hg => absurd hg (by omega)⟩)
  have a1' : L_Mod_again_4 (nI gs.length) so fu (0 : Int32) ma = some r1 := a1
  have b1' : L_Mod_again_41 (nI fs.length) so v to fr ne fu (0 : Int32) r1 = some r2 := b1
  have c1' : L_Mod_again_127 (nI gs.length) so r2 fu (0 : Int32) (0 : Int32) v = some r3 := c1
  rw [m_Mod_again, a1', Option.bind_some, b1', Option.bind_some, c1', Option.bind_some]
  refine ⟨(r3.1, r3.2, r2), ?_, c2, c3⟩
  rcases c3 with ⟨z, _⟩ | ⟨z, _⟩
  · rw [z, gd_z0]
  · rw [z, gd_z1]
end REFA
