/-! THE REFERENCE'S VALUES: 0, 1, 2 for each gate -/
def tk (V : Nat → Nat) (l : Nat) : Nat := if V (l / 2) = 2 ∨ l % 2 = 0 then V (l / 2) else 1 - V (l / 2)
def mkS (V : Nat → Nat) (st m l : Nat) : Nat := if tk V l = st then st else if tk V l = 2 ∧ m ≠ st then 2 else m
def mkG (V : Nat → Nat) (st m : Nat) (ls : List Nat) : Nat := ls.foldl (mkS V st) m
theorem mkG_cases {V : Nat → Nat} {st : Nat} (hst : st ≤ 1) : ∀ (ls : List Nat) (m : Nat), (mkG V st m ls = st ∧ (m = st ∨ ∃ l, l ∈ ls ∧ tk V l = st)) ∨ (mkG V st m ls = 2 ∧ m ≠ st ∧ (m = 2 ∨ ∃ l, l ∈ ls ∧ tk V l = 2) ∧ ∀ l, l ∈ ls → tk V l ≠ st) ∨ (mkG V st m ls = m ∧ m ≠ st ∧ m ≠ 2 ∧ ∀ l, l ∈ ls → tk V l ≠ st ∧ tk V l ≠ 2)
  | [], m => by
    rw [mkG, List.foldl_nil]
    by_cases c : m = st
    · exact Or.inl ⟨c, Or.inl c⟩
    · by_cases d : m = 2
      · exact Or.inr (Or.inl ⟨d, c, Or.inl d, fun l hl => absurd hl (by simp)⟩)
      · exact Or.inr (Or.inr ⟨rfl, c, d, fun l hl => absurd hl (by simp)⟩)
  | l :: ls, m => by
    have ih := mkG_cases (V := V) hst ls (mkS V st m l)
    have e : mkG V st m (l :: ls) = mkG V st (mkS V st m l) ls := rfl
    rw [e]
    by_cases c1 : tk V l = st
    · have e2 : mkS V st m l = st := by rw [mkS, if_pos c1]
      rw [e2] at ih ⊢
      rcases ih with ⟨a, _⟩ | ⟨_, b, _⟩ | ⟨_, b, _⟩
      · exact Or.inl ⟨a, Or.inr ⟨l, List.mem_cons_self, c1⟩⟩
      · exact absurd rfl b
      · exact absurd rfl b
    · by_cases c2 : tk V l = 2 ∧ m ≠ st
      · have e2 : mkS V st m l = 2 := by rw [mkS, if_neg c1, if_pos c2]
        rw [e2] at ih ⊢
        rcases ih with ⟨a, b⟩ | ⟨a, b, _, d⟩ | ⟨_, _, b, _⟩
        · refine Or.inl ⟨a, Or.inr ?_⟩
          rcases b with b | ⟨x, hx, b⟩
          · omega
          · exact ⟨x, List.mem_cons_of_mem _ hx, b⟩
        · refine Or.inr (Or.inl ⟨a, c2.2, Or.inr ⟨l, List.mem_cons_self, c2.1⟩, fun x hx => ?_⟩)
          rcases List.mem_cons.mp hx with z | z
          · rw [z]; exact c1
          · exact d x z
        · exact absurd rfl b
      · have e2 : mkS V st m l = m := by rw [mkS, if_neg c1, if_neg c2]
        rw [e2] at ih ⊢
        rcases ih with ⟨a, b⟩ | ⟨a, b, b2, d⟩ | ⟨a, b, b2, d⟩
        · refine Or.inl ⟨a, ?_⟩
          rcases b with b | ⟨x, hx, b⟩
          · exact Or.inl b
          · exact Or.inr ⟨x, List.mem_cons_of_mem _ hx, b⟩
        · refine Or.inr (Or.inl ⟨a, b, ?_, fun x hx => ?_⟩)
          · rcases b2 with b2 | ⟨x, hx, b2⟩
            · exact Or.inl b2
            · exact Or.inr ⟨x, List.mem_cons_of_mem _ hx, b2⟩
          · rcases List.mem_cons.mp hx with z | z
            · rw [z]; exact c1
            · exact d x z
        · refine Or.inr (Or.inr ⟨a, b, b2, fun x hx => ?_⟩)
          rcases List.mem_cons.mp hx with z | z
          · rw [z]; exact ⟨c1, fun q => c2 ⟨q, b⟩⟩
          · exact d x z
def sgN (gs : List Nat) (g : Nat) : Nat := if gs.getD g 9 = 2 then 0 else 1
def m0N (gs : List Nat) (g : Nat) : Nat := if gs.getD g 9 = 2 then 1 else 0
/-- what a gate is after one turn more -/
def agN (gs : List Nat) (fs : List (Nat × Nat)) (V : Nat → Nat) (g : Nat) : Nat := if 2 ≤ gs.getD g 9 ∧ V g = 2 then mkG V (sgN gs g) (m0N gs g) (fOf fs g) else V g
section REFV
variable {gs : List Nat} {fs : List (Nat × Nat)} {os : List Nat} {bv : Nat → Bool} {V : Nat → Nat}
def SV (gs : List Nat) (fs : List (Nat × Nat)) (bv : Nat → Bool) (V : Nat → Nat) : Prop := ∀ g, g < gs.length → V g ≤ 2 ∧ (V g = 1 → Dv gs fs bv (2 * g)) ∧ (V g = 0 → Dv gs fs bv (2 * g + 1)) ∧ (gs.getD g 9 ≤ 1 → V g = if bv g = true then 1 else 0)
theorem tk_Dv (h : SV gs fs bv V) {l : Nat} (hl : l < 2 * gs.length) : tk V l ≤ 2 ∧ (tk V l = 1 → Dv gs fs bv l) ∧ (tk V l = 0 → Dv gs fs bv (l ^^^ 1)) := by
  obtain ⟨a, b, c, _⟩ := h (l / 2) (by omega)
  have x := xo l
  rw [tk]
  rcases Nat.mod_two_eq_zero_or_one l with z | z
  · have e1 : 2 * (l / 2) = l := by omega
    have e2 : l ^^^ 1 = l + 1 := by omega
    rw [e1] at b c
    rw [if_pos (Or.inr z), e2]
    exact ⟨a, b, c⟩
  · have e1 : 2 * (l / 2) + 1 = l := by omega
    have e2 : l ^^^ 1 = 2 * (l / 2) := by omega
    rw [e1] at c
    rw [e2]
    split
    · rename_i q
      exact ⟨a, fun w => absurd w (by omega), fun w => absurd w (by omega)⟩
    · rename_i q
      exact ⟨by omega, fun w => c (by omega), fun w => b (by omega)⟩
theorem fOf_lt (hw : WF gs fs os) {g l : Nat} (h : l ∈ fOf fs g) : l < 2 * gs.length := (hw.2.2.2.2.2.1 _ (fOf_mem h)).2.1
theorem so_le (hw : WF gs fs os) {g : Nat} (hg : g < gs.length) : gs.getD g 9 ≤ 3 := hw.2.2.2.1 _ (getD_mem hg)
/-- the turn's answer, of an and or an or -/
theorem mk_Dv (hw : WF gs fs os) (h : SV gs fs bv V) {g : Nat} (hg : g < gs.length) (h2 : 2 ≤ gs.getD g 9) : mkG V (sgN gs g) (m0N gs g) (fOf fs g) ≤ 2 ∧ (mkG V (sgN gs g) (m0N gs g) (fOf fs g) = 1 → Dv gs fs bv (2 * g)) ∧ (mkG V (sgN gs g) (m0N gs g) (fOf fs g) = 0 → Dv gs fs bv (2 * g + 1)) := by
  have h3 := so_le hw hg
  have x0 := xo (2 * g + 0)
  have x1 := xo (2 * g + 1)
  have y0 : (2 * g + 0) ^^^ 1 = 2 * g + 1 := by omega
  have y1 : (2 * g + 1) ^^^ 1 = 2 * g := by omega
  rcases (by omega : gs.getD g 9 = 2 ∨ gs.getD g 9 = 3) with c | c
  · rw [sgN, m0N, if_pos c, if_pos c]
    rcases mkG_cases (V := V) (st := 0) (by decide) (fOf fs g) 1 with ⟨a, b⟩ | ⟨a, _⟩ | ⟨a, _, _, b⟩
    · rw [a]
      refine ⟨by decide, fun q => absurd q (by decide), fun _ => ?_⟩
      rcases b with b | ⟨l, hl, b⟩
      · exact absurd b (by decide)
      · have := Dv_one (bv := bv) g 0 l hg (by decide) (by omega) hl (by rw [Nat.xor_zero]; exact (tk_Dv h (fOf_lt hw hl)).2.2 b)
        rw [y0] at this; exact this
    · rw [a]; exact ⟨by decide, fun q => absurd q (by decide), fun q => absurd q (by decide)⟩
    · rw [a]
      refine ⟨by decide, fun _ => ?_, fun q => absurd q (by decide)⟩
      refine Dv_all (bv := bv) g 0 hg (by decide) (by omega) (fun l hl => ?_)
      obtain ⟨t1, t2, _⟩ := tk_Dv h (fOf_lt hw hl)
      have := b l hl
      rw [Nat.xor_zero]
      exact t2 (by omega)
  · rw [sgN, m0N, if_neg (by omega), if_neg (by omega)]
    rcases mkG_cases (V := V) (st := 1) (by decide) (fOf fs g) 0 with ⟨a, b⟩ | ⟨a, _⟩ | ⟨a, _, _, b⟩
    · rw [a]
      refine ⟨by decide, fun _ => ?_, fun q => absurd q (by decide)⟩
      rcases b with b | ⟨l, hl, b⟩
      · exact absurd b (by decide)
      · have := Dv_one (bv := bv) g 1 l hg (by decide) (by omega) hl (by rw [xx]; exact (tk_Dv h (fOf_lt hw hl)).2.1 b)
        rw [y1] at this; exact this
    · rw [a]; exact ⟨by decide, fun q => absurd q (by decide), fun q => absurd q (by decide)⟩
    · rw [a]
      refine ⟨by decide, fun q => absurd q (by decide), fun _ => ?_⟩
      refine Dv_all (bv := bv) g 1 hg (by decide) (by omega) (fun l hl => ?_)
      obtain ⟨t1, _, t2⟩ := tk_Dv h (fOf_lt hw hl)
      have := b l hl
      exact t2 (by omega)
theorem SV_ag (hw : WF gs fs os) (h : SV gs fs bv V) : SV gs fs bv (agN gs fs V) := by
  intro g hg
  obtain ⟨a, b, c, d⟩ := h g hg
  rw [agN]
  split
  · rename_i e
    obtain ⟨m1, m2, m3⟩ := mk_Dv hw h hg e.1
    exact ⟨m1, m2, m3, fun q => absurd q (by omega)⟩
  · exact ⟨a, b, c, d⟩
/-- where a turn changes nothing, all that can be known is known -/
theorem SV_fix (hw : WF gs fs os) (h : SV gs fs bv V) (hf : ∀ g, g < gs.length → agN gs fs V g = V g) {l : Nat} (hd : Dv gs fs bv l) : tk V l = 1 := by
  have key : ∀ l, Dv gs fs bv l → V (l / 2) ≠ 2 → tk V l = 1 := by
    intro l hd hv
    have hlt := Dv_lt hd
    obtain ⟨t1, t2, t3⟩ := tk_Dv h hlt
    have : tk V l ≠ 2 := by
      rw [tk]
      have := (h (l / 2) (by omega)).1
      split <;> omega
    have : tk V l ≠ 0 := fun q => Dv_cons hd (t3 q) rfl
    omega
  have tk1 : ∀ l, tk V (l ^^^ 1) = 1 → tk V l ≤ 2 → tk V l = 0 := by
    intro l h1 h2
    have x := xo l
    rw [tk] at h1 h2 ⊢
    rw [x.1] at h1
    revert h1 h2
    split <;> split <;> omega
  refine Dv_rec (P := fun l => tk V l = 1) ?_ ?_ ?_ hd
  · intro g hg hs
    refine key _ (Dv_base g hg hs) ?_
    have e : (2 * g + if bv g = true then 0 else 1) / 2 = g := by split <;> omega
    rw [e, (h g hg).2.2.2 hs]
    split <;> decide
  · intro g fl hg hfl hs ha ih
    refine key _ (Dv_all g fl hg hfl hs ha) ?_
    have e : (2 * g + fl) / 2 = g := by omega
    rw [e]
    intro q
    have hq := hf g hg
    rw [agN, if_pos ⟨by omega, q⟩, q, sgN, m0N] at hq
    rcases (by omega : fl = 0 ∨ fl = 1) with c | c
    · subst c
      rw [if_pos hs, if_pos hs] at hq
      rcases mkG_cases (V := V) (st := 0) (by decide) (fOf fs g) 1 with ⟨a, _⟩ | ⟨_, _, b, _⟩ | ⟨a, _⟩
      · omega
      · rcases b with b | ⟨l, hl, b⟩
        · exact absurd b (by decide)
        · have := ih l hl; rw [Nat.xor_zero] at this; omega
      · omega
    · subst c
      rw [if_neg (by omega), if_neg (by omega)] at hq
      rcases mkG_cases (V := V) (st := 1) (by decide) (fOf fs g) 0 with ⟨a, _⟩ | ⟨_, _, b, _⟩ | ⟨a, _⟩
      · omega
      · rcases b with b | ⟨l, hl, b⟩
        · exact absurd b (by decide)
        · have := tk1 l (ih l hl) (by omega); omega
      · omega
  · intro g fl l hg hfl hs hl hd2 ih
    refine key _ (Dv_one g fl l hg hfl hs hl hd2) ?_
    have e : ((2 * g + fl) ^^^ 1) / 2 = g := by have := xo (2 * g + fl); omega
    rw [e]
    intro q
    have hq := hf g hg
    rw [agN, if_pos ⟨by omega, q⟩, q, sgN, m0N] at hq
    rcases (by omega : fl = 0 ∨ fl = 1) with c | c
    · subst c
      rw [if_pos hs, if_pos hs] at hq
      have t0 := tk1 l (by rw [Nat.xor_zero] at ih; exact ih) (tk_Dv h (fOf_lt hw hl)).1
      rcases mkG_cases (V := V) (st := 0) (by decide) (fOf fs g) 1 with ⟨a, _⟩ | ⟨_, _, _, b⟩ | ⟨a, _⟩
      · omega
      · exact b l hl t0
      · omega
    · subst c
      rw [if_neg (by omega), if_neg (by omega)] at hq
      rw [xx] at ih
      rcases mkG_cases (V := V) (st := 1) (by decide) (fOf fs g) 0 with ⟨a, _⟩ | ⟨_, _, _, b⟩ | ⟨a, _⟩
      · omega
      · exact b l hl ih
      · omega
theorem SV_is (hw : WF gs fs os) (h : SV gs fs bv V) (hf : ∀ g, g < gs.length → agN gs fs V g = V g) {g : Nat} (hg : g < gs.length) : (V g = 1 ↔ Dv gs fs bv (2 * g)) ∧ (V g = 0 ↔ Dv gs fs bv (2 * g + 1)) ∧ (V g = 2 ↔ ¬ (Dv gs fs bv (2 * g) ∨ Dv gs fs bv (2 * g + 1))) := by
  obtain ⟨a, b, c, _⟩ := h g hg
  have e1 : (2 * g) / 2 = g := by omega
  have e2 : (2 * g + 1) / 2 = g := by omega
  have d1 : Dv gs fs bv (2 * g) → V g = 1 := fun q => by
    have := SV_fix hw h hf q
    rw [tk, if_pos (by omega), e1] at this; exact this
  have d2 : Dv gs fs bv (2 * g + 1) → V g = 0 := fun q => by
    have := SV_fix hw h hf q
    rw [tk, e2] at this
    revert this; split <;> omega
  refine ⟨⟨b, d1⟩, ⟨c, d2⟩, fun q w => ?_, fun q => ?_⟩
  · rcases w with w | w
    · have := d1 w; omega
    · have := d2 w; omega
  · rcases (by omega : V g = 0 ∨ V g = 1 ∨ V g = 2) with z | z | z
    · exact absurd (Or.inr (c z)) q
    · exact absurd (Or.inl (b z)) q
    · exact z
/-- the unknown gates get fewer -/
def unN (gs : List Nat) (V : Nat → Nat) : Nat := (List.range' 0 gs.length).countP (fun g => decide (V g = 2))
theorem unN_ag (hn : ¬ ∀ g, g < gs.length → agN gs fs V g = V g) : unN gs (agN gs fs V) < unN gs V := by
  obtain ⟨g, hg, hne⟩ : ∃ g, g < gs.length ∧ agN gs fs V g ≠ V g := Classical.byContradiction fun q => hn fun g hg => Classical.byContradiction fun w => q ⟨g, hg, w⟩
  refine cnt_lt (fun x _ hx => ?_) ⟨g, List.mem_range'_1.mpr ⟨by omega, by omega⟩, ?_, ?_⟩
  · have h1 : agN gs fs V x = 2 := of_decide_eq_true hx
    rw [agN] at h1
    split at h1
    · rename_i q; exact decide_eq_true q.2
    · exact decide_eq_true h1
  · rw [agN] at hne ⊢
    split at hne
    · rename_i q
      rw [if_pos q]
      rw [q.2] at hne
      exact decide_eq_false hne
    · exact absurd rfl hne
  · rw [agN] at hne
    split at hne
    · rename_i q; exact decide_eq_true q.2
    · exact absurd rfl hne
end REFV
