/-! the class's words, pair by pair -/
def kb (kn : Nat → Int64) (b : Nat) : Nat → Bool := fun l => bL (kn l) b
theorem bL_and {x y : Int64} {b : Nat} : bL (x &&& y) b = (bL x b && bL y b) := by rw [bL, Int64.toBitVec_and, BitVec.getLsbD_and]; rfl
theorem bL_or {x y : Int64} {b : Nat} : bL (x ||| y) b = (bL x b || bL y b) := by rw [bL, Int64.toBitVec_or, BitVec.getLsbD_or]; rfl
theorem andW_bit {kn : Nat → Int64} {fl b : Nat} : ∀ (ls : List Nat) (a : Int64), bL (andW kn fl ls a) b = (bL a b && ls.all (fun l => kb kn b (l ^^^ fl)))
  | [], a => by simp [andW]
  | l :: ls, a => by
    have := andW_bit (kn := kn) (fl := fl) (b := b) ls (a &&& kn (l ^^^ fl))
    rw [andW] at this ⊢
    rw [List.foldl_cons, this, bL_and, List.all_cons, Bool.and_assoc]
    rfl
theorem orW_bit {kn : Nat → Int64} {fl b : Nat} : ∀ (ls : List Nat) (a : Int64), bL (orW kn fl ls a) b = (bL a b || ls.any (fun l => kb kn b (l ^^^ fl ^^^ 1)))
  | [], a => by simp [orW]
  | l :: ls, a => by
    have := orW_bit (kn := kn) (fl := fl) (b := b) ls (a ||| kn (l ^^^ fl ^^^ 1))
    rw [orW] at this ⊢
    rw [List.foldl_cons, this, bL_or, List.any_cons, Bool.or_assoc]
    rfl
section KB
variable {gs : List Nat} {fs : List (Nat × Nat)} {os : List Nat}
theorem stepW_op {s : Int32 × (Nat → Int64)} {g fl : Nat} (hf : fl < 2) (hs : gs.getD g 9 = 2 + fl) : stepW gs fs s g = (if s.2 (2 * g + fl) = andW s.2 fl (fOf fs g) (-1) ∧ s.2 ((2 * g + fl) ^^^ 1) = orW s.2 fl (fOf fs g) 0 then s.1 else 1, vp_updL (vp_updL s.2 (2 * g + fl) (andW s.2 fl (fOf fs g) (-1))) ((2 * g + fl) ^^^ 1) (orW s.2 fl (fOf fs g) 0)) := by
  rw [stepW]
  rcases (by omega : fl = 0 ∨ fl = 1) with c | c
  · subst c; rw [if_pos hs]
  · subst c; rw [if_neg (by omega), if_pos hs]
theorem stepW_no {s : Int32 × (Nat → Int64)} {g : Nat} (h : ¬ (gs.getD g 9 = 2 ∨ gs.getD g 9 = 3)) : stepW gs fs s g = s := by
  rw [stepW, if_neg (fun q => h (Or.inl q)), if_neg (fun q => h (Or.inr q))]
theorem stepW_kb {s : Int32 × (Nat → Int64)} {g b : Nat} (hb : b < 64) : kb (stepW gs fs s g).2 b = stB gs fs (kb s.2 b) g := by
  by_cases c : gs.getD g 9 = 2 ∨ gs.getD g 9 = 3
  · obtain ⟨fl, hf, hs⟩ : ∃ fl, fl < 2 ∧ gs.getD g 9 = 2 + fl := ⟨gs.getD g 9 - 2, by omega, by omega⟩
    funext j
    rw [stB_op hf hs, stepW_op hf hs, kb]
    dsimp only
    rw [updL_eq, updL_eq]
    split
    · rw [orW_bit, bL_0, Bool.false_or]
    · split
      · rw [andW_bit, bL_m1 hb, Bool.true_and]
      · rfl
  · rw [stepW_no c, stB, if_neg c]
theorem foldW_kb {b : Nat} (hb : b < 64) : ∀ (l : List Nat) (s : Int32 × (Nat → Int64)), kb (l.foldl (stepW gs fs) s).2 b = l.foldl (stB gs fs) (kb s.2 b)
  | [], _ => rfl
  | g :: l, s => by rw [List.foldl_cons, List.foldl_cons, foldW_kb hb l, stepW_kb hb]
theorem stepW_same {s : Int32 × (Nat → Int64)} {g : Nat} (h : (stepW gs fs s g).1 = 0) : s.1 = 0 ∧ (stepW gs fs s g).2 = s.2 := by
  by_cases c : gs.getD g 9 = 2 ∨ gs.getD g 9 = 3
  · obtain ⟨fl, hf, hs⟩ : ∃ fl, fl < 2 ∧ gs.getD g 9 = 2 + fl := ⟨gs.getD g 9 - 2, by omega, by omega⟩
    rw [stepW_op hf hs] at h ⊢
    dsimp only at h ⊢
    split at h
    · rename_i e
      refine ⟨h, ?_⟩
      funext j
      rw [updL_eq, updL_eq]
      split
      · rename_i e2; rw [e2, e.2]
      · split
        · rename_i e2; rw [e2, e.1]
        · rfl
    · exact absurd h (by decide)
  · rw [stepW_no c] at h ⊢
    exact ⟨h, rfl⟩
theorem foldW_same : ∀ (l : List Nat) (s : Int32 × (Nat → Int64)), (l.foldl (stepW gs fs) s).1 = 0 → s.1 = 0 ∧ (l.foldl (stepW gs fs) s).2 = s.2
  | [], s, h => ⟨h, rfl⟩
  | g :: l, s, h => by
    rw [List.foldl_cons] at h ⊢
    obtain ⟨a, b⟩ := foldW_same l _ h
    obtain ⟨c, d⟩ := stepW_same a
    exact ⟨c, b.trans d⟩
theorem sweepW_kb {kn : Nat → Int64} {b : Nat} (hb : b < 64) : kb (sweepW gs fs (0, kn)).2 b = swB gs fs (kb kn b) := foldW_kb hb _ _
theorem settle_fix {b : Nat} (hb : b < 64) : ∀ (n : Nat) (kn : Nat → Int64), swB gs fs (kb kn b) = kb kn b → kb (settleW gs fs n kn) b = kb kn b
  | 0, _, _ => rfl
  | n + 1, kn, h => by
    have e := sweepW_kb (gs := gs) (fs := fs) (kn := kn) hb
    rw [h] at e
    rw [settleW]
    split
    · exact e
    · rw [settle_fix hb n _ (by rw [e]; exact h), e]
theorem settle_SB {bv : Nat → Bool} {b : Nat} (hb : b < 64) : ∀ (n : Nat) (kn : Nat → Int64), SB gs fs bv (kb kn b) → SB gs fs bv (kb (settleW gs fs n kn) b) ∧ ((∀ g, g < gs.length → stB gs fs (kb (settleW gs fs n kn) b) g = kb (settleW gs fs n kn) b) ∨ cnB gs.length (kb kn b) + n ≤ cnB gs.length (kb (settleW gs fs n kn) b))
  | 0, kn, h => by rw [settleW]; exact ⟨h, Or.inr (by omega)⟩
  | n + 1, kn, h => by
    have e := sweepW_kb (gs := gs) (fs := fs) (kn := kn) hb
    obtain ⟨a1, a2, a3⟩ := SB_sw h
    rw [settleW]
    split
    · rename_i z
      have e2 := (foldW_same _ _ z).2
      have e3 : (sweepW gs fs (0, kn)).2 = kn := e2
      rw [e3] at e ⊢
      exact ⟨h, Or.inl (a3 e.symm)⟩
    · by_cases c : swB gs fs (kb kn b) = kb kn b
      · rw [settle_fix hb n _ (by rw [e, c]; exact c), e, c]
        exact ⟨h, Or.inl (a3 c)⟩
      · have hup := cnB_up a1 a2 c
        obtain ⟨b1, b2⟩ := settle_SB hb n (sweepW gs fs (0, kn)).2 (by rw [e]; exact a1)
        refine ⟨b1, ?_⟩
        rcases b2 with b2 | b2
        · exact Or.inl b2
        · rw [e] at b2
          exact Or.inr (by omega)
/-- what a gate begins with -/
def bgV (gs : List Nat) (w g : Nat) : Int64 × Int64 := if gs.getD g 9 = 0 then (sx_IW (rk gs g), sx_IW (rk gs g) ^^^ (-1)) else if gs.getD g 9 = 1 then (LBw (rk gs g) w, LBw (rk gs g) w ^^^ (-1)) else (0, 0)
theorem begW_eq {w g : Nat} {kn : Nat → Int64} : begW gs w kn g = vp_updL (vp_updL kn (2 * g) (bgV gs w g).1) (2 * g + 1) (bgV gs w g).2 := by
  rw [begW, bgV]
  split
  · rfl
  · split <;> rfl
theorem beg_at (w : Nat) : ∀ (k i : Nat) (kn : Nat → Int64), (∀ g, i ≤ g → g < i + k → ((List.range' i k).foldl (begW gs w) kn) (2 * g) = (bgV gs w g).1 ∧ ((List.range' i k).foldl (begW gs w) kn) (2 * g + 1) = (bgV gs w g).2) ∧ (∀ j, (j / 2 < i ∨ i + k ≤ j / 2) → ((List.range' i k).foldl (begW gs w) kn) j = kn j)
  | 0, _, _ => ⟨fun g h1 h2 => absurd h2 (by omega), fun _ _ => rfl⟩
  | k + 1, i, kn => by
    rw [List.range'_succ, List.foldl_cons]
    obtain ⟨h1, h2⟩ := beg_at w k (i + 1) (begW gs w kn i)
    refine ⟨fun g g1 g2 => ?_, fun j hj => ?_⟩
    · rcases Nat.lt_or_ge i g with c | c
      · exact h1 g (by omega) (by omega)
      · have : g = i := by omega
        subst this
        rw [h2 _ (by omega), h2 _ (by omega), begW_eq, updL_eq, updL_eq, updL_eq, if_neg (by omega), if_pos rfl, if_pos rfl]
        exact ⟨rfl, rfl⟩
    · rw [h2 j (by omega), begW_eq, updL_eq, updL_eq, if_neg (by omega), if_neg (by omega)]
theorem IW_bit {r b : Nat} (hr : r < 4) (hb : b < 64) : bL (sx_IW r) b = (b % 16).testBit r := by
  have key : ∀ r : Fin 4, ∀ b : Fin 64, bL (sx_IW r.val) b.val = (b.val % 16).testBit r.val := by decide +kernel
  exact key ⟨r, hr⟩ ⟨b, hb⟩
theorem LB_bit {r w b : Nat} (hr : r < 8) (hw : w < 64) (hb : b < 64) : bL (LBw r w) b = (4 * w + b / 16).testBit r := by
  have k1 : ∀ r : Fin 2, ∀ b : Fin 64, bL (sx_LW r.val) b.val = (b.val / 16).testBit r.val := by decide +kernel
  rw [LBw]
  by_cases c : 2 ≤ r
  · rw [if_pos c]
    have e : (4 * w + b / 16) / 2 ^ r = w / 2 ^ (r - 2) := by
      have : 2 ^ r = 4 * 2 ^ (r - 2) := by
        have : r = 2 + (r - 2) := by omega
        conv => lhs; rw [this, Nat.pow_add]
      rw [this, ← Nat.div_div_eq_div_mul]
      congr 1
      omega
    rw [Nat.testBit_eq_decide_div_mod_eq, e]
    split
    · rename_i z; rw [bL_m1 hb, z]; rfl
    · rename_i z; rw [bL_0]; simp [z]
  · rw [if_neg c, k1 ⟨r, by omega⟩ ⟨b, hb⟩]
    rw [Nat.testBit_eq_decide_div_mod_eq, Nat.testBit_eq_decide_div_mod_eq]
    congr 2
    dsimp only
    rcases (by omega : r = 0 ∨ r = 1) with z | z <;> subst z <;> simp <;> omega
/-- the values of inputs and latches with a state and a choice -/
def bvS (gs : List Nat) (s c g : Nat) : Bool := if gs.getD g 9 = 0 then c.testBit (rk gs g) else s.testBit (rk gs g)
theorem bg_bit (hw : WF gs fs os) {w b g : Nat} (hw64 : w < 64) (hb : b < 64) (hg : g < gs.length) : (gs.getD g 9 ≤ 1 → bL (bgV gs w g).1 b = bvS gs (4 * w + b / 16) (b % 16) g ∧ bL (bgV gs w g).2 b = !(bvS gs (4 * w + b / 16) (b % 16) g)) ∧ (¬ gs.getD g 9 ≤ 1 → bL (bgV gs w g).1 b = false ∧ bL (bgV gs w g).2 b = false) := by
  have hr := rk_lt hg
  rw [bgV, bvS]
  constructor
  · intro h
    rcases (by omega : gs.getD g 9 = 0 ∨ gs.getD g 9 = 1) with c | c
    · rw [c] at hr
      have := hw.2.1
      rw [if_pos c, if_pos c]
      dsimp only
      rw [bL_xor, bL_m1 hb, IW_bit (by omega) hb]
      exact ⟨rfl, by simp⟩
    · rw [c] at hr
      have := hw.2.2.1
      rw [if_neg (by omega), if_pos c, if_neg (by omega)]
      dsimp only
      rw [bL_xor, bL_m1 hb, LB_bit (by omega) hw64 hb]
      exact ⟨rfl, by simp⟩
  · intro h
    rw [if_neg (by omega), if_neg (by omega)]
    exact ⟨bL_0, bL_0⟩
theorem beg_SB (hw : WF gs fs os) {w b : Nat} (hw64 : w < 64) (hb : b < 64) : SB gs fs (bvS gs (4 * w + b / 16) (b % 16)) (kb ((List.range' 0 gs.length).foldl (begW gs w) (fun _ => 0)) b) := by
  obtain ⟨h1, h2⟩ := beg_at (gs := gs) w gs.length 0 (fun _ => 0)
  rw [Nat.zero_add] at h1 h2
  generalize (List.range' 0 gs.length).foldl (begW gs w) (fun _ => 0) = B at h1 h2
  have e0 : ∀ g, g < gs.length → kb B b (2 * g) = bL (bgV gs w g).1 b ∧ kb B b (2 * g + 1) = bL (bgV gs w g).2 b := fun g hg => by
    obtain ⟨a, c⟩ := h1 g (by omega) hg
    rw [kb, kb, a, c]; exact ⟨rfl, rfl⟩
  have hop : ∀ g, g < gs.length → ¬ gs.getD g 9 ≤ 1 → kb B b (2 * g) = false ∧ kb B b (2 * g + 1) = false := fun g hg h => by
    obtain ⟨a, c⟩ := (bg_bit hw hw64 hb hg).2 h
    rw [(e0 g hg).1, (e0 g hg).2, a, c]; exact ⟨rfl, rfl⟩
  have hbs : ∀ g, g < gs.length → gs.getD g 9 ≤ 1 → kb B b (2 * g) = bvS gs (4 * w + b / 16) (b % 16) g ∧ kb B b (2 * g + 1) = !(bvS gs (4 * w + b / 16) (b % 16) g) := fun g hg h => by
    obtain ⟨a, c⟩ := (bg_bit hw hw64 hb hg).1 h
    rw [(e0 g hg).1, (e0 g hg).2, a, c]; exact ⟨rfl, rfl⟩
  refine ⟨fun l hl => ?_, fun g fl hg hf hs => ?_, fun g hg hs => ?_⟩
  · by_cases c : l / 2 < gs.length
    · by_cases d : gs.getD (l / 2) 9 ≤ 1
      · have hbd := Dv_base (fs := fs) (bv := bvS gs (4 * w + b / 16) (b % 16)) (l / 2) c d
        obtain ⟨a1, a2⟩ := hbs _ c d
        rcases Nat.mod_two_eq_zero_or_one l with z | z
        · have e1 : 2 * (l / 2) = l := by omega
          rw [e1, hl] at a1
          rw [← a1, if_pos rfl, e1] at hbd
          exact hbd
        · have e1 : 2 * (l / 2) + 1 = l := by omega
          rw [e1, hl] at a2
          have a3 : bvS gs (4 * w + b / 16) (b % 16) (l / 2) = false := by
            cases q : bvS gs (4 * w + b / 16) (b % 16) (l / 2) with
            | false => rfl
            | true => rw [q] at a2; exact absurd a2 (by simp)
          rw [a3, if_neg (by simp), e1] at hbd
          exact hbd
      · obtain ⟨a1, a2⟩ := hop _ c d
        rcases Nat.mod_two_eq_zero_or_one l with z | z
        · have e1 : 2 * (l / 2) = l := by omega
          rw [e1, hl] at a1; exact absurd a1 (by simp)
        · have e1 : 2 * (l / 2) + 1 = l := by omega
          rw [e1, hl] at a2; exact absurd a2 (by simp)
    · rw [kb, h2 l (by omega), bL_0] at hl
      exact absurd hl (by simp)
  · obtain ⟨a1, a2⟩ := hop g hg (by omega)
    have x := xo (2 * g + fl)
    rcases (by omega : fl = 0 ∨ fl = 1) with c | c
    · subst c
      have e1 : (2 * g + 0) ^^^ 1 = 2 * g + 1 := by omega
      rw [e1, Nat.add_zero, a1, a2]
      exact ⟨fun h => absurd h (by simp), fun h => absurd h (by simp)⟩
    · subst c
      have e1 : (2 * g + 1) ^^^ 1 = 2 * g := by omega
      rw [e1, a1, a2]
      exact ⟨fun h => absurd h (by simp), fun h => absurd h (by simp)⟩
  · obtain ⟨a1, a2⟩ := hbs g hg hs
    split
    · rename_i z; rw [Nat.add_zero, a1, z]
    · rename_i z; rw [a2]; simpa using z
theorem KN_bit (hw : WF gs fs os) {w b : Nat} (hw64 : w < 64) (hb : b < 64) (l : Nat) : bL (KN gs fs w l) b = true ↔ Dv gs fs (bvS gs (4 * w + b / 16) (b % 16)) l := by
  obtain ⟨h1, h2⟩ := settle_SB hb gs.length _ (beg_SB (fs := fs) hw hw64 hb)
  show kb (KN gs fs w) b l = true ↔ _
  rw [KN]
  refine ⟨fun h => h1.1 l h, fun h => ?_⟩
  rcases h2 with h2 | h2
  · exact SB_fix h1 h2 h
  · exact SB_full h1 (by omega) h
/-- a literal is known, with a state and a choice -/
theorem KN_at (hw : WF gs fs os) {s c : Nat} (hs : s < 256) (hc : c < 16) (l : Nat) : bL (KN gs fs (s / 4) l) (s % 4 * 16 + c) = true ↔ Dv gs fs (bvS gs s c) l := by
  rw [KN_bit hw (by omega) (by omega)]
  have e1 : 4 * (s / 4) + (s % 4 * 16 + c) / 16 = s := by omega
  have e2 : (s % 4 * 16 + c) % 16 = c := by omega
  rw [e1, e2]
theorem SEof_bit {kn : Nat → Int64} {b : Nat} (hb : b < 64) : ∀ (l : List Nat) (a : Int64), bL (l.foldl (fun a g => a &&& (kn (2 * g) ||| kn (2 * g + 1))) a) b = (bL a b && l.all (fun g => bL (kn (2 * g)) b || bL (kn (2 * g + 1)) b))
  | [], a => by simp
  | g :: l, a => by rw [List.foldl_cons, SEof_bit hb l, bL_and, bL_or, List.all_cons, Bool.and_assoc]
theorem SE_at (hw : WF gs fs os) {s c : Nat} (hs : s < 256) (hc : c < 16) : bL (SE gs fs (s / 4)) (s % 4 * 16 + c) = true ↔ ∀ g, g < gs.length → Dv gs fs (bvS gs s c) (2 * g) ∨ Dv gs fs (bvS gs s c) (2 * g + 1) := by
  rw [SE, SEof, SEof_bit (by omega), bL_m1 (by omega), Bool.true_and, List.all_eq_true]
  constructor
  · intro h g hg
    have := h g (List.mem_range'_1.mpr ⟨by omega, by omega⟩)
    rw [Bool.or_eq_true_iff, KN_at hw hs hc, KN_at hw hs hc] at this
    exact this
  · intro h g hg
    have hg2 := List.mem_range'_1.mp hg
    rw [Bool.or_eq_true_iff, KN_at hw hs hc, KN_at hw hs hc]
    exact h g (by omega)
theorem Dv_congr {bv bw : Nat → Bool} (h : ∀ g, g < gs.length → gs.getD g 9 ≤ 1 → bv g = bw g) {l : Nat} (hd : Dv gs fs bv l) : Dv gs fs bw l := by
  refine Dv_rec (P := fun l => Dv gs fs bw l) ?_ ?_ ?_ hd
  · intro g hg hs; rw [h g hg hs]; exact Dv_base g hg hs
  · intro g fl hg hf hs _ ih; exact Dv_all g fl hg hf hs ih
  · intro g fl l hg hf hs hl _ ih; exact Dv_one g fl l hg hf hs hl ih
/-- choices beyond the inputs are copies -/
theorem bvS_mod {s c g : Nat} (hg : g < gs.length) : bvS gs s c g = bvS gs s (c % 2 ^ gs.count 0) g := by
  rw [bvS, bvS]
  split
  · rename_i h
    have := rk_lt hg
    rw [h] at this
    rw [Nat.testBit_mod_two_pow]
    simp [this]
  · rfl
theorem Dv_mod {s c l : Nat} : Dv gs fs (bvS gs s c) l ↔ Dv gs fs (bvS gs s (c % 2 ^ gs.count 0)) l :=
  ⟨Dv_congr fun _ hg _ => bvS_mod hg, Dv_congr fun _ hg _ => (bvS_mod hg).symm⟩
end KB
