/-! what lies beyond the net's literals doesn't matter -/
def agr (n : Nat) (a b : Nat → Int64) : Prop := ∀ l, l < n → a l = b l
theorem agr_rf {n : Nat} {a : Nat → Int64} : agr n a a := fun _ _ => rfl
theorem agr_up {n k : Nat} {a b : Nat → Int64} {x : Int64} (h : agr n a b) : agr n (vp_updL a k x) (vp_updL b k x) := by
  intro l hl
  rw [updL_eq, updL_eq]
  split
  · rfl
  · exact h l hl
theorem andW_agr {G fl : Nat} {a b : Nat → Int64} (h : agr (2 * G) a b) (hG : G ≤ 60) (hfl : fl < 2) : ∀ (ls : List Nat) (x : Int64), (∀ l ∈ ls, l < 2 * G) → andW a fl ls x = andW b fl ls x
  | [], _, _ => rfl
  | l :: ls, x, hl => by
    rw [andW, andW, List.foldl_cons, List.foldl_cons, h _ (xor_lt (hl l List.mem_cons_self) hG hfl)]
    exact andW_agr h hG hfl ls _ fun z hz => hl z (List.mem_cons_of_mem _ hz)
theorem orW_agr {G fl : Nat} {a b : Nat → Int64} (h : agr (2 * G) a b) (hG : G ≤ 60) (hfl : fl < 2) : ∀ (ls : List Nat) (x : Int64), (∀ l ∈ ls, l < 2 * G) → orW a fl ls x = orW b fl ls x
  | [], _, _ => rfl
  | l :: ls, x, hl => by
    rw [orW, orW, List.foldl_cons, List.foldl_cons, h _ (xor_lt (xor_lt (hl l List.mem_cons_self) hG hfl) hG (by decide))]
    exact orW_agr h hG hfl ls _ fun z hz => hl z (List.mem_cons_of_mem _ hz)
section AG
variable {gs : List Nat} {fs : List (Nat × Nat)} {os : List Nat}
theorem stepW_agr (hw : WF gs fs os) {a b : Nat → Int64} {x : Int32} {g : Nat} (hg : g < gs.length) (h : agr (2 * gs.length) a b) : (stepW gs fs (x, a) g).1 = (stepW gs fs (x, b) g).1 ∧ agr (2 * gs.length) (stepW gs fs (x, a) g).2 (stepW gs fs (x, b) g).2 := by
  have hl : ∀ l ∈ fOf fs g, l < 2 * gs.length := fun l hl => (hw.2.2.2.2.2.1 _ (fOf_mem hl)).2.1
  have e : ∀ fl, fl < 2 → andW a fl (fOf fs g) (-1) = andW b fl (fOf fs g) (-1) ∧ orW a fl (fOf fs g) 0 = orW b fl (fOf fs g) 0 ∧ a (2 * g + fl) = b (2 * g + fl) ∧ a ((2 * g + fl) ^^^ 1) = b ((2 * g + fl) ^^^ 1) := fun fl hfl =>
    ⟨andW_agr h hw.1 hfl _ _ hl, orW_agr h hw.1 hfl _ _ hl, h _ (by omega), h _ (xor_lt (by omega) hw.1 (by decide))⟩
  rw [stepW, stepW]
  by_cases c2 : gs.getD g 9 = 2
  · obtain ⟨e1, e2, e3, e4⟩ := e 0 (by decide)
    simp only [if_pos c2, e1, e2, e3, e4]
    exact ⟨trivial, agr_up (agr_up h)⟩
  · by_cases c3 : gs.getD g 9 = 3
    · obtain ⟨e1, e2, e3, e4⟩ := e 1 (by decide)
      simp only [if_neg c2, if_pos c3, e1, e2, e3, e4]
      exact ⟨trivial, agr_up (agr_up h)⟩
    · simp only [if_neg c2, if_neg c3]
      exact ⟨trivial, h⟩
theorem foldW_agr (hw : WF gs fs os) : ∀ (l : List Nat) (x : Int32) (a b : Nat → Int64), (∀ g ∈ l, g < gs.length) → agr (2 * gs.length) a b → (l.foldl (stepW gs fs) (x, a)).1 = (l.foldl (stepW gs fs) (x, b)).1 ∧ agr (2 * gs.length) (l.foldl (stepW gs fs) (x, a)).2 (l.foldl (stepW gs fs) (x, b)).2
  | [], _, _, _, _, h => ⟨rfl, h⟩
  | g :: l, x, a, b, hl, h => by
    rw [List.foldl_cons, List.foldl_cons]
    obtain ⟨h1, h2⟩ := stepW_agr hw (x := x) (hl g List.mem_cons_self) h
    obtain ⟨y, hy⟩ : ∃ y, y = stepW gs fs (x, b) g := ⟨_, rfl⟩
    have e1 : stepW gs fs (x, a) g = (y.1, (stepW gs fs (x, a) g).2) := by rw [hy, ← h1]
    have e2 : stepW gs fs (x, b) g = (y.1, (stepW gs fs (x, b) g).2) := by rw [hy]
    rw [e1, e2]
    exact foldW_agr hw l _ _ _ (fun z hz => hl z (List.mem_cons_of_mem _ hz)) h2
theorem sweepW_agr (hw : WF gs fs os) {a b : Nat → Int64} (h : agr (2 * gs.length) a b) : (sweepW gs fs (0, a)).1 = (sweepW gs fs (0, b)).1 ∧ agr (2 * gs.length) (sweepW gs fs (0, a)).2 (sweepW gs fs (0, b)).2 :=
  foldW_agr hw _ _ _ _ (fun g hg => by have := List.mem_range'_1.mp hg; omega) h
theorem settleW_agr (hw : WF gs fs os) : ∀ (k : Nat) (a b : Nat → Int64), agr (2 * gs.length) a b → agr (2 * gs.length) (settleW gs fs k a) (settleW gs fs k b)
  | 0, _, _, h => h
  | k + 1, a, b, h => by
    obtain ⟨h1, h2⟩ := sweepW_agr hw h
    rw [settleW, settleW, h1]
    split
    · exact h2
    · exact settleW_agr hw k _ _ h2
theorem begW_fold (w : Nat) : ∀ (k i : Nat) (a b : Nat → Int64), agr (2 * i) a b → agr (2 * (i + k)) ((List.range' i k).foldl (begW gs w) a) ((List.range' i k).foldl (begW gs w) b)
  | 0, _, _, _, h => h
  | k + 1, i, a, b, h => by
    rw [List.range'_succ, List.foldl_cons, List.foldl_cons, show i + (k + 1) = (i + 1) + k by omega]
    apply begW_fold w k (i + 1)
    have up2 : ∀ x y : Int64, agr (2 * (i + 1)) (vp_updL (vp_updL a (2 * i) x) (2 * i + 1) y) (vp_updL (vp_updL b (2 * i) x) (2 * i + 1) y) := by
      intro x y l hl
      rw [updL_eq, updL_eq, updL_eq, updL_eq]
      by_cases c : l = 2 * i + 1
      · rw [if_pos c, if_pos c]
      · rw [if_neg c, if_neg c]
        by_cases c2 : l = 2 * i
        · rw [if_pos c2, if_pos c2]
        · rw [if_neg c2, if_neg c2]
          exact h l (by omega)
    rw [begW, begW]
    split
    · exact up2 _ _
    · split
      · exact up2 _ _
      · exact up2 _ _
end AG
/-- the known words of word w, settled -/
def KN (gs : List Nat) (fs : List (Nat × Nat)) (w : Nat) : Nat → Int64 := settleW gs fs gs.length ((List.range' 0 gs.length).foldl (begW gs w) (fun _ => 0))
theorem KN_any {gs : List Nat} {fs : List (Nat × Nat)} {os : List Nat} (hw : WF gs fs os) (w : Nat) (kn : Nat → Int64) : agr (2 * gs.length) (settleW gs fs gs.length ((List.range' 0 gs.length).foldl (begW gs w) kn)) (KN gs fs w) := by
  refine settleW_agr hw _ _ _ ?_
  have := begW_fold (gs := gs) w gs.length 0 kn (fun _ => 0) (fun l hl => absurd hl (by omega))
  rw [Nat.zero_add] at this
  exact this
