def SEof (kn : Nat → Int64) (G : Nat) : Int64 := (List.range' 0 G).foldl (fun a g => a &&& (kn (2 * g) ||| kn (2 * g + 1))) (-1)
def SE (gs : List Nat) (fs : List (Nat × Nat)) (w : Nat) : Int64 := SEof (KN gs fs w) gs.length
/-- the values of all gates in all words -/
def VA (gs : List Nat) (fs : List (Nat × Nat)) (i : Nat) : Int64 := KN gs fs (i % 64) (2 * (i / 64))
/-- the next state, or -1 -/
def NX (gs : List Nat) (fs : List (Nat × Nat)) (nv : Nat → Nat) (s c : Nat) : Int32 := if bL (SE gs fs (s / 4)) (s % 4 * 16 + c) = false then -1 else nI (nxt (VA gs fs) nv (s / 4) (s % 4 * 16 + c) (gs.count 1))
theorem kp_1 {kn : Nat → Int64} {w : Nat} : ∀ (l : List Nat) (a : Int64) (va : Nat → Int64), (l.foldl (kpW kn w) (a, va)).1 = l.foldl (fun a g => a &&& (kn (2 * g) ||| kn (2 * g + 1))) a
  | [], _, _ => rfl
  | g :: l, a, va => by rw [List.foldl_cons, List.foldl_cons, kpW]; exact kp_1 l _ _
theorem kp_agr {G : Nat} {a b : Nat → Int64} (h : agr (2 * G) a b) : ∀ (l : List Nat) (x : Int64), (∀ g ∈ l, g < G) → l.foldl (fun x g => x &&& (a (2 * g) ||| a (2 * g + 1))) x = l.foldl (fun x g => x &&& (b (2 * g) ||| b (2 * g + 1))) x
  | [], _, _ => rfl
  | g :: l, x, hl => by
    have hg := hl g List.mem_cons_self
    rw [List.foldl_cons, List.foldl_cons, h (2 * g) (by omega), h (2 * g + 1) (by omega)]
    exact kp_agr h l _ fun z hz => hl z (List.mem_cons_of_mem _ hz)
theorem kp_2 {kn : Nat → Int64} {w : Nat} : ∀ (k i : Nat) (a : Int64) (va : Nat → Int64), (∀ g, i ≤ g → g < i + k → ((List.range' i k).foldl (kpW kn w) (a, va)).2 (g * 64 + w) = kn (2 * g)) ∧ (∀ j, (∀ g, i ≤ g → g < i + k → j ≠ g * 64 + w) → ((List.range' i k).foldl (kpW kn w) (a, va)).2 j = va j)
  | 0, _, _, _ => ⟨fun g h1 h2 => absurd h2 (by omega), fun _ _ => rfl⟩
  | k + 1, i, a, va => by
    rw [List.range'_succ, List.foldl_cons, kpW]
    obtain ⟨h1, h2⟩ := kp_2 (kn := kn) (w := w) k (i + 1) (a &&& (kn (2 * i) ||| kn (2 * i + 1))) (vp_updL va (i * 64 + w) (kn (2 * i)))
    refine ⟨fun g g1 g2 => ?_, fun j hj => ?_⟩
    · rcases Nat.lt_or_ge i g with c | c
      · exact h1 g (by omega) (by omega)
      · have : g = i := by omega
        subst this
        rw [h2 _ (fun z z1 z2 => by omega), updL_eq, if_pos rfl]
    · rw [h2 j (fun g g1 g2 => hj g (by omega) (by omega)), updL_eq, if_neg (hj i (by omega) (by omega))]
theorem nxt_agr {va vb : Nat → Int64} {nv : Nat → Nat} {w b : Nat} : ∀ k, (∀ i, i < k → va (nv i / 2 * 64 + w) = vb (nv i / 2 * 64 + w)) → nxt va nv w b k = nxt vb nv w b k
  | 0, _ => rfl
  | k + 1, h => by rw [nxt, nxt, nxt_agr k (fun i hi => h i (by omega)), h k (by omega)]
section FI
variable {so ra st li nl ou : Nat → Int32} {gT iT lT oT : Int32} {gs : List Nat} {fs : List (Nat × Nat)} {os : List Nat}
theorem p_fillL (h : RC so ra st li nl ou gT iT lT oT gs fs os) (hw : WF gs fs os) {W : Nat} (hW : W ≤ 64) : ∀ (k n i : Nat) (kn se va : Nat → Int64), i + k = W → k < n → ∃ r, L_Tab_fill_7 so ra st li gT (nI W) n (nI i) kn se va = some r ∧ (∀ w, i ≤ w → w < W → r.2.1 w = SE gs fs w ∧ ∀ g, g < gs.length → r.2.2 (g * 64 + w) = KN gs fs w (2 * g)) ∧ (∀ w, w < i → r.2.1 w = se w ∧ ∀ g, g < gs.length → r.2.2 (g * 64 + w) = va (g * 64 + w)) := by
  intro k
  induction k with
  | zero =>
    intro n i kn se va h1 h2
    obtain ⟨n, rfl⟩ : ∃ z, n = z + 1 := ⟨n - 1, by omega⟩
    rw [L_Tab_fill_7, if_pos ((nI_leI (by omega) (by omega)).mpr (by omega))]
    exact ⟨_, rfl, fun w a b => absurd b (by omega), fun w _ => ⟨rfl, fun _ _ => rfl⟩⟩
  | succ k ih =>
    intro n i kn se va h1 h2
    obtain ⟨n, rfl⟩ : ∃ z, n = z + 1 := ⟨n - 1, by omega⟩
    have hi : i < 64 := by omega
    rw [L_Tab_fill_7, if_neg (by rw [nI_leI (by omega) (by omega)]; omega), p_begin h hw hi, Option.bind_some, p_settle h hw, Option.bind_some, p_keep h hw hi, Option.bind_some, nI_1]
    have hag := KN_any hw i kn
    generalize settleW gs fs gs.length ((List.range' 0 gs.length).foldl (begW gs i) kn) = kn1 at hag ⊢
    obtain ⟨q1, q2⟩ := kp_2 (kn := kn1) (w := i) gs.length 0 (-1) va
    have q0 : ((List.range' 0 gs.length).foldl (kpW kn1 i) (-1, va)).1 = SE gs fs i := by
      rw [kp_1, SE, SEof]
      exact kp_agr hag _ _ fun g hg => by have := List.mem_range'_1.mp hg; omega
    obtain ⟨r, r1, r2, r3⟩ := ih n (i + 1) kn1 (vp_updL se i ((List.range' 0 gs.length).foldl (kpW kn1 i) (-1, va)).1) ((List.range' 0 gs.length).foldl (kpW kn1 i) (-1, va)).2 (by omega) (by omega)
    refine ⟨r, r1, fun w a b => ?_, fun w a => ?_⟩
    · rcases Nat.lt_or_ge i w with c | c
      · exact r2 w (by omega) b
      · have : w = i := by omega
        subst this
        obtain ⟨z1, z2⟩ := r3 w (by omega)
        refine ⟨by rw [z1, updL_eq, if_pos rfl, q0], fun g hg => ?_⟩
        rw [z2 g hg, q1 g (Nat.zero_le _) (by omega), hag _ (by omega)]
    · obtain ⟨z1, z2⟩ := r3 w (by omega)
      refine ⟨by rw [z1, updL_eq, if_neg (by omega)], fun g hg => ?_⟩
      rw [z2 g hg, q2 _ (fun z _ z2 => by omega)]
end FI
