section
/-! PURE ROWS: small numbers in Int32 -/
theorem i0 : (0 : Int32) = nI 0 := rfl
theorem i1 : (1 : Int32) = nI 1 := rfl
theorem i2 : (2 : Int32) = nI 2 := rfl
theorem i3 : (3 : Int32) = nI 3 := rfl
theorem i4 : (4 : Int32) = nI 4 := rfl
theorem i6 : (6 : Int32) = nI 6 := rfl
theorem i8 : (8 : Int32) = nI 8 := rfl
theorem i15 : (15 : Int32) = nI 15 := rfl
theorem i16 : (16 : Int32) = nI 16 := rfl
theorem i60 : (60 : Int32) = nI 60 := rfl
theorem i64 : (64 : Int32) = nI 64 := rfl
theorem i240 : (240 : Int32) = nI 240 := rfl
theorem i256 : (256 : Int32) = nI 256 := rfl
theorem gd_nI {α : Type} {n N : Nat} {a : Option α} (h : n < N) (hN : N < 2 ^ 31) : gd (vp_in (nI n) N) a = a := gd_in (vp_in_nI h hN)
theorem m1_ne {n : Nat} (h : n < 2 ^ 31) : ¬ nI n = (-1 : Int32) := by
  intro q
  have a := nI_toInt h
  rw [q] at a
  have : (-1 : Int32).toInt = -1 := by decide
  omega
theorem m1_lt0 : (-1 : Int32) < 0 := by decide
theorem upd_eq {f : Nat → Int32} {k : Nat} {x : Int32} {j : Nat} : upd f k x j = if j = k then x else f j := rfl
theorem updL_eq {f : Nat → Int64} {k : Nat} {x : Int64} {j : Nat} : vp_updL f k x j = if j = k then x else f j := rfl
/-- an int of a script, against the numbers below n -/
theorem ix_cases (x : Int32) {n : Nat} (hn : n < 2 ^ 31) : (x < 0 ∨ ¬ x < nI n) ∨ ∃ j : Nat, j < n ∧ x = nI j := by
  rcases pk_ix x hn with h | h | h
  · exact Or.inl (Or.inl h)
  · exact Or.inl (Or.inr (Int32.not_lt.mpr h))
  · exact Or.inr h
theorem p_isFullFor {G I K q : Nat} (hG : G ≤ 60) (hI : I ≤ 4) (hK : K ≤ 8) (hq : q ≤ 3) : m_Net_isFullFor (nI G) (nI I) (nI K) (nI q) = some (if 60 ≤ G ∨ (q = 0 ∧ 4 ≤ I) ∨ (q = 1 ∧ 8 ≤ K) then 1 else 0) := by
  rw [m_Net_isFullFor]
  simp (disch := omega) only [sx_let, i60, i4, i8, nI_leI, nI_ltI]
  have e0 : (nI q = (0 : Int32)) ↔ q = 0 := by rw [i0]; exact nI_eq (by omega) (by omega)
  have e1 : (nI q = (1 : Int32)) ↔ q = 1 := by rw [i1]; exact nI_eq (by omega) (by omega)
  simp only [e0, e1]
  by_cases h1 : 60 ≤ G <;> by_cases h2 : q = 0 <;> by_cases h3 : 4 ≤ I <;> by_cases h4 : q = 1 <;> by_cases h5 : K < 8 <;> simp [h1, h2, h3, h4, h5] <;> omega
end
section
/-! THE NET, as lists: sorts of the gates; feeds (to, literal) in the order of their calls; outputs -/
def fOf (fs : List (Nat × Nat)) (g : Nat) : List Nat := (fs.filter (fun f => f.1 == g)).map (fun f => f.2)
def Sf (fs : List (Nat × Nat)) : Nat → Nat
  | 0 => 0
  | g + 1 => Sf fs g + (fOf fs g).length
def rk (gs : List Nat) (g : Nat) : Nat := (gs.take g).count (gs.getD g 9)
def WF (gs : List Nat) (fs : List (Nat × Nat)) (os : List Nat) : Prop :=
  gs.length ≤ 60 ∧ gs.count 0 ≤ 4 ∧ gs.count 1 ≤ 8 ∧ (∀ s ∈ gs, s ≤ 3) ∧ fs.length ≤ 240 ∧
  (∀ f ∈ fs, f.1 < gs.length ∧ f.2 < 2 * gs.length ∧ gs.getD f.1 9 ≠ 0 ∧ (gs.getD f.1 9 = 1 → (fOf fs f.1).length ≤ 1)) ∧ os.length ≤ 6 ∧ ∀ o ∈ os, o < gs.length
/-- the class's cells hold the net -/
def RC (so ra st li nl ou : Nat → Int32) (gT iT lT oT : Int32) (gs : List Nat) (fs : List (Nat × Nat)) (os : List Nat) : Prop :=
  gT = nI gs.length ∧ iT = nI (gs.count 0) ∧ lT = nI (gs.count 1) ∧ oT = nI os.length ∧
  (∀ g, g < gs.length → so g = nI (gs.getD g 9) ∧ (gs.getD g 9 ≤ 1 → ra g = nI (rk gs g))) ∧
  (∀ g, g ≤ gs.length → st g = nI (Sf fs g)) ∧
  (∀ g, g < gs.length → ∀ j, j < (fOf fs g).length → li (Sf fs g + j) = nI ((fOf fs g).getD j 0)) ∧
  (∀ g, g < gs.length → gs.getD g 9 = 1 → nl (rk gs g) = nI ((fOf fs g).getD 0 (2 * g))) ∧
  (∀ o, o < os.length → ou o = nI (os.getD o 0))
theorem gd_app {gs : List Nat} {q g : Nat} (h : g < gs.length) : (gs ++ [q]).getD g 9 = gs.getD g 9 := by
  simp [List.getD_eq_getElem?_getD, List.getElem?_append_left h]
theorem gd_last {gs : List Nat} {q : Nat} : (gs ++ [q]).getD gs.length 9 = q := by
  simp [List.getD_eq_getElem?_getD]
theorem rk_app {gs : List Nat} {q g : Nat} (h : g < gs.length) : rk (gs ++ [q]) g = rk gs g := by
  rw [rk, rk, gd_app h, List.take_append_of_le_length (Nat.le_of_lt h)]
theorem rk_last {gs : List Nat} {q : Nat} : rk (gs ++ [q]) gs.length = gs.count q := by
  rw [rk, gd_last, List.take_append_of_le_length (Nat.le_refl _), List.take_length]
theorem fOf_none {fs : List (Nat × Nat)} {g : Nat} (h : ∀ f ∈ fs, f.1 < g) : fOf fs g = [] := by
  rw [fOf, List.filter_eq_nil_iff.mpr]
  · rfl
  · intro f hf
    have := h f hf
    simp; omega
theorem getD_mem {gs : List Nat} {g : Nat} (h : g < gs.length) : gs.getD g 9 ∈ gs := by
  simp [List.getD_eq_getElem?_getD, h]
/-- ranks lie below the counts -/
theorem rk_lt {gs : List Nat} {g : Nat} (h : g < gs.length) : rk gs g < gs.count (gs.getD g 9) := by
  have e : gs = gs.take g ++ gs.getD g 9 :: gs.drop (g + 1) := by
    conv => lhs; rw [← List.take_append_drop g gs]
    rw [List.drop_eq_getElem_cons h]
    simp [List.getD_eq_getElem?_getD, h]
  rw [rk]
  generalize hx : gs.getD g 9 = x at e ⊢
  have : gs.count x = (gs.take g).count x + ((gs.drop (g + 1)).count x + 1) := by
    conv => lhs; rw [e]
    rw [List.count_append, List.count_cons_self]
  omega
theorem rk_inj {gs : List Nat} {a b : Nat} (ha : a < gs.length) (hb : b < gs.length) (hs : gs.getD a 9 = gs.getD b 9) (h : rk gs a = rk gs b) : a = b := by
  have key : ∀ a b, a < b → b < gs.length → gs.getD a 9 = gs.getD b 9 → rk gs a < rk gs b := by
    intro a b hab hb hs
    have h2 := rk_lt (gs := gs.take b) (g := a) (by rw [List.length_take]; omega)
    have e1 : (gs.take b).getD a 9 = gs.getD a 9 := by simp [List.getD_eq_getElem?_getD, List.getElem?_take, hab]
    rw [rk, e1, List.take_take, Nat.min_eq_left (Nat.le_of_lt hab)] at h2
    rw [rk, rk, ← hs]
    exact h2
  rcases Nat.lt_trichotomy a b with h1 | h1 | h1
  · have := key a b h1 hb hs; omega
  · exact h1
  · have := key b a h1 ha hs.symm; omega
end
section
/-- m_Net_addGate, where there is room -/
theorem RC_gate {so ra st li nl ou : Nat → Int32} {gT iT lT oT : Int32} {gs : List Nat} {fs : List (Nat × Nat)} {os : List Nat} {q : Nat} (h : RC so ra st li nl ou gT iT lT oT gs fs os) (hw : WF gs fs os) (hq : q ≤ 3) (hn : ¬ (60 ≤ gs.length ∨ (q = 0 ∧ 4 ≤ gs.count 0) ∨ (q = 1 ∧ 8 ≤ gs.count 1))) :
    ∃ v, m_Net_addGate so ra st nl gT iT lT (nI q) = some v ∧ v.1 = nI gs.length ∧ RC v.2.1 v.2.2.1 v.2.2.2.1 li v.2.2.2.2.1 ou v.2.2.2.2.2.1 v.2.2.2.2.2.2.1 v.2.2.2.2.2.2.2 oT (gs ++ [q]) fs os ∧ WF (gs ++ [q]) fs os := by
  obtain ⟨rfl, rfl, rfl, rfl, hso, hst, hli, hnl, hou⟩ := h
  obtain ⟨w1, w2, w3, w4, w5, w6, w7, w8⟩ := hw
  have hG : gs.length < 60 := by omega
  have hfe : fOf fs gs.length = [] := fOf_none fun f hf => (w6 f hf).1
  have hWF : WF (gs ++ [q]) fs os := by
    refine ⟨by simp; omega, ?_, ?_, ?_, w5, ?_, w7, fun o ho => ?_⟩
    · rw [List.count_append]
      by_cases e : q = 0
      · subst e; simp; omega
      · rw [List.count_eq_zero_of_not_mem (l := [q]) (by simp; omega)]; omega
    · rw [List.count_append]
      by_cases e : q = 1
      · subst e; simp; omega
      · rw [List.count_eq_zero_of_not_mem (l := [q]) (by simp; omega)]; omega
    · intro s hs
      rcases List.mem_append.mp hs with h | h
      · exact w4 s h
      · rw [List.mem_singleton.mp h]; exact hq
    · intro f hf
      obtain ⟨a, b, c, d⟩ := w6 f hf
      rw [gd_app a]
      exact ⟨by simp; omega, by simp; omega, c, d⟩
    · have := w8 o ho
      simp; omega
  have e0 : (nI q = (0 : Int32)) ↔ q = 0 := by rw [i0]; exact nI_eq (by omega) (by omega)
  have e1 : (nI q = (1 : Int32)) ↔ q = 1 := by rw [i1]; exact nI_eq (by omega) (by omega)
  have hcl : (nI gs.length).toNatClampNeg = gs.length := nI_clamp (by omega)
  have hcl1 : (nI (gs.length + 1)).toNatClampNeg = gs.length + 1 := nI_clamp (by omega)
  have hclK : (nI (gs.count 1)).toNatClampNeg = gs.count 1 := nI_clamp (by omega)
  have h2G : nI gs.length * (2 : Int32) = nI (2 * gs.length) := by rw [i2, pk_mul, Nat.mul_comm]
  have hcnt : ∀ k, (gs ++ [q]).count k = gs.count k + if q = k then 1 else 0 := by
    intro k
    rw [List.count_append]
    by_cases e : q = k
    · subst e; simp
    · rw [if_neg e, List.count_eq_zero_of_not_mem (l := [q]) (by simp; omega)]
  -- what all three ways share
  have shared : ∀ (ra' nl' : Nat → Int32) (iT' lT' : Int32), iT' = nI ((gs ++ [q]).count 0) → lT' = nI ((gs ++ [q]).count 1) → (∀ g, g < gs.length → ra' g = ra g) → (q ≤ 1 → ra' gs.length = nI (gs.count q)) → (∀ k, k < gs.count 1 → nl' k = nl k) → (q = 1 → nl' (gs.count 1) = nI (2 * gs.length)) →
      RC (upd so gs.length (nI q)) ra' (upd st (gs.length + 1) (st gs.length)) li nl' ou (nI (gs.length + 1)) iT' lT' (nI os.length) (gs ++ [q]) fs os := by
    intro ra' nl' iT' lT' hi hl hr hr2 hn1 hn2
    refine ⟨by simp, hi, hl, rfl, ?_, ?_, ?_, ?_, hou⟩
    · intro g hg
      have hg' : g < gs.length + 1 := by simpa using hg
      rcases Nat.lt_or_ge g gs.length with c | c
      · rw [gd_app c, rk_app c, upd_eq, if_neg (by omega), hr g c]
        exact hso g c
      · have : g = gs.length := by omega
        subst this
        rw [gd_last, rk_last, upd_eq, if_pos rfl]
        exact ⟨rfl, hr2⟩
    · intro g hg
      have hg' : g ≤ gs.length + 1 := by simpa using hg
      rw [upd_eq]
      rcases Nat.lt_or_ge g (gs.length + 1) with c | c
      · rw [if_neg (by omega)]; exact hst g (by omega)
      · have : g = gs.length + 1 := by omega
        subst this
        rw [if_pos rfl, hst _ (Nat.le_refl _), Sf, hfe]
        rfl
    · intro g hg j hj
      have hg' : g < gs.length + 1 := by simpa using hg
      rcases Nat.lt_or_ge g gs.length with c | c
      · exact hli g c j hj
      · have : g = gs.length := by omega
        subst this
        rw [hfe] at hj
        exact absurd hj (by simp)
    · intro g hg hs
      have hg' : g < gs.length + 1 := by simpa using hg
      rcases Nat.lt_or_ge g gs.length with c | c
      · rw [gd_app c] at hs
        rw [rk_app c, hn1 _ (by have := rk_lt c; rw [hs] at this; exact this)]
        exact hnl g c hs
      · have : g = gs.length := by omega
        subst this
        rw [gd_last] at hs
        rw [rk_last, hfe, hs]
        exact hn2 hs
  rw [m_Net_addGate]
  simp (disch := omega) only [sx_let, gd_nI, nI_1, hcl, hcl1, e0, e1]
  by_cases c0 : q = 0
  · subst c0
    simp only [if_pos]
    refine ⟨_, rfl, rfl, ?_, hWF⟩
    dsimp only
    exact shared _ _ _ _ (by rw [hcnt, if_pos rfl]) (by rw [hcnt, if_neg (by decide)]; rfl) (fun g hg => by rw [upd_eq, if_neg (by omega)]) (fun _ => by rw [upd_eq, if_pos rfl]) (fun _ _ => rfl) (fun h => absurd h (by decide))
  · by_cases c1 : q = 1
    · subst c1
      have hk : gs.count 1 < 8 := by omega
      simp only [if_neg c0, if_pos, gd_nI hk (by decide), hclK, h2G]
      refine ⟨_, rfl, rfl, ?_, hWF⟩
      dsimp only
      exact shared _ _ _ _ (by rw [hcnt, if_neg (by decide)]; rfl) (by rw [hcnt, if_pos rfl]) (fun g hg => by rw [upd_eq, if_neg (by omega)]) (fun _ => by rw [upd_eq, if_pos rfl]) (fun k hk2 => by rw [upd_eq, if_neg (by omega)]) (fun _ => by rw [upd_eq, if_pos rfl])
    · simp only [if_neg c0, if_neg c1]
      refine ⟨_, rfl, rfl, ?_, hWF⟩
      dsimp only
      exact shared _ _ _ _ (by rw [hcnt, if_neg c0]; rfl) (by rw [hcnt, if_neg c1]; rfl) (fun _ _ => rfl) (fun h => absurd h (by omega)) (fun _ _ => rfl) (fun h => absurd h c1)
end
section
theorem fOf_app {fs : List (Nat × Nat)} {t l g : Nat} : fOf (fs ++ [(t, l)]) g = if t = g then fOf fs g ++ [l] else fOf fs g := by
  rw [fOf, fOf, List.filter_append, List.map_append]
  by_cases h : t = g
  · subst h; simp
  · rw [if_neg h]; simp [h]
theorem Sf_app {fs : List (Nat × Nat)} {t l : Nat} : ∀ g, Sf (fs ++ [(t, l)]) g = Sf fs g + if t < g then 1 else 0
  | 0 => by simp [Sf]
  | g + 1 => by
    rw [Sf, Sf, Sf_app g, fOf_app]
    by_cases h : t = g
    · subst h; simp; omega
    · rw [if_neg h]
      by_cases h2 : t < g
      · rw [if_pos h2, if_pos (by omega)]; omega
      · rw [if_neg h2, if_neg (by omega)]; omega
theorem Sf_mono {fs : List (Nat × Nat)} {a b : Nat} (h : a ≤ b) : Sf fs a ≤ Sf fs b := by
  induction h with
  | refl => exact Nat.le_refl _
  | step _ ih => rw [Nat.succ_eq_add_one, Sf]; omega
theorem Sf_cons {fs : List (Nat × Nat)} {x : Nat × Nat} : ∀ g, Sf (x :: fs) g = Sf fs g + if x.1 < g then 1 else 0
  | 0 => by simp [Sf]
  | g + 1 => by
    have e : (fOf (x :: fs) g).length = (fOf fs g).length + if x.1 = g then 1 else 0 := by
      rw [fOf, fOf, List.filter_cons]
      by_cases h : x.1 = g
      · rw [if_pos (by simp [h]), if_pos h]; simp
      · rw [if_neg (by simp [h]), if_neg h]; simp
    rw [Sf, Sf, Sf_cons g, e]
    by_cases h : x.1 = g
    · rw [if_pos h, if_neg (by omega), if_pos (by omega)]; omega
    · rw [if_neg h]
      by_cases h2 : x.1 < g
      · rw [if_pos h2, if_pos (by omega)]; omega
      · rw [if_neg h2, if_neg (by omega)]; omega
/-- all feeds are counted -/
theorem Sf_all {G : Nat} : ∀ {fs : List (Nat × Nat)}, (∀ f ∈ fs, f.1 < G) → Sf fs G = fs.length := by
  intro fs
  induction fs with
  | nil =>
    intro _
    have : ∀ g, Sf [] g = 0 := by
      intro g
      induction g with
      | zero => rfl
      | succ g ih => rw [Sf, ih]; rfl
    exact this G
  | cons x fs ih =>
    intro h
    rw [Sf_cons, ih (fun f hf => h f (List.mem_cons_of_mem _ hf)), if_pos (h x List.mem_cons_self)]
    simp
theorem p_L63 {G : Nat} (hG : G ≤ 60) : ∀ (k n i : Nat) (st : Nat → Int32), i ≤ G + 1 → G + 1 - i = k → k < n → L_Net_addFeed_63 (nI G) n (nI i) st = some (fun j => if i ≤ j ∧ j ≤ G then st j + 1 else st j) := by
  intro k
  induction k with
  | zero =>
    intro n i st h1 h2 h3
    obtain ⟨n, rfl⟩ : ∃ z, n = z + 1 := ⟨n - 1, by omega⟩
    rw [L_Net_addFeed_63, if_pos ((nI_ltI (by omega) (by omega)).mpr (by omega))]
    congr 1
    funext j
    rw [if_neg (by omega)]
  | succ k ih =>
    intro n i st h1 h2 h3
    obtain ⟨n, rfl⟩ : ∃ z, n = z + 1 := ⟨n - 1, by omega⟩
    rw [L_Net_addFeed_63, if_neg (by rw [nI_ltI (by omega) (by omega)]; omega), gd_nI (by omega) (by decide), gd_nI (by omega) (by decide), nI_1, nI_clamp (by omega), ih n (i + 1) _ (by omega) (by omega) (by omega)]
    congr 1
    funext j
    rw [upd_eq]
    by_cases c : j = i
    · subst c
      rw [if_neg (by omega), if_pos rfl, if_pos (by omega)]
    · rw [if_neg c]
      by_cases c2 : i ≤ j ∧ j ≤ G
      · rw [if_pos c2, if_pos (by omega)]
      · rw [if_neg c2, if_neg (by omega)]
/-- the state behind a feed -/
theorem RC_feed {so ra st li nl ou : Nat → Int32} {gT iT lT oT : Int32} {gs : List Nat} {fs : List (Nat × Nat)} {os : List Nat} {t f : Nat} {neg : Int32} (h : RC so ra st li nl ou gT iT lT oT gs fs os) (hw : WF gs fs os) (ht : t < gs.length) (hf : f < gs.length) (h0 : gs.getD t 9 ≠ 0) (h1 : gs.getD t 9 = 1 → fOf fs t = []) (hn : fs.length < 240) :
    ∃ v, m_Net_addFeed so ra st li nl gT (nI t) (nI f) neg = some v ∧ v.1 = nI ((fOf fs t).length + 1) ∧ RC so ra v.2.1 v.2.2.1 v.2.2.2 ou gT iT lT oT gs (fs ++ [(t, 2 * f + if neg = 0 then 0 else 1)]) os ∧ WF gs (fs ++ [(t, 2 * f + if neg = 0 then 0 else 1)]) os := by
  obtain ⟨rfl, rfl, rfl, rfl, hso, hst, hli, hnl, hou⟩ := h
  obtain ⟨w1, w2, w3, w4, w5, w6, w7, w8⟩ := hw
  obtain ⟨x, hx⟩ : ∃ x, x = 2 * f + (if neg = 0 then 0 else 1) := ⟨_, rfl⟩
  have hx2 : x < 2 * gs.length := by rw [hx]; split <;> omega
  have hSG : Sf fs gs.length = fs.length := Sf_all fun q hq => (w6 q hq).1
  have hpl : Sf fs (t + 1) ≤ fs.length := by rw [← hSG]; exact Sf_mono (by omega)
  obtain ⟨P, hP⟩ : ∃ P, P = Sf fs (t + 1) := ⟨_, rfl⟩
  rw [← hP] at hpl
  -- the new rows
  obtain ⟨st', hst'⟩ : ∃ z : Nat → Int32, z = fun j => if t + 1 ≤ j ∧ j ≤ gs.length then st j + 1 else st j := ⟨_, rfl⟩
  obtain ⟨li', hli'⟩ : ∃ z : Nat → Int32, z = upd (va_cpy li li P (P + 1) (fs.length - P)) P (nI x) := ⟨_, rfl⟩
  have hWF : WF gs (fs ++ [(t, x)]) os := by
    refine ⟨w1, w2, w3, w4, by simp; omega, fun q hq => ?_, w7, w8⟩
    have hlen : ∀ g, g < gs.length → gs.getD g 9 = 1 → (fOf fs g).length ≤ 1 ∧ (g = t → fOf fs g = []) := by
      intro g _ hg1
      refine ⟨?_, fun e => by subst e; exact h1 hg1⟩
      cases hfo : fOf fs g with
      | nil => simp
      | cons a r =>
        have hm : a ∈ fOf fs g := by rw [hfo]; exact List.mem_cons_self
        rw [fOf] at hm
        obtain ⟨q2, hq2, -⟩ := List.mem_map.mp hm
        have h2 := List.mem_filter.mp hq2
        have e : q2.1 = g := by simpa using h2.2
        have := (w6 q2 h2.1).2.2.2
        rw [e] at this
        rw [← hfo]
        exact this hg1
    rcases List.mem_append.mp hq with hq | hq
    · obtain ⟨a, b, c, d⟩ := w6 q hq
      refine ⟨a, b, c, fun e => ?_⟩
      obtain ⟨l1, l2⟩ := hlen q.1 a e
      rw [fOf_app]
      by_cases e2 : t = q.1
      · rw [if_pos e2, l2 e2.symm]; simp
      · rw [if_neg e2]; exact l1
    · rw [List.mem_singleton.mp hq]
      refine ⟨ht, hx2, h0, fun e => ?_⟩
      rw [fOf_app, if_pos rfl, h1 e]; simp
  have hRC : ∀ nl', (∀ g, g < gs.length → gs.getD g 9 = 1 → nl' (rk gs g) = nI ((fOf (fs ++ [(t, x)]) g).getD 0 (2 * g))) → RC so ra st' li' nl' ou (nI gs.length) (nI (gs.count 0)) (nI (gs.count 1)) (nI os.length) gs (fs ++ [(t, x)]) os := by
    intro nl' hnl'
    refine ⟨rfl, rfl, rfl, rfl, hso, ?_, ?_, hnl', hou⟩
    · intro g hg
      rw [hst', Sf_app]
      by_cases c : t < g
      · show (if t + 1 ≤ g ∧ g ≤ gs.length then st g + 1 else st g) = _
        rw [if_pos ⟨c, hg⟩, if_pos c, hst g hg, nI_1]
      · show (if t + 1 ≤ g ∧ g ≤ gs.length then st g + 1 else st g) = _
        rw [if_neg (by omega), if_neg c, hst g hg]; rfl
    · intro g hg j hj
      rw [Sf_app, hli', upd_eq]
      rw [fOf_app] at hj ⊢
      have hb : Sf fs g + (fOf fs g).length = Sf fs (g + 1) := rfl
      rcases Nat.lt_trichotomy g t with c | c | c
      · rw [if_neg (show ¬ t = g by omega)] at hj ⊢
        have : Sf fs (g + 1) ≤ Sf fs (t + 1) := Sf_mono (by omega)
        rw [if_neg (show ¬ t < g by omega), Nat.add_zero, if_neg (show ¬ Sf fs g + j = P by omega), pk_cpy_out (Or.inl (by omega))]
        exact hli g hg j hj
      · subst c
        rw [if_pos rfl] at hj ⊢
        rw [if_neg (Nat.lt_irrefl _)]
        have hj' : j < (fOf fs g).length + 1 := by simpa using hj
        rcases Nat.lt_or_ge j (fOf fs g).length with c2 | c2
        · rw [if_neg (by omega), pk_cpy_out (by omega)]
          rw [show Sf fs g + 0 + j = Sf fs g + j by omega, hli g hg j c2]
          simp [List.getD_eq_getElem?_getD, List.getElem?_append_left c2]
        · have : j = (fOf fs g).length := by omega
          subst this
          rw [if_pos (by omega)]
          simp [List.getD_eq_getElem?_getD]
      · rw [if_neg (show ¬ t = g by omega)] at hj ⊢
        have h9 : Sf fs (t + 1) ≤ Sf fs g := Sf_mono (by omega)
        have h10 : Sf fs (g + 1) ≤ fs.length := by rw [← hSG]; exact Sf_mono (by omega)
        rw [if_pos c, if_neg (show ¬ Sf fs g + 1 + j = P by omega), pk_cpy_in (by omega) (by omega)]
        rw [show P + (Sf fs g + 1 + j - (P + 1)) = Sf fs g + j by omega]
        exact hli g hg j hj
  -- the walk
  have et : nI t + (1 : Int32) = nI (t + 1) := nI_1 t
  have ct : (nI t).toNatClampNeg = t := nI_clamp (by omega)
  have ct1 : (nI (t + 1)).toNatClampNeg = t + 1 := nI_clamp (by omega)
  have sP : st (t + 1) = nI P := by rw [hst (t + 1) (by omega), hP]
  have cP : (nI P).toNatClampNeg = P := nI_clamp (by omega)
  have eP1 : nI P + (1 : Int32) = nI (P + 1) := nI_1 P
  have cP1 : (nI (P + 1)).toNatClampNeg = P + 1 := nI_clamp (by omega)
  have eft : m_Net_feedTotal st (nI gs.length) = some (nI fs.length) := by
    rw [m_Net_feedTotal, gd_nI (by omega) (by decide), nI_clamp (by omega), hst _ (Nat.le_refl _), hSG]
  have esub : nI fs.length - nI P = nI (fs.length - P) := pk_sub hpl
  have csub : (nI (fs.length - P)).toNatClampNeg = fs.length - P := nI_clamp (by omega)
  have hcond : ¬ nI P < 0 ∧ ¬ nI (P + 1) < 0 ∧ ¬ nI (fs.length - P) < 0 ∧ P + (fs.length - P) ≤ 240 ∧ P + 1 + (fs.length - P) ≤ 240 := ⟨nI_pos (by omega), nI_pos (by omega), nI_pos (by omega), by omega, by omega⟩
  have eL : L_Net_addFeed_63 (nI gs.length) fu (nI (t + 1)) st = some st' := by
    rw [p_L63 w1 (gs.length + 1 - (t + 1)) fu (t + 1) st (by omega) rfl (by rw [fu]; omega), hst']
  have hb : Sf fs t + (fOf fs t).length = P := hP.symm
  have efo : m_Net_feedsOf st' (nI t) = some (nI ((fOf fs t).length + 1)) := by
    rw [m_Net_feedsOf, et, gd_nI (by omega) (by decide), gd_nI (by omega) (by decide), ct, ct1, hst']
    show some ((if t + 1 ≤ t + 1 ∧ t + 1 ≤ gs.length then st (t + 1) + 1 else st (t + 1)) - (if t + 1 ≤ t ∧ t ≤ gs.length then st t + 1 else st t)) = _
    rw [if_pos (by omega), if_neg (by omega), sP, hst t (by omega), nI_1, pk_sub (by omega)]
    congr 2
    omega
  have e1 : (nI (gs.getD t 9) = (1 : Int32)) ↔ gs.getD t 9 = 1 := by rw [i1]; exact nI_eq (by have := w4 _ (getD_mem ht); omega) (by omega)
  have ef2 : nI f * (2 : Int32) = nI (2 * f) := by rw [i2, pk_mul, Nat.mul_comm]
  rw [m_Net_addFeed, ← hx, et, ef2]
  simp only [sx_let]
  by_cases cn : neg = 0
  · rw [if_pos cn]
    have hz : nI (2 * f) + (0 : Int32) = nI x := by rw [if_pos cn] at hx; rw [hx, i0, nI_add]
    rw [gd_nI (by omega) (by decide), eft]
    simp only [Option.bind_some, ct1, sP, cP, eP1, cP1, esub, csub, hz, ct, eL]
    rw [gd_in hcond, gd_nI (by omega) (by decide), gd_nI (by omega) (by decide), (hso t ht).1]
    simp only [e1, efo, Option.bind_some]
    by_cases c : gs.getD t 9 = 1
    · rw [if_pos c, (hso t ht).2 (by omega), nI_clamp (by have := rk_lt ht; rw [c] at this; omega)]
      have hr8 : rk gs t < 8 := by have := rk_lt ht; rw [c] at this; omega
      rw [gd_nI (by omega) (by decide), gd_nI hr8 (by decide)]
      refine ⟨_, rfl, rfl, ?_, hWF⟩
      dsimp only
      rw [← hli']
      refine hRC _ fun g hg hg1 => ?_
      rw [upd_eq, fOf_app]
      by_cases e : g = t
      · subst e
        rw [if_pos rfl, if_pos rfl, h1 hg1]
        rfl
      · rw [if_neg (fun q => e (rk_inj hg ht (by rw [hg1, c]) q)), if_neg (fun q => e q.symm)]
        exact hnl g hg hg1
    · rw [if_neg c]
      refine ⟨_, rfl, rfl, ?_, hWF⟩
      dsimp only
      rw [← hli']
      refine hRC _ fun g hg hg1 => ?_
      rw [fOf_app, if_neg (fun q => c (by rw [q]; exact hg1))]
      exact hnl g hg hg1
  · rw [if_neg cn]
    have hz : nI (2 * f) + (1 : Int32) = nI x := by rw [if_neg cn] at hx; rw [hx, i1, nI_add]
    rw [gd_nI (by omega) (by decide), eft]
    simp only [Option.bind_some, ct1, sP, cP, eP1, cP1, esub, csub, hz, ct, eL]
    rw [gd_in hcond, gd_nI (by omega) (by decide), gd_nI (by omega) (by decide), (hso t ht).1]
    simp only [e1, efo, Option.bind_some]
    by_cases c : gs.getD t 9 = 1
    · rw [if_pos c, (hso t ht).2 (by omega), nI_clamp (by have := rk_lt ht; rw [c] at this; omega)]
      have hr8 : rk gs t < 8 := by have := rk_lt ht; rw [c] at this; omega
      rw [gd_nI (by omega) (by decide), gd_nI hr8 (by decide)]
      refine ⟨_, rfl, rfl, ?_, hWF⟩
      dsimp only
      rw [← hli']
      refine hRC _ fun g hg hg1 => ?_
      rw [upd_eq, fOf_app]
      by_cases e : g = t
      · subst e
        rw [if_pos rfl, if_pos rfl, h1 hg1]
        rfl
      · rw [if_neg (fun q => e (rk_inj hg ht (by rw [hg1, c]) q)), if_neg (fun q => e q.symm)]
        exact hnl g hg hg1
    · rw [if_neg c]
      refine ⟨_, rfl, rfl, ?_, hWF⟩
      dsimp only
      rw [← hli']
      refine hRC _ fun g hg hg1 => ?_
      rw [fOf_app, if_neg (fun q => c (by rw [q]; exact hg1))]
      exact hnl g hg hg1
end
section
/-! THE TABLE: what one word's 64 pairs come to -/
theorem nx_xor' (a b : Nat) (ha : a < 128) (hb : b < 2) : nI a ^^^ nI b = nI (a ^^^ b) := by
  have : ∀ a : Fin 128, ∀ b : Fin 2, nI a.val ^^^ nI b.val = nI (a.val ^^^ b.val) := by decide +kernel
  exact this ⟨a, ha⟩ ⟨b, hb⟩
theorem xor_lt {a b G : Nat} (ha : a < 2 * G) (hG : G ≤ 60) (hb : b < 2) : a ^^^ b < 2 * G := by
  have key : ∀ a : Fin 120, ∀ b : Fin 2, (a.val ^^^ b.val) / 2 = a.val / 2 := by decide +kernel
  have := key ⟨a, by omega⟩ ⟨b, hb⟩
  simp only at this
  omega
/-- the words of a gate: where all feeds are 1, where one is 0 -/
def andW (kn : Nat → Int64) (fl : Nat) (ls : List Nat) (a : Int64) : Int64 := ls.foldl (fun a l => a &&& kn (l ^^^ fl)) a
def orW (kn : Nat → Int64) (fl : Nat) (ls : List Nat) (a : Int64) : Int64 := ls.foldl (fun a l => a ||| kn (l ^^^ fl ^^^ 1)) a
theorem p_L26 {li : Nat → Int32} {kn : Nat → Int64} {fl S G : Nat} {ls : List Nat} (hfl : fl < 2) (hG : G ≤ 60) (hS : S + ls.length ≤ 240) (hls : ∀ l ∈ ls, l < 2 * G) (hli : ∀ j, j < ls.length → li (S + j) = nI (ls.getD j 0)) :
    ∀ (k n j : Nat) (a b : Int64), j ≤ ls.length → ls.length - j = k → k < n → L_Tab_learn_26 li kn (nI fl) (nI (S + ls.length)) n a b (nI (S + j)) = some (andW kn fl (ls.drop j) a, orW kn fl (ls.drop j) b) := by
  intro k
  induction k with
  | zero =>
    intro n j a b h1 h2 h3
    obtain ⟨n, rfl⟩ : ∃ z, n = z + 1 := ⟨n - 1, by omega⟩
    rw [L_Tab_learn_26, if_pos ((nI_leI (by omega) (by omega)).mpr (by omega)), List.drop_eq_nil_of_le (by omega)]
    rfl
  | succ k ih =>
    intro n j a b h1 h2 h3
    obtain ⟨n, rfl⟩ : ∃ z, n = z + 1 := ⟨n - 1, by omega⟩
    have hj : j < ls.length := by omega
    have hx : ls.getD j 0 = ls[j] := by simp [List.getD_eq_getElem?_getD, hj]
    have hl : ls[j] < 2 * G := hls _ (List.getElem_mem hj)
    have hl2 := xor_lt hl hG hfl
    have hl3 := xor_lt hl2 hG (show 1 < 2 by decide)
    rw [L_Tab_learn_26, if_neg (by rw [nI_leI (by omega) (by omega)]; omega), gd_nI (by omega) (by decide), nI_clamp (by omega), hli j hj, hx, nx_xor' _ _ (by omega) hfl, gd_nI (by omega) (by decide), i1, nx_xor' _ _ (by omega) (by decide), gd_nI (by omega) (by decide), nI_clamp (by omega), nI_clamp (by omega), ← i1, nI_1, Nat.add_assoc, ih n (j + 1) _ _ (by omega) (by omega) (by omega)]
    rw [List.drop_eq_getElem_cons hj]
    rfl
theorem lg_cmp0 (x y : Int64) : (lg_cmp x y = (0 : Int32)) ↔ x = y := by
  unfold lg_cmp
  by_cases h1 : y < x
  · rw [if_pos h1]
    exact ⟨fun h => absurd h (by decide), fun h => absurd h1 (by rw [h]; exact Int64.lt_irrefl)⟩
  · rw [if_neg h1]
    by_cases h2 : x = y
    · rw [if_pos h2]; exact ⟨fun _ => h2, fun _ => rfl⟩
    · rw [if_neg h2]
      exact ⟨fun h => absurd h (by decide), fun h => absurd h h2⟩
theorem gd_z0 {α : Type} {a : Option α} : gd (sx_zok (0 : Int32)) a = a := gd_in sx_z0
theorem gd_z1 {α : Type} {a : Option α} : gd (sx_zok (1 : Int32)) a = a := gd_in sx_z1
theorem p_learn {st li : Nat → Int32} {kn : Nat → Int64} {fl S G g : Nat} {ls : List Nat} (hfl : fl < 2) (hG : G ≤ 60) (hg : g < G) (hS : S + ls.length ≤ 240) (hls : ∀ l ∈ ls, l < 2 * G) (hli : ∀ j, j < ls.length → li (S + j) = nI (ls.getD j 0)) (hs : st g = nI S) (hs1 : st (g + 1) = nI (S + ls.length)) :
    m_Tab_learn st li kn (nI g) (nI fl) = some (if kn (2 * g + fl) = andW kn fl ls (-1) ∧ kn ((2 * g + fl) ^^^ 1) = orW kn fl ls 0 then 0 else 1, vp_updL (vp_updL kn (2 * g + fl) (andW kn fl ls (-1))) ((2 * g + fl) ^^^ 1) (orW kn fl ls 0)) := by
  have hL := p_L26 (li := li) (kn := kn) (fl := fl) (S := S) (G := G) (ls := ls) hfl hG hS hls hli ls.length fu 0 (-1) 0 (Nat.zero_le _) rfl (by rw [fu]; omega)
  rw [List.drop_zero, Nat.add_zero] at hL
  have h2 : nI g * (2 : Int32) + nI fl = nI (2 * g + fl) := by rw [i2, pk_mul, nI_add, Nat.mul_comm]
  have hx := xor_lt (a := 2 * g + fl) (G := G) (by omega) hG (show 1 < 2 by decide)
  rw [m_Tab_learn, nI_1, gd_nI (by omega) (by decide), gd_nI (by omega) (by decide), nI_clamp (by omega), nI_clamp (by omega), hs, hs1, hL, Option.bind_some, h2, gd_nI (by omega) (by decide), nI_clamp (by omega)]
  have hxx : nI (2 * g + fl) ^^^ (1 : Int32) = nI ((2 * g + fl) ^^^ 1) := by rw [i1]; exact nx_xor' _ _ (by omega) (by decide)
  have hcx : (nI ((2 * g + fl) ^^^ 1)).toNatClampNeg = (2 * g + fl) ^^^ 1 := nI_clamp (by omega)
  simp only [sx_let, lg_cmp0, hxx, hcx, gd_nI (show 2 * g + fl < 120 by omega) (by decide), gd_nI (show (2 * g + fl) ^^^ 1 < 120 by omega) (by decide), gd_z0, gd_z1]
  by_cases c1 : kn (2 * g + fl) = andW kn fl ls (-1)
  · by_cases c2 : kn ((2 * g + fl) ^^^ 1) = orW kn fl ls 0
    · rw [if_pos c1, if_pos c2, if_pos ⟨c1, c2⟩]
    · rw [if_pos c1, if_neg c2, if_neg (fun h => c2 h.2)]
  · rw [if_neg c1, if_neg (fun h => c1 h.1)]
end
section
theorem fOf_mem {fs : List (Nat × Nat)} {g l : Nat} (h : l ∈ fOf fs g) : (g, l) ∈ fs := by
  rw [fOf] at h
  obtain ⟨q, hq, e⟩ := List.mem_map.mp h
  have h2 := List.mem_filter.mp hq
  have e1 : q.1 = g := by simpa using h2.2
  rw [← e1, ← e]
  exact h2.1
def stepW (gs : List Nat) (fs : List (Nat × Nat)) (s : Int32 × (Nat → Int64)) (g : Nat) : Int32 × (Nat → Int64) :=
  if gs.getD g 9 = 2 then
    (if s.2 (2 * g + 0) = andW s.2 0 (fOf fs g) (-1) ∧ s.2 ((2 * g + 0) ^^^ 1) = orW s.2 0 (fOf fs g) 0 then s.1 else 1, vp_updL (vp_updL s.2 (2 * g + 0) (andW s.2 0 (fOf fs g) (-1))) ((2 * g + 0) ^^^ 1) (orW s.2 0 (fOf fs g) 0))
  else if gs.getD g 9 = 3 then
    (if s.2 (2 * g + 1) = andW s.2 1 (fOf fs g) (-1) ∧ s.2 ((2 * g + 1) ^^^ 1) = orW s.2 1 (fOf fs g) 0 then s.1 else 1, vp_updL (vp_updL s.2 (2 * g + 1) (andW s.2 1 (fOf fs g) (-1))) ((2 * g + 1) ^^^ 1) (orW s.2 1 (fOf fs g) 0))
  else s
def sweepW (gs : List Nat) (fs : List (Nat × Nat)) (s : Int32 × (Nat → Int64)) : Int32 × (Nat → Int64) := (List.range' 0 gs.length).foldl (stepW gs fs) s
section SW
variable {so ra st li nl ou : Nat → Int32} {gT iT lT oT : Int32} {gs : List Nat} {fs : List (Nat × Nat)} {os : List Nat}
theorem p_learnG (h : RC so ra st li nl ou gT iT lT oT gs fs os) (hw : WF gs fs os) {kn : Nat → Int64} {fl g : Nat} (hfl : fl < 2) (hg : g < gs.length) :
    m_Tab_learn st li kn (nI g) (nI fl) = some (if kn (2 * g + fl) = andW kn fl (fOf fs g) (-1) ∧ kn ((2 * g + fl) ^^^ 1) = orW kn fl (fOf fs g) 0 then 0 else 1, vp_updL (vp_updL kn (2 * g + fl) (andW kn fl (fOf fs g) (-1))) ((2 * g + fl) ^^^ 1) (orW kn fl (fOf fs g) 0)) := by
  obtain ⟨-, -, -, -, -, hst, hli, -, -⟩ := h
  obtain ⟨w1, -, -, -, w5, w6, -, -⟩ := hw
  have hb : Sf fs (g + 1) ≤ fs.length := by
    rw [← Sf_all (G := gs.length) (fun q hq => (w6 q hq).1)]
    exact Sf_mono (by omega)
  have e : Sf fs g + (fOf fs g).length = Sf fs (g + 1) := rfl
  exact p_learn (S := Sf fs g) hfl w1 hg (by omega) (fun l hl => (w6 _ (fOf_mem hl)).2.1) (hli g hg) (hst g (by omega)) (hst (g + 1) (by omega))
theorem p_L4 (h : RC so ra st li nl ou gT iT lT oT gs fs os) (hw : WF gs fs os) : ∀ (k n i : Nat) (x : Int32) (kn : Nat → Int64), i + k = gs.length → k < n → L_Tab_sweepOnce_4 so st li gT n x (nI i) kn = some ((List.range' i k).foldl (stepW gs fs) (x, kn)) := by
  have hG := hw.1
  have hgT : gT = nI gs.length := h.1
  intro k
  induction k with
  | zero =>
    intro n i x kn h1 h2
    obtain ⟨n, rfl⟩ : ∃ z, n = z + 1 := ⟨n - 1, by omega⟩
    rw [L_Tab_sweepOnce_4, hgT, if_pos ((nI_leI (by omega) (by omega)).mpr (by omega))]
    rfl
  | succ k ih =>
    intro n i x kn h1 h2
    obtain ⟨n, rfl⟩ : ∃ z, n = z + 1 := ⟨n - 1, by omega⟩
    have hi : i < gs.length := by omega
    have hs3 : gs.getD i 9 ≤ 3 := hw.2.2.2.1 _ (getD_mem hi)
    have e2 : (nI (gs.getD i 9) = (2 : Int32)) ↔ gs.getD i 9 = 2 := by rw [i2]; exact nI_eq (by omega) (by omega)
    have e3 : (nI (gs.getD i 9) = (3 : Int32)) ↔ gs.getD i 9 = 3 := by rw [i3]; exact nI_eq (by omega) (by omega)
    have L0 := p_learnG h hw (kn := kn) (fl := 0) (g := i) (by decide) hi
    have L1 := p_learnG h hw (kn := kn) (fl := 1) (g := i) (by decide) hi
    have i0' : nI 0 = (0 : Int32) := rfl
    have i1' : nI 1 = (1 : Int32) := rfl
    rw [i0'] at L0
    rw [i1'] at L1
    rw [List.range'_succ, List.foldl_cons, stepW]
    rw [L_Tab_sweepOnce_4, hgT, if_neg (by rw [nI_leI (by omega) (by omega)]; omega), gd_nI (by omega) (by decide), nI_clamp (by omega), (h.2.2.2.2.1 i hi).1, nI_1]
    rw [← hgT]
    simp only [e2, e3]
    by_cases c2 : gs.getD i 9 = 2
    · simp only [if_pos c2, L0, Option.bind_some]
      by_cases c : kn (2 * i + 0) = andW kn 0 (fOf fs i) (-1) ∧ kn ((2 * i + 0) ^^^ 1) = orW kn 0 (fOf fs i) 0
      · simp only [if_pos c, if_true]
        exact ih n (i + 1) x _ (by omega) (by omega)
      · simp only [if_neg c]
        rw [if_neg (by decide)]
        exact ih n (i + 1) 1 _ (by omega) (by omega)
    · by_cases c3 : gs.getD i 9 = 3
      · simp only [if_neg c2, if_pos c3, L1, Option.bind_some]
        by_cases c : kn (2 * i + 1) = andW kn 1 (fOf fs i) (-1) ∧ kn ((2 * i + 1) ^^^ 1) = orW kn 1 (fOf fs i) 0
        · simp only [if_pos c, if_true]
          exact ih n (i + 1) x _ (by omega) (by omega)
        · simp only [if_neg c]
          rw [if_neg (by decide)]
          exact ih n (i + 1) 1 _ (by omega) (by omega)
      · simp only [if_neg c2, if_neg c3]
        exact ih n (i + 1) x _ (by omega) (by omega)
end SW
end
section
def settleW (gs : List Nat) (fs : List (Nat × Nat)) : Nat → (Nat → Int64) → (Nat → Int64)
  | 0, kn => kn
  | k + 1, kn => if (sweepW gs fs (0, kn)).1 = 0 then (sweepW gs fs (0, kn)).2 else settleW gs fs k (sweepW gs fs (0, kn)).2
theorem stepW_flag {gs : List Nat} {fs : List (Nat × Nat)} (s : Int32 × (Nat → Int64)) (g : Nat) (h : s.1 = 0 ∨ s.1 = 1) : (stepW gs fs s g).1 = 0 ∨ (stepW gs fs s g).1 = 1 := by
  rw [stepW]
  split
  · dsimp only; split
    · exact h
    · exact Or.inr rfl
  · split
    · dsimp only; split
      · exact h
      · exact Or.inr rfl
    · exact h
theorem foldW_flag {gs : List Nat} {fs : List (Nat × Nat)} : ∀ (l : List Nat) (s : Int32 × (Nat → Int64)), (s.1 = 0 ∨ s.1 = 1) → ((l.foldl (stepW gs fs) s).1 = 0 ∨ (l.foldl (stepW gs fs) s).1 = 1)
  | [], _, h => h
  | g :: l, s, h => by rw [List.foldl_cons]; exact foldW_flag l _ (stepW_flag s g h)
section SW
variable {so ra st li nl ou : Nat → Int32} {gT iT lT oT : Int32} {gs : List Nat} {fs : List (Nat × Nat)} {os : List Nat}
theorem p_sweepOnce (h : RC so ra st li nl ou gT iT lT oT gs fs os) (hw : WF gs fs os) (kn : Nat → Int64) : m_Tab_sweepOnce so st li gT kn = some (sweepW gs fs (0, kn)) := by
  have hG := hw.1
  have e : L_Tab_sweepOnce_4 so st li gT fu (0 : Int32) (0 : Int32) kn = some (sweepW gs fs (0, kn)) := p_L4 h hw gs.length fu 0 0 kn (by omega) (by rw [fu]; omega)
  rw [m_Tab_sweepOnce, e, Option.bind_some]
  have hz : sx_zok (sweepW gs fs (0, kn)).1 := by
    rcases foldW_flag (gs := gs) (fs := fs) (List.range' 0 gs.length) (0, kn) (Or.inl rfl) with q | q
    · rw [sweepW, q]; exact sx_z0
    · rw [sweepW, q]; exact sx_z1
  rw [gd_in hz]
theorem p_settleL (h : RC so ra st li nl ou gT iT lT oT gs fs os) (hw : WF gs fs os) : ∀ (k n i : Nat) (kn : Nat → Int64), i + k = gs.length → k < n → ∃ r, L_Tab_settle_2 so st li gT n (nI i) kn = some r ∧ Sum.elim (fun v => some v) (fun v => some v) r = some (settleW gs fs k kn) := by
  have hG := hw.1
  have hgT : gT = nI gs.length := h.1
  intro k
  induction k with
  | zero =>
    intro n i kn h1 h2
    obtain ⟨n, rfl⟩ : ∃ z, n = z + 1 := ⟨n - 1, by omega⟩
    rw [L_Tab_settle_2, hgT, if_pos ((nI_leI (by omega) (by omega)).mpr (by omega))]
    exact ⟨_, rfl, rfl⟩
  | succ k ih =>
    intro n i kn h1 h2
    obtain ⟨n, rfl⟩ : ∃ z, n = z + 1 := ⟨n - 1, by omega⟩
    rw [L_Tab_settle_2, if_neg (by rw [hgT, nI_leI (by omega) (by omega)]; omega), p_sweepOnce h hw, Option.bind_some, settleW, nI_1]
    by_cases c : (sweepW gs fs (0, kn)).1 = 0
    · rw [if_pos c, if_pos c]
      exact ⟨_, rfl, rfl⟩
    · rw [if_neg c, if_neg c]
      exact ih n (i + 1) _ (by omega) (by omega)
theorem p_settle (h : RC so ra st li nl ou gT iT lT oT gs fs os) (hw : WF gs fs os) (kn : Nat → Int64) : m_Tab_settle so st li gT kn = some (settleW gs fs gs.length kn) := by
  obtain ⟨r, h1, h2⟩ := p_settleL h hw gs.length fu 0 kn (by omega) (by have := hw.1; rw [fu]; omega)
  have e0 : nI 0 = (0 : Int32) := rfl
  rw [e0] at h1
  rw [m_Tab_settle, h1, Option.bind_some]
  exact h2
end SW
/-- the word of latch r in word w -/
def LBw (r w : Nat) : Int64 := if 2 ≤ r then (if w / 2 ^ (r - 2) % 2 = 1 then -1 else 0) else sx_LW r
theorem p_latchBits {r w : Nat} (hr : r < 8) (hw : w < 64) : m_Tab_latchBits (nI r) (nI w) = some (LBw r w) := by
  rw [m_Tab_latchBits, LBw]
  have e2 : ((2 : Int32) ≤ nI r) ↔ 2 ≤ r := by rw [i2]; exact nI_leI (by omega) (by omega)
  simp only [e2]
  by_cases c : 2 ≤ r
  · rw [if_pos c, if_pos c]
    have key : ∀ r : Fin 8, ∀ w : Fin 64, 2 ≤ r.val → ((nI w.val >>> ((nI r.val - (2 : Int32)) &&& 31)) &&& (1 : Int32) = (1 : Int32) ↔ w.val / 2 ^ (r.val - 2) % 2 = 1) := by decide +kernel
    have k := key ⟨r, hr⟩ ⟨w, hw⟩ c
    simp only at k
    simp only [k]
    split <;> rfl
  · rw [if_neg c, if_neg c, gd_nI (by omega) (by decide), nI_clamp (by omega)]
end
section
def begW (gs : List Nat) (w : Nat) (kn : Nat → Int64) (g : Nat) : Nat → Int64 :=
  if gs.getD g 9 = 0 then vp_updL (vp_updL kn (2 * g) (sx_IW (rk gs g))) (2 * g + 1) (sx_IW (rk gs g) ^^^ (-1))
  else if gs.getD g 9 = 1 then vp_updL (vp_updL kn (2 * g) (LBw (rk gs g) w)) (2 * g + 1) (LBw (rk gs g) w ^^^ (-1))
  else vp_updL (vp_updL kn (2 * g) 0) (2 * g + 1) 0
def kpW (kn : Nat → Int64) (w : Nat) (s : Int64 × (Nat → Int64)) (g : Nat) : Int64 × (Nat → Int64) := (s.1 &&& (kn (2 * g) ||| kn (2 * g + 1)), vp_updL s.2 (g * 64 + w) (kn (2 * g)))
theorem n2 (g : Nat) : nI g * (2 : Int32) = nI (2 * g) := by rw [i2, pk_mul, Nat.mul_comm]
theorem p_set {kn : Nat → Int64} {g : Nat} {x : Int64} (hg : g < 60) : m_Tab_set kn (nI g) x = some (vp_updL (vp_updL kn (2 * g) x) (2 * g + 1) (x ^^^ (-1))) := by
  rw [m_Tab_set, n2, nI_1, gd_nI (by omega) (by decide), gd_nI (by omega) (by decide), nI_clamp (by omega), nI_clamp (by omega)]
section SW
variable {so ra st li nl ou : Nat → Int32} {gT iT lT oT : Int32} {gs : List Nat} {fs : List (Nat × Nat)} {os : List Nat}
theorem p_beginL (h : RC so ra st li nl ou gT iT lT oT gs fs os) (hw : WF gs fs os) {w : Nat} (hw64 : w < 64) : ∀ (k n i : Nat) (kn : Nat → Int64), i + k = gs.length → k < n → L_Tab_begin_2 so ra gT (nI w) n (nI i) kn = some ((List.range' i k).foldl (begW gs w) kn) := by
  have hG := hw.1
  have hgT : gT = nI gs.length := h.1
  intro k
  induction k with
  | zero =>
    intro n i kn h1 h2
    obtain ⟨n, rfl⟩ : ∃ z, n = z + 1 := ⟨n - 1, by omega⟩
    rw [L_Tab_begin_2, hgT, if_pos ((nI_leI (by omega) (by omega)).mpr (by omega))]
    rfl
  | succ k ih =>
    intro n i kn h1 h2
    obtain ⟨n, rfl⟩ : ∃ z, n = z + 1 := ⟨n - 1, by omega⟩
    have hi : i < gs.length := by omega
    have hs3 : gs.getD i 9 ≤ 3 := hw.2.2.2.1 _ (getD_mem hi)
    have e0 : (nI (gs.getD i 9) = (0 : Int32)) ↔ gs.getD i 9 = 0 := by rw [i0]; exact nI_eq (by omega) (by omega)
    have e1 : (nI (gs.getD i 9) = (1 : Int32)) ↔ gs.getD i 9 = 1 := by rw [i1]; exact nI_eq (by omega) (by omega)
    obtain ⟨s1, s2⟩ := h.2.2.2.2.1 i hi
    have hrk := rk_lt hi
    rw [List.range'_succ, List.foldl_cons, begW]
    rw [L_Tab_begin_2, if_neg (by rw [hgT, nI_leI (by omega) (by omega)]; omega), gd_nI (by omega) (by decide), nI_clamp (by omega), s1, nI_1]
    simp only [e0, e1]
    by_cases c0 : gs.getD i 9 = 0
    · rw [c0] at hrk
      have hr4 : rk gs i < 4 := by have := hw.2.1; omega
      rw [if_pos c0, if_pos c0, gd_nI (by omega) (by decide), s2 (by omega), gd_nI hr4 (by decide), nI_clamp (by omega), p_set (by omega), Option.bind_some]
      exact ih n (i + 1) _ (by omega) (by omega)
    · by_cases c1 : gs.getD i 9 = 1
      · rw [c1] at hrk
        have hr8 : rk gs i < 8 := by have := hw.2.2.1; omega
        rw [if_neg c0, if_neg c0, if_pos c1, if_pos c1, gd_nI (by omega) (by decide), s2 (by omega), p_latchBits hr8 hw64, Option.bind_some, p_set (by omega), Option.bind_some]
        exact ih n (i + 1) _ (by omega) (by omega)
      · rw [if_neg c0, if_neg c0, if_neg c1, if_neg c1, n2, nI_1, gd_nI (by omega) (by decide), gd_nI (by omega) (by decide), nI_clamp (by omega), nI_clamp (by omega)]
        exact ih n (i + 1) _ (by omega) (by omega)
theorem p_begin (h : RC so ra st li nl ou gT iT lT oT gs fs os) (hw : WF gs fs os) {w : Nat} (hw64 : w < 64) (kn : Nat → Int64) : m_Tab_begin so ra gT kn (nI w) = some ((List.range' 0 gs.length).foldl (begW gs w) kn) := by
  have e : L_Tab_begin_2 so ra gT (nI w) fu (0 : Int32) kn = some _ := p_beginL h hw hw64 gs.length fu 0 kn (by omega) (by have := hw.1; rw [fu]; omega)
  rw [m_Tab_begin, e]
  rfl
theorem p_keepL (h : RC so ra st li nl ou gT iT lT oT gs fs os) (hw : WF gs fs os) {w : Nat} (hw64 : w < 64) {kn : Nat → Int64} : ∀ (k n i : Nat) (a : Int64) (va : Nat → Int64), i + k = gs.length → k < n → L_Tab_keep_7 gT kn (nI w) n a (nI i) va = some ((List.range' i k).foldl (kpW kn w) (a, va)) := by
  have hG := hw.1
  have hgT : gT = nI gs.length := h.1
  intro k
  induction k with
  | zero =>
    intro n i a va h1 h2
    obtain ⟨n, rfl⟩ : ∃ z, n = z + 1 := ⟨n - 1, by omega⟩
    rw [L_Tab_keep_7, hgT, if_pos ((nI_leI (by omega) (by omega)).mpr (by omega))]
    rfl
  | succ k ih =>
    intro n i a va h1 h2
    obtain ⟨n, rfl⟩ : ∃ z, n = z + 1 := ⟨n - 1, by omega⟩
    have e64 : nI i * (64 : Int32) + nI w = nI (i * 64 + w) := by rw [i64, pk_mul, nI_add]
    rw [List.range'_succ, List.foldl_cons, kpW]
    rw [L_Tab_keep_7, if_neg (by rw [hgT, nI_leI (by omega) (by omega)]; omega), n2, nI_1, gd_nI (by omega) (by decide), gd_nI (by omega) (by decide), gd_nI (by omega) (by decide), e64, gd_nI (by omega) (by decide), nI_clamp (by omega), nI_clamp (by omega), nI_clamp (by omega), nI_1]
    exact ih n (i + 1) _ _ (by omega) (by omega)
theorem p_keep (h : RC so ra st li nl ou gT iT lT oT gs fs os) (hw : WF gs fs os) {w : Nat} (hw64 : w < 64) (kn se va : Nat → Int64) : m_Tab_keep gT kn se va (nI w) = some (vp_updL se w ((List.range' 0 gs.length).foldl (kpW kn w) (-1, va)).1, ((List.range' 0 gs.length).foldl (kpW kn w) (-1, va)).2) := by
  have e : L_Tab_keep_7 gT kn (nI w) fu (-1 : Int64) (0 : Int32) va = some _ := p_keepL h hw hw64 gs.length fu 0 (-1) va (by omega) (by have := hw.1; rw [fu]; omega)
  rw [m_Tab_keep, e, Option.bind_some, gd_nI hw64 (by decide), nI_clamp (by omega)]
end SW
end
section
/-- bit b of a word -/
def bL (x : Int64) (b : Nat) : Bool := x.toBitVec.getLsbD b
theorem sh_bits {v : Int64} {b : Nat} (hb : b < 64) : ((v.toUInt64 >>> ((nI b).toInt64.toUInt64 &&& Int64.toUInt64 63)).toInt64).toBitVec = v.toBitVec >>> b := by
  have hs : ((nI b).toInt64.toUInt64 &&& Int64.toUInt64 63).toNat = b := by
    have key : ∀ b : Fin 64, ((nI b.val).toInt64.toUInt64 &&& Int64.toUInt64 63).toNat = b.val := by decide +kernel
    exact key ⟨b, hb⟩
  apply BitVec.eq_of_toNat_eq
  show (v.toUInt64 >>> _).toNat = _
  rw [UInt64.toNat_shiftRight, hs, Nat.mod_eq_of_lt hb, BitVec.toNat_ushiftRight]
  rfl
theorem sh_and1 {v : Int64} {b : Nat} (hb : b < 64) : (((v.toUInt64 >>> ((nI b).toInt64.toUInt64 &&& Int64.toUInt64 63)).toInt64) &&& (1 : Int64) = 0) ↔ bL v b = false := by
  rw [← Int64.toBitVec_inj, Int64.toBitVec_and, sh_bits hb]
  show v.toBitVec >>> b &&& 1#64 = 0#64 ↔ _
  rw [bL]
  constructor
  · intro h
    have t := congrArg (fun x => x.getLsbD 0) h
    simpa using t
  · intro h
    apply BitVec.eq_of_getLsbD_eq
    intro i hi
    rw [BitVec.getLsbD_and, BitVec.getLsbD_ushiftRight]
    by_cases c : i = 0
    · subst c; simp [h]
    · have : (1#64).getLsbD i = false := by
        rw [BitVec.getLsbD_one]; simp [c]
      rw [this]; simp
theorem sh_par {v : Int64} {b l : Nat} (hb : b < 64) (hl : l < 128) : ((((v.toUInt64 >>> ((nI b).toInt64.toUInt64 &&& Int64.toUInt64 63)).toInt64).toInt32) ^^^ nI l) &&& (1 : Int32) = nI (if bL v b = decide (l % 2 = 1) then 0 else 1) := by
  have hp : ∀ x : Int32, x &&& (1 : Int32) = nI (x.toBitVec.toNat % 2 ^ 1) := fun x => pk_and x 1 (by decide)
  rw [hp]
  congr 1
  have e1 : ((((v.toUInt64 >>> ((nI b).toInt64.toUInt64 &&& Int64.toUInt64 63)).toInt64).toInt32) ^^^ nI l).toBitVec.getLsbD 0 = ((bL v b) ^^ decide (l % 2 = 1)) := by
    rw [Int32.toBitVec_xor, BitVec.getLsbD_xor]
    have a1 : ((v.toUInt64 >>> ((nI b).toInt64.toUInt64 &&& Int64.toUInt64 63)).toInt64).toInt32.toBitVec.getLsbD 0 = bL v b := by
      have : ((v.toUInt64 >>> ((nI b).toInt64.toUInt64 &&& Int64.toUInt64 63)).toInt64).toInt32.toBitVec = (((v.toUInt64 >>> ((nI b).toInt64.toUInt64 &&& Int64.toUInt64 63)).toInt64).toBitVec).signExtend 32 := rfl
      rw [this, sh_bits hb, BitVec.getLsbD_signExtend]
      simp [bL]
    have a2 : (nI l).toBitVec.getLsbD 0 = decide (l % 2 = 1) := by
      have key : ∀ l : Fin 128, (nI l.val).toBitVec.getLsbD 0 = decide (l.val % 2 = 1) := by decide +kernel
      exact key ⟨l, hl⟩
    rw [a1, a2]
  generalize ((((v.toUInt64 >>> ((nI b).toInt64.toUInt64 &&& Int64.toUInt64 63)).toInt64).toInt32) ^^^ nI l).toBitVec = z at e1
  have e2 : z.toNat % 2 ^ 1 = if z.getLsbD 0 then 1 else 0 := by
    rw [BitVec.getLsbD, Nat.testBit_zero]
    have : z.toNat % 2 < 2 := Nat.mod_lt _ (by decide)
    by_cases c : z.toNat % 2 = 1
    · simp [c]
    · have : z.toNat % 2 = 0 := by omega
      simp [this]
  rw [e2, e1]
  cases bL v b <;> cases decide (l % 2 = 1) <;> rfl
theorem p_wordOf {s : Nat} (h : s < 256) : m_Exp_wordOf (nI s) = some (nI (s / 4)) := by
  have key : ∀ s : Fin 256, nI s.val >>> ((2 : Int32) &&& 31) = nI (s.val / 4) := by decide +kernel
  rw [m_Exp_wordOf, key ⟨s, h⟩]
theorem p_shiftOf {s : Nat} (h : s < 256) : m_Exp_shiftOf (nI s) = some (nI (s % 4 * 16)) := by
  have key : ∀ s : Fin 256, (nI s.val &&& (3 : Int32)) <<< ((4 : Int32) &&& 31) = nI (s.val % 4 * 16) := by decide +kernel
  rw [m_Exp_shiftOf, key ⟨s, h⟩]
end
section
/-- the next state's number out of the first k latches; nv: the latches' literals -/
def nxt (va : Nat → Int64) (nv : Nat → Nat) (w b : Nat) : Nat → Nat
  | 0 => 0
  | k + 1 => nxt va nv w b k + (if bL (va (nv k / 2 * 64 + w)) b = decide (nv k % 2 = 1) then 0 else 1) * 2 ^ k
theorem nxt_lt {va : Nat → Int64} {nv : Nat → Nat} {w b : Nat} : ∀ k, nxt va nv w b k < 2 ^ k
  | 0 => by simp [nxt]
  | k + 1 => by
    have := nxt_lt (va := va) (nv := nv) (w := w) (b := b) k
    rw [nxt, Nat.pow_succ]
    split <;> omega
theorem or_shl {X k z : Nat} (hk : k < 8) (hX : X < 2 ^ k) (hz : z < 2) : nI X ||| (nI z <<< (nI k &&& 31)) = nI (X + z * 2 ^ k) := by
  have key : ∀ k : Fin 8, ∀ X : Fin 128, ∀ z : Fin 2, X.val < 2 ^ k.val → nI X.val ||| (nI z.val <<< (nI k.val &&& 31)) = nI (X.val + z.val * 2 ^ k.val) := by decide +kernel
  have h128 : 2 ^ k ≤ 2 ^ 7 := Nat.pow_le_pow_right (by decide) (by omega)
  exact key ⟨k, hk⟩ ⟨X, by omega⟩ ⟨z, hz⟩ hX
theorem p_findL {nl : Nat → Int32} {va : Nat → Int64} {nv : Nat → Nat} {K w b : Nat} (hK : K ≤ 8) (hw : w < 64) (hb : b < 64) (hnl : ∀ k, k < K → nl k = nI (nv k) ∧ nv k < 120) :
    ∀ (m n i : Nat), i + m = K → m < n → L_Tab_findNext_39 nl (nI K) va (nI w) (nI b) n (nI (nxt va nv w b i)) (nI i) = some (nI (nxt va nv w b K)) := by
  intro m
  induction m with
  | zero =>
    intro n i h1 h2
    obtain ⟨n, rfl⟩ : ∃ z, n = z + 1 := ⟨n - 1, by omega⟩
    have : i = K := by omega
    subst this
    rw [L_Tab_findNext_39, if_pos ((nI_leI (by omega) (by omega)).mpr (Nat.le_refl _))]
  | succ m ih =>
    intro n i h1 h2
    obtain ⟨n, rfl⟩ : ∃ z, n = z + 1 := ⟨n - 1, by omega⟩
    obtain ⟨e1, e2⟩ := hnl i (by omega)
    have hs : nI (nv i) >>> ((1 : Int32) &&& 31) = nI (nv i / 2) := by
      have key : ∀ l : Fin 128, nI l.val >>> ((1 : Int32) &&& 31) = nI (l.val / 2) := by decide +kernel
      exact key ⟨nv i, by omega⟩
    have e64 : nI (nv i / 2) * (64 : Int32) + nI w = nI (nv i / 2 * 64 + w) := by rw [i64, pk_mul, nI_add]
    rw [L_Tab_findNext_39, if_neg (by rw [nI_leI (by omega) (by omega)]; omega), gd_nI (by omega) (by decide), nI_clamp (by omega), e1, hs, e64, gd_nI (by omega) (by decide), nI_clamp (by omega), sh_par hb (by omega), or_shl (by omega) (nxt_lt i) (by split <;> decide), nI_1]
    exact ih n (i + 1) (by omega) (by omega)
theorem p_findNext {nl : Nat → Int32} {se va : Nat → Int64} {nv : Nat → Nat} {K s c : Nat} (hK : K ≤ 8) (hs : s < 256) (hc : c < 16) (hnl : ∀ k, k < K → nl k = nI (nv k) ∧ nv k < 120) :
    m_Tab_findNext nl (nI K) se va (nI s) (nI c) = some (if bL (se (s / 4)) (s % 4 * 16 + c) = false then -1 else nI (nxt va nv (s / 4) (s % 4 * 16 + c) K)) := by
  have hL : L_Tab_findNext_39 nl (nI K) va (nI (s / 4)) (nI (s % 4 * 16 + c)) fu (0 : Int32) (0 : Int32) = _ := p_findL hK (by omega) (by omega) hnl K fu 0 (by omega) (by rw [fu]; omega)
  rw [m_Tab_findNext, p_wordOf hs, Option.bind_some, p_shiftOf hs, Option.bind_some, gd_nI (by omega) (by decide), nI_clamp (by omega), nI_add, hL]
  simp only [lg_cmp0, sh_and1 (show s % 4 * 16 + c < 64 by omega)]
  split <;> rfl
end
section
/-! what lies beyond the net's literals doesn't matter -/
def agr (n : Nat) (a b : Nat → Int64) : Prop := ∀ l, l < n → a l = b l
theorem agr_rf {n : Nat} {a : Nat → Int64} : agr n a a := fun _ _ => rfl
theorem agr_up {n k : Nat} {a b : Nat → Int64} {x : Int64} (h : agr n a b) : agr n (vp_updL a k x) (vp_updL b k x) := by
  intro l hl
  rw [updL_eq, updL_eq]
  split
  · rfl
  · exact h l hl
theorem andW_agr {G fl : Nat} {a b : Nat → Int64} (h : agr (2 * G) a b) (hG : G ≤ 60) (hfl : fl < 2) : ∀ (ls : List Nat) (x : Int64), (∀ l ∈ ls, l < 2 * G) → andW a fl ls x = andW b fl ls x
  | [], _, _ => rfl
  | l :: ls, x, hl => by
    rw [andW, andW, List.foldl_cons, List.foldl_cons, h _ (xor_lt (hl l List.mem_cons_self) hG hfl)]
    exact andW_agr h hG hfl ls _ fun z hz => hl z (List.mem_cons_of_mem _ hz)
theorem orW_agr {G fl : Nat} {a b : Nat → Int64} (h : agr (2 * G) a b) (hG : G ≤ 60) (hfl : fl < 2) : ∀ (ls : List Nat) (x : Int64), (∀ l ∈ ls, l < 2 * G) → orW a fl ls x = orW b fl ls x
  | [], _, _ => rfl
  | l :: ls, x, hl => by
    rw [orW, orW, List.foldl_cons, List.foldl_cons, h _ (xor_lt (xor_lt (hl l List.mem_cons_self) hG hfl) hG (by decide))]
    exact orW_agr h hG hfl ls _ fun z hz => hl z (List.mem_cons_of_mem _ hz)
section AG
variable {gs : List Nat} {fs : List (Nat × Nat)} {os : List Nat}
theorem stepW_agr (hw : WF gs fs os) {a b : Nat → Int64} {x : Int32} {g : Nat} (hg : g < gs.length) (h : agr (2 * gs.length) a b) : (stepW gs fs (x, a) g).1 = (stepW gs fs (x, b) g).1 ∧ agr (2 * gs.length) (stepW gs fs (x, a) g).2 (stepW gs fs (x, b) g).2 := by
  have hl : ∀ l ∈ fOf fs g, l < 2 * gs.length := fun l hl => (hw.2.2.2.2.2.1 _ (fOf_mem hl)).2.1
  have e : ∀ fl, fl < 2 → andW a fl (fOf fs g) (-1) = andW b fl (fOf fs g) (-1) ∧ orW a fl (fOf fs g) 0 = orW b fl (fOf fs g) 0 ∧ a (2 * g + fl) = b (2 * g + fl) ∧ a ((2 * g + fl) ^^^ 1) = b ((2 * g + fl) ^^^ 1) := fun fl hfl =>
    ⟨andW_agr h hw.1 hfl _ _ hl, orW_agr h hw.1 hfl _ _ hl, h _ (by omega), h _ (xor_lt (by omega) hw.1 (by decide))⟩
  rw [stepW, stepW]
  by_cases c2 : gs.getD g 9 = 2
  · obtain ⟨e1, e2, e3, e4⟩ := e 0 (by decide)
    simp only [if_pos c2, e1, e2, e3, e4]
    exact ⟨trivial, agr_up (agr_up h)⟩
  · by_cases c3 : gs.getD g 9 = 3
    · obtain ⟨e1, e2, e3, e4⟩ := e 1 (by decide)
      simp only [if_neg c2, if_pos c3, e1, e2, e3, e4]
      exact ⟨trivial, agr_up (agr_up h)⟩
    · simp only [if_neg c2, if_neg c3]
      exact ⟨trivial, h⟩
theorem foldW_agr (hw : WF gs fs os) : ∀ (l : List Nat) (x : Int32) (a b : Nat → Int64), (∀ g ∈ l, g < gs.length) → agr (2 * gs.length) a b → (l.foldl (stepW gs fs) (x, a)).1 = (l.foldl (stepW gs fs) (x, b)).1 ∧ agr (2 * gs.length) (l.foldl (stepW gs fs) (x, a)).2 (l.foldl (stepW gs fs) (x, b)).2
  | [], _, _, _, _, h => ⟨rfl, h⟩
  | g :: l, x, a, b, hl, h => by
    rw [List.foldl_cons, List.foldl_cons]
    obtain ⟨h1, h2⟩ := stepW_agr hw (x := x) (hl g List.mem_cons_self) h
    obtain ⟨y, hy⟩ : ∃ y, y = stepW gs fs (x, b) g := ⟨_, rfl⟩
    have e1 : stepW gs fs (x, a) g = (y.1, (stepW gs fs (x, a) g).2) := by rw [hy, ← h1]
    have e2 : stepW gs fs (x, b) g = (y.1, (stepW gs fs (x, b) g).2) := by rw [hy]
    rw [e1, e2]
    exact foldW_agr hw l _ _ _ (fun z hz => hl z (List.mem_cons_of_mem _ hz)) h2
theorem sweepW_agr (hw : WF gs fs os) {a b : Nat → Int64} (h : agr (2 * gs.length) a b) : (sweepW gs fs (0, a)).1 = (sweepW gs fs (0, b)).1 ∧ agr (2 * gs.length) (sweepW gs fs (0, a)).2 (sweepW gs fs (0, b)).2 :=
  foldW_agr hw _ _ _ _ (fun g hg => by have := List.mem_range'_1.mp hg; omega) h
theorem settleW_agr (hw : WF gs fs os) : ∀ (k : Nat) (a b : Nat → Int64), agr (2 * gs.length) a b → agr (2 * gs.length) (settleW gs fs k a) (settleW gs fs k b)
  | 0, _, _, h => h
  | k + 1, a, b, h => by
    obtain ⟨h1, h2⟩ := sweepW_agr hw h
    rw [settleW, settleW, h1]
    split
    · exact h2
    · exact settleW_agr hw k _ _ h2
theorem begW_fold (w : Nat) : ∀ (k i : Nat) (a b : Nat → Int64), agr (2 * i) a b → agr (2 * (i + k)) ((List.range' i k).foldl (begW gs w) a) ((List.range' i k).foldl (begW gs w) b)
  | 0, _, _, _, h => h
  | k + 1, i, a, b, h => by
    rw [List.range'_succ, List.foldl_cons, List.foldl_cons, show i + (k + 1) = (i + 1) + k by omega]
    apply begW_fold w k (i + 1)
    have up2 : ∀ x y : Int64, agr (2 * (i + 1)) (vp_updL (vp_updL a (2 * i) x) (2 * i + 1) y) (vp_updL (vp_updL b (2 * i) x) (2 * i + 1) y) := by
      intro x y l hl
      rw [updL_eq, updL_eq, updL_eq, updL_eq]
      by_cases c : l = 2 * i + 1
      · rw [if_pos c, if_pos c]
      · rw [if_neg c, if_neg c]
        by_cases c2 : l = 2 * i
        · rw [if_pos c2, if_pos c2]
        · rw [if_neg c2, if_neg c2]
          exact h l (by omega)
    rw [begW, begW]
    split
    · exact up2 _ _
    · split
      · exact up2 _ _
      · exact up2 _ _
end AG
/-- the known words of word w, settled -/
def KN (gs : List Nat) (fs : List (Nat × Nat)) (w : Nat) : Nat → Int64 := settleW gs fs gs.length ((List.range' 0 gs.length).foldl (begW gs w) (fun _ => 0))
theorem KN_any {gs : List Nat} {fs : List (Nat × Nat)} {os : List Nat} (hw : WF gs fs os) (w : Nat) (kn : Nat → Int64) : agr (2 * gs.length) (settleW gs fs gs.length ((List.range' 0 gs.length).foldl (begW gs w) kn)) (KN gs fs w) := by
  refine settleW_agr hw _ _ _ ?_
  have := begW_fold (gs := gs) w gs.length 0 kn (fun _ => 0) (fun l hl => absurd hl (by omega))
  rw [Nat.zero_add] at this
  exact this
end
section
def SEof (kn : Nat → Int64) (G : Nat) : Int64 := (List.range' 0 G).foldl (fun a g => a &&& (kn (2 * g) ||| kn (2 * g + 1))) (-1)
def SE (gs : List Nat) (fs : List (Nat × Nat)) (w : Nat) : Int64 := SEof (KN gs fs w) gs.length
/-- the values of all gates in all words -/
def VA (gs : List Nat) (fs : List (Nat × Nat)) (i : Nat) : Int64 := KN gs fs (i % 64) (2 * (i / 64))
/-- the next state, or -1 -/
def NX (gs : List Nat) (fs : List (Nat × Nat)) (nv : Nat → Nat) (s c : Nat) : Int32 := if bL (SE gs fs (s / 4)) (s % 4 * 16 + c) = false then -1 else nI (nxt (VA gs fs) nv (s / 4) (s % 4 * 16 + c) (gs.count 1))
theorem kp_1 {kn : Nat → Int64} {w : Nat} : ∀ (l : List Nat) (a : Int64) (va : Nat → Int64), (l.foldl (kpW kn w) (a, va)).1 = l.foldl (fun a g => a &&& (kn (2 * g) ||| kn (2 * g + 1))) a
  | [], _, _ => rfl
  | g :: l, a, va => by rw [List.foldl_cons, List.foldl_cons, kpW]; exact kp_1 l _ _
theorem kp_agr {G : Nat} {a b : Nat → Int64} (h : agr (2 * G) a b) : ∀ (l : List Nat) (x : Int64), (∀ g ∈ l, g < G) → l.foldl (fun x g => x &&& (a (2 * g) ||| a (2 * g + 1))) x = l.foldl (fun x g => x &&& (b (2 * g) ||| b (2 * g + 1))) x
  | [], _, _ => rfl
  | g :: l, x, hl => by
    have hg := hl g List.mem_cons_self
    rw [List.foldl_cons, List.foldl_cons, h (2 * g) (by omega), h (2 * g + 1) (by omega)]
    exact kp_agr h l _ fun z hz => hl z (List.mem_cons_of_mem _ hz)
theorem kp_2 {kn : Nat → Int64} {w : Nat} : ∀ (k i : Nat) (a : Int64) (va : Nat → Int64), (∀ g, i ≤ g → g < i + k → ((List.range' i k).foldl (kpW kn w) (a, va)).2 (g * 64 + w) = kn (2 * g)) ∧ (∀ j, (∀ g, i ≤ g → g < i + k → j ≠ g * 64 + w) → ((List.range' i k).foldl (kpW kn w) (a, va)).2 j = va j)
  | 0, _, _, _ => ⟨fun g h1 h2 => absurd h2 (by omega), fun _ _ => rfl⟩
  | k + 1, i, a, va => by
    rw [List.range'_succ, List.foldl_cons, kpW]
    obtain ⟨h1, h2⟩ := kp_2 (kn := kn) (w := w) k (i + 1) (a &&& (kn (2 * i) ||| kn (2 * i + 1))) (vp_updL va (i * 64 + w) (kn (2 * i)))
    refine ⟨fun g g1 g2 => ?_, fun j hj => ?_⟩
    · rcases Nat.lt_or_ge i g with c | c
      · exact h1 g (by omega) (by omega)
      · have : g = i := by omega
        subst this
        rw [h2 _ (fun z z1 z2 => by omega), updL_eq, if_pos rfl]
    · rw [h2 j (fun g g1 g2 => hj g (by omega) (by omega)), updL_eq, if_neg (hj i (by omega) (by omega))]
theorem nxt_agr {va vb : Nat → Int64} {nv : Nat → Nat} {w b : Nat} : ∀ k, (∀ i, i < k → va (nv i / 2 * 64 + w) = vb (nv i / 2 * 64 + w)) → nxt va nv w b k = nxt vb nv w b k
  | 0, _ => rfl
  | k + 1, h => by rw [nxt, nxt, nxt_agr k (fun i hi => h i (by omega)), h k (by omega)]
section FI
variable {so ra st li nl ou : Nat → Int32} {gT iT lT oT : Int32} {gs : List Nat} {fs : List (Nat × Nat)} {os : List Nat}
theorem p_fillL (h : RC so ra st li nl ou gT iT lT oT gs fs os) (hw : WF gs fs os) {W : Nat} (hW : W ≤ 64) : ∀ (k n i : Nat) (kn se va : Nat → Int64), i + k = W → k < n → ∃ r, L_Tab_fill_7 so ra st li gT (nI W) n (nI i) kn se va = some r ∧ (∀ w, i ≤ w → w < W → r.2.1 w = SE gs fs w ∧ ∀ g, g < gs.length → r.2.2 (g * 64 + w) = KN gs fs w (2 * g)) ∧ (∀ w, w < i → r.2.1 w = se w ∧ ∀ g, g < gs.length → r.2.2 (g * 64 + w) = va (g * 64 + w)) := by
  intro k
  induction k with
  | zero =>
    intro n i kn se va h1 h2
    obtain ⟨n, rfl⟩ : ∃ z, n = z + 1 := ⟨n - 1, by omega⟩
    rw [L_Tab_fill_7, if_pos ((nI_leI (by omega) (by omega)).mpr (by omega))]
    exact ⟨_, rfl, fun w a b => absurd b (by omega), fun w _ => ⟨rfl, fun _ _ => rfl⟩⟩
  | succ k ih =>
    intro n i kn se va h1 h2
    obtain ⟨n, rfl⟩ : ∃ z, n = z + 1 := ⟨n - 1, by omega⟩
    have hi : i < 64 := by omega
    rw [L_Tab_fill_7, if_neg (by rw [nI_leI (by omega) (by omega)]; omega), p_begin h hw hi, Option.bind_some, p_settle h hw, Option.bind_some, p_keep h hw hi, Option.bind_some, nI_1]
    have hag := KN_any hw i kn
    generalize settleW gs fs gs.length ((List.range' 0 gs.length).foldl (begW gs i) kn) = kn1 at hag ⊢
    obtain ⟨q1, q2⟩ := kp_2 (kn := kn1) (w := i) gs.length 0 (-1) va
    have q0 : ((List.range' 0 gs.length).foldl (kpW kn1 i) (-1, va)).1 = SE gs fs i := by
      rw [kp_1, SE, SEof]
      exact kp_agr hag _ _ fun g hg => by have := List.mem_range'_1.mp hg; omega
    obtain ⟨r, r1, r2, r3⟩ := ih n (i + 1) kn1 (vp_updL se i ((List.range' 0 gs.length).foldl (kpW kn1 i) (-1, va)).1) ((List.range' 0 gs.length).foldl (kpW kn1 i) (-1, va)).2 (by omega) (by omega)
    refine ⟨r, r1, fun w a b => ?_, fun w a => ?_⟩
    · rcases Nat.lt_or_ge i w with c | c
      · exact r2 w (by omega) b
      · have : w = i := by omega
        subst this
        obtain ⟨z1, z2⟩ := r3 w (by omega)
        refine ⟨by rw [z1, updL_eq, if_pos rfl, q0], fun g hg => ?_⟩
        rw [z2 g hg, q1 g (Nat.zero_le _) (by omega), hag _ (by omega)]
    · obtain ⟨z1, z2⟩ := r3 w (by omega)
      refine ⟨by rw [z1, updL_eq, if_neg (by omega)], fun g hg => ?_⟩
      rw [z2 g hg, q2 _ (fun z _ z2 => by omega)]
end FI
end
section
theorem p_stateTotal {K : Nat} (h : K ≤ 8) : m_Net_stateTotal (nI K) = some (nI (2 ^ K)) := by
  have key : ∀ k : Fin 9, (1 : Int32) <<< (nI k.val &&& 31) = nI (2 ^ k.val) := by decide +kernel
  rw [m_Net_stateTotal, key ⟨K, by omega⟩]
theorem p_choiceTotal {I : Nat} (h : I ≤ 8) : m_Net_choiceTotal (nI I) = some (nI (2 ^ I)) := by
  have key : ∀ k : Fin 9, (1 : Int32) <<< (nI k.val &&& 31) = nI (2 ^ k.val) := by decide +kernel
  rw [m_Net_choiceTotal, key ⟨I, by omega⟩]
def wt (K : Nat) : Nat := (2 ^ K - 1) / 4 + 1
theorem pow8 {K : Nat} (h : K ≤ 8) : 1 ≤ 2 ^ K ∧ 2 ^ K ≤ 256 := ⟨Nat.one_le_two_pow, Nat.pow_le_pow_right (by decide) h⟩
theorem pow4 {K : Nat} (h : K ≤ 4) : 1 ≤ 2 ^ K ∧ 2 ^ K ≤ 16 := ⟨Nat.one_le_two_pow, Nat.pow_le_pow_right (by decide) h⟩
theorem wt_le {K : Nat} (h : K ≤ 8) : 1 ≤ wt K ∧ wt K ≤ 64 := by
  have := pow8 h
  rw [wt]; omega
theorem wt_of {K s : Nat} (h : s < 2 ^ K) : s / 4 < wt K := by rw [wt]; omega
theorem p_wordTotal {K : Nat} (h : K ≤ 8) : m_Net_wordTotal (nI K) = some (nI (wt K)) := by
  have hp := pow8 h
  rw [m_Net_wordTotal, p_stateTotal h, Option.bind_some, i1, pk_sub hp.1, p_wordOf (by omega), Option.bind_some, nI_add, wt]
section FI
variable {so ra st li nl ou : Nat → Int32} {gT iT lT oT : Int32} {gs : List Nat} {fs : List (Nat × Nat)} {os : List Nat} {nv : Nat → Nat}
theorem NX_of {se va : Nat → Int64} (hw : WF gs fs os) (hn : ∀ k, k < gs.count 1 → nv k < 2 * gs.length) (h1 : ∀ w, w < wt (gs.count 1) → se w = SE gs fs w ∧ ∀ g, g < gs.length → va (g * 64 + w) = KN gs fs w (2 * g)) {s c : Nat} (hs : s < 2 ^ gs.count 1) :
    (if bL (se (s / 4)) (s % 4 * 16 + c) = false then -1 else nI (nxt va nv (s / 4) (s % 4 * 16 + c) (gs.count 1))) = NX gs fs nv s c := by
  have hwd := wt_of hs
  have h64 := (wt_le hw.2.2.1).2
  obtain ⟨e1, e2⟩ := h1 _ hwd
  rw [NX, e1, nxt_agr (va := va) (vb := VA gs fs) (gs.count 1) (fun i hi => ?_)]
  have := hn i hi
  rw [e2 _ (by omega), VA]
  congr 1
  · congr 1; omega
  · omega
theorem p_fill58 {K I s : Nat} {se va : Nat → Int64} (hK : K ≤ 8) (hI : I ≤ 16) (hs : s < 256) (hnl : ∀ k, k < K → nl k = nI (nv k) ∧ nv k < 120) :
    ∀ (k n c : Nat) (ns : Nat → Int32), c + k = I → k < n → ∃ r, L_Tab_fill_58 nl (nI K) se va (nI I) (nI s) n (nI c) ns = some r ∧ (∀ d, c ≤ d → d < I → r (s * 16 + d) = if bL (se (s / 4)) (s % 4 * 16 + d) = false then -1 else nI (nxt va nv (s / 4) (s % 4 * 16 + d) K)) ∧ (∀ j, (∀ d, c ≤ d → d < I → j ≠ s * 16 + d) → r j = ns j) := by
  intro k
  induction k with
  | zero =>
    intro n c ns h1 h2
    obtain ⟨n, rfl⟩ : ∃ z, n = z + 1 := ⟨n - 1, by omega⟩
    rw [L_Tab_fill_58, if_pos ((nI_leI (by omega) (by omega)).mpr (by omega))]
    exact ⟨_, rfl, fun d a b => absurd b (by omega), fun _ _ => rfl⟩
  | succ k ih =>
    intro n c ns h1 h2
    obtain ⟨n, rfl⟩ : ∃ z, n = z + 1 := ⟨n - 1, by omega⟩
    have e16 : nI s * (16 : Int32) + nI c = nI (s * 16 + c) := by rw [i16, pk_mul, nI_add]
    rw [L_Tab_fill_58, if_neg (by rw [nI_leI (by omega) (by omega)]; omega), p_findNext hK hs (by omega) hnl, Option.bind_some, e16, gd_nI (by omega) (by decide), nI_clamp (by omega), nI_1]
    obtain ⟨r, r1, r2, r3⟩ := ih n (c + 1) (upd ns (s * 16 + c) (if bL (se (s / 4)) (s % 4 * 16 + c) = false then -1 else nI (nxt va nv (s / 4) (s % 4 * 16 + c) K))) (by omega) (by omega)
    refine ⟨r, r1, fun d a b => ?_, fun j hj => ?_⟩
    · rcases Nat.lt_or_ge c d with e | e
      · exact r2 d (by omega) b
      · have : d = c := by omega
        subst this
        rw [r3 _ (fun d' a' b' => by omega), upd_eq, if_pos rfl]
    · rw [r3 j (fun d' a' b' => hj d' (by omega) b'), upd_eq, if_neg (hj c (Nat.le_refl _) (by omega))]
theorem p_fill49 {K I S : Nat} {se va : Nat → Int64} (hK : K ≤ 8) (hI : I ≤ 16) (hS : S ≤ 256) (hnl : ∀ k, k < K → nl k = nI (nv k) ∧ nv k < 120) :
    ∀ (k n s : Nat) (ns : Nat → Int32), s + k = S → k < n → ∃ r, L_Tab_fill_49 nl (nI K) se va (nI S) (nI I) n (nI s) ns = some r ∧ (∀ q, s ≤ q → q < S → ∀ d, d < I → r (q * 16 + d) = if bL (se (q / 4)) (q % 4 * 16 + d) = false then -1 else nI (nxt va nv (q / 4) (q % 4 * 16 + d) K)) ∧ (∀ q, q < s → ∀ d, d < I → r (q * 16 + d) = ns (q * 16 + d)) := by
  intro k
  induction k with
  | zero =>
    intro n s ns h1 h2
    obtain ⟨n, rfl⟩ : ∃ z, n = z + 1 := ⟨n - 1, by omega⟩
    rw [L_Tab_fill_49, if_pos ((nI_leI (by omega) (by omega)).mpr (by omega))]
    exact ⟨_, rfl, fun d a b => absurd b (by omega), fun _ _ _ _ => rfl⟩
  | succ k ih =>
    intro n s ns h1 h2
    obtain ⟨n, rfl⟩ : ∃ z, n = z + 1 := ⟨n - 1, by omega⟩
    obtain ⟨r0, a1, a2, a3⟩ := p_fill58 (nl := nl) (se := se) (va := va) (s := s) hK hI (by omega) hnl I fu 0 ns (by omega) (by rw [fu]; omega)
    have a1' : L_Tab_fill_58 nl (nI K) se va (nI I) (nI s) fu (0 : Int32) ns = some r0 := a1
    rw [L_Tab_fill_49, if_neg (by rw [nI_leI (by omega) (by omega)]; omega), a1', Option.bind_some, nI_1]
    obtain ⟨r, r1, r2, r3⟩ := ih n (s + 1) r0 (by omega) (by omega)
    refine ⟨r, r1, fun q a b d hd => ?_, fun q a d hd => ?_⟩
    · rcases Nat.lt_or_ge s q with e | e
      · exact r2 q (by omega) b d hd
      · have : q = s := by omega
        subst this
        rw [r3 _ (by omega) d hd]
        exact a2 d (Nat.zero_le _) hd
    · rw [r3 q (by omega) d hd, a3 _ (fun d' _ b' => by omega)]
/-- what the table holds of the net -/
def TI (gs : List Nat) (fs : List (Nat × Nat)) (nv : Nat → Nat) (se va : Nat → Int64) (ns : Nat → Int32) : Prop :=
  (∀ w, w < wt (gs.count 1) → se w = SE gs fs w ∧ ∀ g, g < gs.length → va (g * 64 + w) = KN gs fs w (2 * g)) ∧ ∀ s, s < 2 ^ gs.count 1 → ∀ c, c < 2 ^ gs.count 0 → ns (s * 16 + c) = NX gs fs nv s c
theorem p_fill (h : RC so ra st li nl ou gT iT lT oT gs fs os) (hw : WF gs fs os) (hn : ∀ k, k < gs.count 1 → nl k = nI (nv k) ∧ nv k < 2 * gs.length) (kn se va : Nat → Int64) (ns : Nat → Int32) :
    ∃ v, m_Tab_fill so ra st li nl gT iT lT kn se va ns = some v ∧ TI gs fs nv v.2.1 v.2.2.1 v.2.2.2 := by
  have hK := hw.2.2.1
  have hI := hw.2.1
  have hG := hw.1
  have hpK := pow8 hK
  have hpI := pow4 hI
  have hW := wt_le hK
  obtain ⟨v1, e1, e2, -⟩ := p_fillL h hw hW.2 (wt (gs.count 1)) fu 0 kn se va (by omega) (by rw [fu]; omega)
  have hn' : ∀ k, k < gs.count 1 → nl k = nI (nv k) ∧ nv k < 120 := fun k hk => ⟨(hn k hk).1, by have := (hn k hk).2; omega⟩
  obtain ⟨v2, f1, f2, -⟩ := p_fill49 (nl := nl) (se := v1.2.1) (va := v1.2.2) hK hpI.2 hpK.2 hn' (2 ^ gs.count 1) fu 0 ns (by omega) (by rw [fu]; omega)
  have hiT : iT = nI (gs.count 0) := h.2.1
  have hlT : lT = nI (gs.count 1) := h.2.2.1
  have e1' : L_Tab_fill_7 so ra st li gT (nI (wt (gs.count 1))) fu (0 : Int32) kn se va = some v1 := e1
  have f1' : L_Tab_fill_49 nl (nI (gs.count 1)) v1.2.1 v1.2.2 (nI (2 ^ gs.count 1)) (nI (2 ^ gs.count 0)) fu (0 : Int32) ns = some v2 := f1
  rw [m_Tab_fill, hlT, hiT, p_wordTotal hK, Option.bind_some, e1', Option.bind_some, p_stateTotal hK, Option.bind_some, p_choiceTotal (by omega), Option.bind_some, f1', Option.bind_some]
  have e3 : ∀ w, w < wt (gs.count 1) → v1.2.1 w = SE gs fs w ∧ ∀ g, g < gs.length → v1.2.2 (g * 64 + w) = KN gs fs w (2 * g) := fun w hw' => e2 w (Nat.zero_le _) hw'
  refine ⟨_, rfl, e3, fun s hs c hc => ?_⟩
  dsimp only
  rw [f2 s (Nat.zero_le _) hs c hc]
  exact NX_of hw (fun k hk => (hn k hk).2) e3 hs
end FI
end
section
/-! THE WALK, as lists: the reached states in their order; distances, parents, steps; how many doubts; the first doubt -/
abbrev WA : Type := List Nat × (Nat → Nat) × (Nat → Nat) × (Nat → Nat) × Nat × Option (Nat × Nat)
def upN (f : Nat → Nat) (k x : Nat) : Nat → Nat := fun j => if j = k then x else f j
/-- a state is left by a choice -/
def stepA (nx : Nat → Nat → Option Nat) (s : Nat) (A : WA) (c : Nat) : WA :=
  match nx s c with
  | none => (A.1, A.2.1, A.2.2.1, A.2.2.2.1, A.2.2.2.2.1 + 1, match A.2.2.2.2.2 with
    | none => some (s, c)
    | some d => if A.2.1 s = A.2.1 d.1 ∧ s < d.1 then some (s, c) else some d)
  | some t => if t ∈ A.1 then A else (A.1 ++ [t], upN A.2.1 t (A.2.1 s + 1), upN A.2.2.1 t s, upN A.2.2.2.1 t c, A.2.2.2.2.1, A.2.2.2.2.2)
/-- the class's cells hold the walk -/
def RW (S : Nat) (di od pa sp : Nat → Int32) (re du dS dC : Int32) (A : WA) : Prop :=
  (∀ s, s < S → di s = if s ∈ A.1 then nI (A.2.1 s) else -1) ∧ (∀ i, i < A.1.length → od i = nI (A.1.getD i 0)) ∧
  (∀ s, s ∈ A.1 → A.2.1 s ≠ 0 → pa s = nI (A.2.2.1 s) ∧ sp s = nI (A.2.2.2.1 s)) ∧ re = nI A.1.length ∧ du = nI A.2.2.2.2.1 ∧
  (match A.2.2.2.2.2 with
    | none => dS = -1 ∧ dC = -1
    | some d => dS = nI d.1 ∧ dC = nI d.2)
/-- what holds of it -/
def IA (S : Nat) (A : WA) : Prop :=
  A.1.Nodup ∧ (∀ s, s ∈ A.1 → s < S ∧ A.2.1 s < A.1.length) ∧ (∀ s, s ∈ A.1 → A.2.1 s ≠ 0 → A.2.2.1 s ∈ A.1 ∧ A.2.1 (A.2.2.1 s) + 1 = A.2.1 s) ∧ (∀ d, A.2.2.2.2.2 = some d → d.1 ∈ A.1)
theorem nodup_le {S : Nat} {l : List Nat} (h : l.Nodup) (hl : ∀ s, s ∈ l → s < S) : l.length ≤ S := by
  have h1 : l ⊆ List.range S := fun s hs => List.mem_range.mpr (hl s hs)
  have h2 := List.Nodup.length_le_of_subset h h1
  rwa [List.length_range] at h2
theorem IA_step {S s c : Nat} {nx : Nat → Nat → Option Nat} {A : WA} (h : IA S A) (hs : s ∈ A.1) (hnx : ∀ t, nx s c = some t → t < S) : IA S (stepA nx s A c) ∧ s ∈ (stepA nx s A c).1 := by
  obtain ⟨h1, h2, h3, h4⟩ := h
  cases e : nx s c with
  | none =>
    rw [stepA, e]
    refine ⟨⟨h1, h2, h3, fun d hd => ?_⟩, hs⟩
    dsimp only at hd ⊢
    cases e2 : A.2.2.2.2.2 with
    | none => rw [e2] at hd; cases hd; exact hs
    | some d2 =>
      rw [e2] at hd
      dsimp only at hd
      split at hd
      · cases hd; exact hs
      · cases hd; exact h4 _ e2
  | some t =>
    rw [stepA, e]
    dsimp only
    by_cases c1 : t ∈ A.1
    · rw [if_pos c1]; exact ⟨⟨h1, h2, h3, h4⟩, hs⟩
    · rw [if_neg c1]
      have hst : s ≠ t := fun q => c1 (by rw [← q]; exact hs)
      refine ⟨⟨?_, ?_, ?_, ?_⟩, by dsimp only; exact List.mem_append_left _ hs⟩
      · dsimp only
        rw [List.nodup_append]
        exact ⟨h1, by simp, fun a ha b hb => by rw [List.mem_singleton.mp hb]; exact fun q => c1 (by rw [← q]; exact ha)⟩
      · intro q hq
        dsimp only at hq ⊢
        rw [List.length_append, List.length_singleton]
        rcases List.mem_append.mp hq with hq | hq
        · have := h2 q hq
          rw [upN, if_neg (fun z => c1 (by rw [← z]; exact hq))]
          omega
        · rw [List.mem_singleton.mp hq, upN, if_pos rfl]
          have := h2 s hs
          exact ⟨hnx t e, by omega⟩
      · intro q hq hq0
        dsimp only at hq hq0 ⊢
        rcases List.mem_append.mp hq with hq | hq
        · have hqt : q ≠ t := fun z => c1 (by rw [← z]; exact hq)
          rw [upN, if_neg hqt] at hq0
          rw [upN, upN, upN, if_neg hqt, if_neg hqt]
          obtain ⟨k1, k2⟩ := h3 q hq hq0
          rw [if_neg (fun z => c1 (by rw [← z]; exact k1))]
          exact ⟨List.mem_append_left _ k1, k2⟩
        · rw [List.mem_singleton.mp hq]
          rw [upN, upN, upN, if_pos rfl, if_pos rfl, if_neg hst]
          exact ⟨List.mem_append_left _ hs, rfl⟩
      · intro d hd
        dsimp only at hd ⊢
        exact List.mem_append_left _ (h4 d hd)
end
section
/-- NX as a number or none -/
def nxOf (ns : Nat → Int32) (s c : Nat) (o : Option Nat) : Prop := match o with
  | none => ns (s * 16 + c) = -1
  | some t => ns (s * 16 + c) = nI t
theorem RW_doubt {S s c : Nat} {di od pa sp : Nat → Int32} {re du dS dC : Int32} {A : WA} {nx : Nat → Nat → Option Nat} (hS : S ≤ 256) (h : RW S di od pa sp re du dS dC A) (hI : IA S A) (hs : s ∈ A.1) (hn : nx s c = none) :
    ∃ v, m_Wlk_noteDoubt di du dS dC (nI s) (nI c) = some v ∧ RW S di od pa sp re v.1 v.2.1 v.2.2 (stepA nx s A c) := by
  obtain ⟨r1, r2, r3, r4, r5, r6⟩ := h
  obtain ⟨g1, g2, g3, g4⟩ := hI
  have hsS := (g2 s hs).1
  have hds : di s = nI (A.2.1 s) := by rw [r1 s hsS, if_pos hs]
  have hlen := nodup_le g1 (fun q hq => (g2 q hq).1)
  have eA : stepA nx s A c = (A.1, A.2.1, A.2.2.1, A.2.2.2.1, A.2.2.2.2.1 + 1, match A.2.2.2.2.2 with
    | none => some (s, c)
    | some d => if A.2.1 s = A.2.1 d.1 ∧ s < d.1 then some (s, c) else some d) := by rw [stepA, hn]; rfl
  have hdu : du + (1 : Int32) = nI (A.2.2.2.2.1 + 1) := by rw [r5, nI_1]
  rw [m_Wlk_noteDoubt, eA]
  cases e : A.2.2.2.2.2 with
  | none =>
    rw [e] at r6
    rw [if_pos r6.1, hdu]
    exact ⟨_, rfl, r1, r2, r3, r4, rfl, rfl, rfl⟩
  | some d =>
    rw [e] at r6
    dsimp only at r6
    have hd := g4 d e
    have hdS := (g2 d.1 hd).1
    have hdd : di d.1 = nI (A.2.1 d.1) := by rw [r1 d.1 hdS, if_pos hd]
    rw [r6.1, if_neg (m1_ne (by omega)), gd_nI (by omega) (by decide), gd_nI (by omega) (by decide), nI_clamp (by omega), nI_clamp (by omega), hds, hdd, hdu]
    have q1 := g2 s hs
    have q2 := g2 d.1 hd
    simp only [nI_eq (show A.2.1 s < 2 ^ 31 by omega) (show A.2.1 d.1 < 2 ^ 31 by omega), nI_leI (show d.1 < 2 ^ 31 by omega) (show s < 2 ^ 31 by omega)]
    by_cases c1 : A.2.1 s = A.2.1 d.1
    · by_cases c2 : d.1 ≤ s
      · rw [if_pos c1, if_pos c2, if_neg (by omega)]
        exact ⟨_, rfl, r1, r2, r3, r4, rfl, rfl, r6.2⟩
      · rw [if_pos c1, if_neg c2, if_pos (by omega)]
        exact ⟨_, rfl, r1, r2, r3, r4, rfl, rfl, rfl⟩
    · rw [if_neg c1, if_neg (fun z => c1 z.1)]
      exact ⟨_, rfl, r1, r2, r3, r4, rfl, rfl, r6.2⟩
theorem RW_reach {S s c t : Nat} {di od pa sp : Nat → Int32} {re du dS dC : Int32} {A : WA} {nx : Nat → Nat → Option Nat} (hS : S ≤ 256) (h : RW S di od pa sp re du dS dC A) (hI : IA S A) (hs : s ∈ A.1) (hn : nx s c = some t) (ht : t < S) (hc : t ∉ A.1) :
    ∃ v, m_Wlk_reach di od pa sp re (nI t) (di s + (1 : Int32)) (nI s) (nI c) = some v ∧ RW S v.1 v.2.1 v.2.2.1 v.2.2.2.1 v.2.2.2.2 du dS dC (stepA nx s A c) := by
  obtain ⟨r1, r2, r3, r4, r5, r6⟩ := h
  obtain ⟨g1, g2, g3, g4⟩ := hI
  have hsS := (g2 s hs).1
  have hds : di s = nI (A.2.1 s) := by rw [r1 s hsS, if_pos hs]
  have hlen : A.1.length < S := by
    have h1 : (t :: A.1).Nodup := List.nodup_cons.mpr ⟨hc, g1⟩
    have := nodup_le h1 (S := S) (fun q hq => by
      rcases List.mem_cons.mp hq with z | z
      · rw [z]; exact ht
      · exact (g2 q z).1)
    rw [List.length_cons] at this
    omega
  have eA : stepA nx s A c = (A.1 ++ [t], upN A.2.1 t (A.2.1 s + 1), upN A.2.2.1 t s, upN A.2.2.2.1 t c, A.2.2.2.2.1, A.2.2.2.2.2) := by rw [stepA, hn]; dsimp only; rw [if_neg hc]
  rw [m_Wlk_reach, r4, gd_nI (by omega) (by decide), gd_nI (by omega) (by decide), gd_nI (by omega) (by decide), gd_nI (by omega) (by decide), nI_clamp (by omega), nI_clamp (by omega), hds, nI_1, nI_1, eA]
  refine ⟨_, rfl, ?_, ?_, ?_, ?_, r5, r6⟩
  · intro q hq
    dsimp only
    rw [upd_eq]
    by_cases c1 : q = t
    · rw [if_pos c1, if_pos (by rw [c1]; simp), upN, if_pos c1]
    · rw [if_neg c1, r1 q hq, upN, if_neg c1]
      simp [c1]
  · intro i hi
    dsimp only at hi ⊢
    rw [List.length_append, List.length_singleton] at hi
    rw [upd_eq]
    by_cases c1 : i = A.1.length
    · rw [if_pos c1, c1]; simp [List.getD_eq_getElem?_getD]
    · rw [if_neg c1, r2 i (by omega)]
      simp [List.getD_eq_getElem?_getD, List.getElem?_append_left (show i < A.1.length by omega)]
  · intro q hq hq0
    dsimp only at hq hq0 ⊢
    rw [upd_eq, upd_eq, upN, upN]
    by_cases c1 : q = t
    · rw [if_pos c1, if_pos c1, if_pos c1, if_pos c1]; exact ⟨rfl, rfl⟩
    · rw [if_neg c1, if_neg c1, if_neg c1, if_neg c1]
      rw [upN, if_neg c1] at hq0
      refine r3 q ?_ hq0
      rcases List.mem_append.mp hq with z | z
      · exact z
      · exact absurd (List.mem_singleton.mp z) c1
  · dsimp only; rw [List.length_append, List.length_singleton]
theorem p_leaveL {S s C : Nat} {ns : Nat → Int32} {nx : Nat → Nat → Option Nat} (hS : S ≤ 256) (hC : C ≤ 16) (hnx : ∀ c, c < C → nxOf ns s c (nx s c) ∧ ∀ t, nx s c = some t → t < S) :
    ∀ (k n c : Nat) (di od pa sp : Nat → Int32) (re du dS dC : Int32) (A : WA), c + k = C → k < n → RW S di od pa sp re du dS dC A → IA S A → s ∈ A.1 →
      ∃ v, L_Wlk_leave_26 ns (nI s) (nI C) n (nI c) di od pa sp re du dS dC = some v ∧ RW S v.1 v.2.1 v.2.2.1 v.2.2.2.1 v.2.2.2.2.1 v.2.2.2.2.2.1 v.2.2.2.2.2.2.1 v.2.2.2.2.2.2.2 ((List.range' c k).foldl (stepA nx s) A) ∧ IA S ((List.range' c k).foldl (stepA nx s) A) := by
  intro k
  induction k with
  | zero =>
    intro n c di od pa sp re du dS dC A h1 h2 hR hI hs
    obtain ⟨n, rfl⟩ : ∃ z, n = z + 1 := ⟨n - 1, by omega⟩
    rw [L_Wlk_leave_26, if_pos ((nI_leI (by omega) (by omega)).mpr (by omega))]
    exact ⟨_, rfl, hR, hI⟩
  | succ k ih =>
    intro n c di od pa sp re du dS dC A h1 h2 hR hI hs
    obtain ⟨n, rfl⟩ : ∃ z, n = z + 1 := ⟨n - 1, by omega⟩
    obtain ⟨hx1, hx2⟩ := hnx c (by omega)
    have hsS := (hI.2.1 s hs).1
    have e16 : nI s * (16 : Int32) + nI c = nI (s * 16 + c) := by rw [i16, pk_mul, nI_add]
    obtain ⟨hI2, hs2⟩ := IA_step (nx := nx) (c := c) hI hs hx2
    rw [List.range'_succ, List.foldl_cons]
    rw [L_Wlk_leave_26, if_neg (by rw [nI_leI (by omega) (by omega)]; omega), m_Tab_nextOf, e16, gd_nI (by omega) (by decide), Option.bind_some, nI_clamp (by omega), nI_1]
    cases e : nx s c with
    | none =>
      rw [e] at hx1
      have hx1' : ns (s * 16 + c) = -1 := hx1
      obtain ⟨v, v1, v2⟩ := RW_doubt hS hR hI hs e
      rw [if_pos hx1', v1, Option.bind_some]
      exact ih n (c + 1) _ _ _ _ _ _ _ _ _ (by omega) (by omega) v2 hI2 hs2
    | some t =>
      rw [e] at hx1
      have hx1' : ns (s * 16 + c) = nI t := hx1
      have ht := hx2 t e
      rw [hx1', if_neg (m1_ne (by omega)), gd_nI (by omega) (by decide), nI_clamp (by omega)]
      by_cases c1 : t ∈ A.1
      · have hb := (hI.2.1 t c1).2
        have hl := nodup_le hI.1 (fun q hq => (hI.2.1 q hq).1)
        rw [if_neg (by rw [hR.1 t ht, if_pos c1]; exact m1_ne (by omega))]
        have eA : stepA nx s A c = A := by rw [stepA, e]; dsimp only; rw [if_pos c1]
        rw [eA] at hI2 hs2 ⊢
        exact ih n (c + 1) _ _ _ _ _ _ _ _ _ (by omega) (by omega) hR hI2 hs2
      · rw [if_pos (by rw [hR.1 t ht, if_neg c1]), gd_nI (by omega) (by decide), nI_clamp (by omega)]
        obtain ⟨v, v1, v2⟩ := RW_reach hS hR hI hs e ht c1
        rw [v1, Option.bind_some]
        exact ih n (c + 1) _ _ _ _ _ _ _ _ _ (by omega) (by omega) v2 hI2 hs2
end
section
/-! Walk.leave and Walk.run, whole -/
theorem st_bits {v : Int64} {q b : Nat} (hq : q < 4) (hb : b < 64) : bL (((((v.toUInt64 >>> ((nI (q * 16)).toInt64.toUInt64 &&& Int64.toUInt64 63)).toInt64).toInt32) &&& (65535 : Int32)).toInt64 <<< ((nI (q * 16)).toInt64 &&& 63)) b = (decide (b / 16 = q) && bL v b) := by
  have key : ∀ q : Fin 4, (((nI (q.val * 16)).toInt64 &&& 63).toBitVec.smod 64).toNat = q.val * 16 := by decide +kernel
  have k2 : ∀ i : Nat, (65535#32).getLsbD i = decide (i < 16) := fun i => Nat.testBit_two_pow_sub_one 16 i
  have hsb := sh_bits (v := v) (b := q * 16) (by omega)
  generalize (v.toUInt64 >>> ((nI (q * 16)).toInt64.toUInt64 &&& Int64.toUInt64 63)).toInt64 = x at hsb ⊢
  have e0 : ∀ i, i < 32 → (x.toInt32 &&& (65535 : Int32)).toBitVec.getLsbD i = (decide (i < 16) && v.toBitVec.getLsbD (q * 16 + i)) := by
    intro i hi
    have z1 : x.toInt32.toBitVec = x.toBitVec.signExtend 32 := rfl
    have z2 : (65535 : Int32).toBitVec = 65535#32 := rfl
    rw [Int32.toBitVec_and, BitVec.getLsbD_and, z1, z2, k2, BitVec.getLsbD_signExtend, hsb, BitVec.getLsbD_ushiftRight]
    simp [hi, show i < 64 by omega, Bool.and_comm]
  generalize x.toInt32 &&& (65535 : Int32) = y at e0 ⊢
  have e1 : ∀ i, i < 64 → y.toInt64.toBitVec.getLsbD i = (decide (i < 16) && v.toBitVec.getLsbD (q * 16 + i)) := by
    intro i hi
    have z1 : y.toInt64.toBitVec = y.toBitVec.signExtend 64 := rfl
    rw [z1, BitVec.getLsbD_signExtend]
    by_cases c : i < 32
    · rw [if_pos c, e0 i c]; simp [hi]
    · have hm : y.toBitVec.msb = false := by
        rw [BitVec.msb_eq_getLsbD_last, e0 31 (by decide)]; simp
      rw [if_neg c, hm]
      simp [show ¬ i < 16 by omega]
  rw [bL, Int64.toBitVec_shiftLeft, BitVec.shiftLeft_eq', key ⟨q, hq⟩, BitVec.getLsbD_shiftLeft, e1 _ (by omega), bL]
  by_cases c1 : b < q * 16
  · simp [c1, show ¬ b / 16 = q by omega]
  · rw [show q * 16 + (b - q * 16) = b by omega]
    by_cases c2 : b - q * 16 < 16
    · simp [c1, c2, hb, show b / 16 = q by omega]
    · simp [c2, show ¬ b / 16 = q by omega]
/-- which pairs of a state that was left and a choice settle, as bits -/
def PW (W : Nat) (se : Nat → Int64) (sp : Nat → Int64) (l : List Nat) : Prop := ∀ w, w < W → ∀ b, b < 64 → bL (sp w) b = (decide (4 * w + b / 16 ∈ l) && bL (se w) b)
def leaveA (nx : Nat → Nat → Option Nat) (C : Nat) (A : WA) (s : Nat) : WA := (List.range' 0 C).foldl (stepA nx s) A
theorem p_leave {S s C W : Nat} {ns : Nat → Int32} {se : Nat → Int64} {nx : Nat → Nat → Option Nat} (hS : S ≤ 256) (hC : C ≤ 16) (hW : W ≤ 64) (hnx : ∀ c, c < C → nxOf ns s c (nx s c) ∧ ∀ t, nx s c = some t → t < S)
    {di od pa st : Nat → Int32} {sp : Nat → Int64} {re du dS dC : Int32} {A : WA} {l : List Nat} (hR : RW S di od pa st re du dS dC A) (hI : IA S A) (hs : s ∈ A.1) (hsW : s / 4 < W) (hP : PW W se sp l) :
    ∃ v, m_Wlk_leave se ns di od pa st sp re du dS dC (nI s) (nI C) = some v ∧ RW S v.1 v.2.1 v.2.2.1 v.2.2.2.1 v.2.2.2.2.2.1 v.2.2.2.2.2.2.1 v.2.2.2.2.2.2.2.1 v.2.2.2.2.2.2.2.2 (leaveA nx C A s) ∧ IA S (leaveA nx C A s) ∧ PW W se v.2.2.2.2.1 (l ++ [s]) := by
  have hsS := (hI.2.1 s hs).1
  obtain ⟨v, v1, v2, v3⟩ := p_leaveL hS hC hnx C fu 0 di od pa st re du dS dC A (by omega) (by rw [fu]; omega) hR hI hs
  have v1' : L_Wlk_leave_26 ns (nI s) (nI C) fu (0 : Int32) di od pa st re du dS dC = some v := v1
  rw [m_Wlk_leave, p_wordOf (by omega), Option.bind_some, gd_nI (by omega) (by decide), m_Tab_settledIn, p_wordOf (by omega), Option.bind_some, gd_nI (by omega) (by decide), p_shiftOf (by omega), Option.bind_some, Option.bind_some, Option.bind_some, gd_nI (by omega) (by decide), v1', Option.bind_some, nI_clamp (by omega)]
  refine ⟨_, rfl, v2, v3, ?_⟩
  intro w hw b hb
  dsimp only
  rw [updL_eq]
  by_cases c : w = s / 4
  · rw [if_pos c, bL, Int64.toBitVec_or, BitVec.getLsbD_or]
    have q1 := hP w hw b hb
    have q2 := st_bits (v := se (s / 4)) (q := s % 4) (b := b) (by omega) hb
    rw [bL] at q1 q2
    rw [← c] at q2 ⊢
    rw [q1, q2]
    by_cases d : 4 * w + b / 16 = s
    · have e16 : decide (b / 16 = s % 4) = true := decide_eq_true (by omega)
      have e17 : decide (s ∈ l ++ [s]) = true := decide_eq_true (by simp)
      rw [d, e16, e17]
      cases decide (s ∈ l) <;> cases bL (se w) b <;> rfl
    · simp [d, show ¬ b / 16 = s % 4 by omega]
  · rw [if_neg c, hP w hw b hb]
    simp [show ¬ 4 * w + b / 16 = s by omega]
theorem step_pre {nx : Nat → Nat → Option Nat} {s : Nat} (A : WA) (c : Nat) : ∃ t, (stepA nx s A c).1 = A.1 ++ t := by
  rw [stepA]
  split
  · exact ⟨[], by simp⟩
  · split
    · exact ⟨[], by simp⟩
    · exact ⟨_, rfl⟩
theorem fold_pre {nx : Nat → Nat → Option Nat} {s : Nat} : ∀ (l : List Nat) (A : WA), ∃ t, (l.foldl (stepA nx s) A).1 = A.1 ++ t
  | [], A => ⟨[], by simp⟩
  | c :: l, A => by
    obtain ⟨t, ht⟩ := step_pre (nx := nx) (s := s) A c
    obtain ⟨u, hu⟩ := fold_pre (nx := nx) (s := s) l (stepA nx s A c)
    exact ⟨t ++ u, by rw [List.foldl_cons, hu, ht, List.append_assoc]⟩
/-- the walk: the states are left in their order -/
def walkA (nx : Nat → Nat → Option Nat) (C : Nat) : Nat → Nat → WA → WA
  | 0, _, A => A
  | n + 1, i, A => if A.1.length ≤ i then A else walkA nx C n (i + 1) (leaveA nx C A (A.1.getD i 0))
theorem p_runL {S C W : Nat} {ns : Nat → Int32} {se : Nat → Int64} {nx : Nat → Nat → Option Nat} (hS : S ≤ 256) (hC : C ≤ 16) (hW : W ≤ 64) (hSW : ∀ s, s < S → s / 4 < W) (hnx : ∀ s, s < S → ∀ c, c < C → nxOf ns s c (nx s c) ∧ ∀ t, nx s c = some t → t < S) :
    ∀ (k n i : Nat) (di od pa st : Nat → Int32) (sp : Nat → Int64) (re du dS dC : Int32) (A : WA), i + k = 256 → k < n → RW S di od pa st re du dS dC A → IA S A → PW W se sp (A.1.take i) →
      ∃ v, L_Wlk_run_21 se ns (nI C) n (nI i) di od pa st sp re du dS dC = some v ∧ RW S v.1 v.2.1 v.2.2.1 v.2.2.2.1 v.2.2.2.2.2.1 v.2.2.2.2.2.2.1 v.2.2.2.2.2.2.2.1 v.2.2.2.2.2.2.2.2 (walkA nx C k i A) ∧ IA S (walkA nx C k i A) ∧ PW W se v.2.2.2.2.1 (walkA nx C k i A).1 := by
  intro k
  induction k with
  | zero =>
    intro n i di od pa st sp re du dS dC A h1 h2 hR hI hP
    obtain ⟨n, rfl⟩ : ∃ z, n = z + 1 := ⟨n - 1, by omega⟩
    have hlen := nodup_le hI.1 (fun q hq => (hI.2.1 q hq).1)
    rw [L_Wlk_run_21, hR.2.2.2.1, if_pos ((nI_leI (by omega) (by omega)).mpr (by omega))]
    rw [List.take_of_length_le (by omega)] at hP
    exact ⟨_, rfl, ⟨hR.1, hR.2.1, hR.2.2.1, rfl, hR.2.2.2.2⟩, hI, hP⟩
  | succ k ih =>
    intro n i di od pa st sp re du dS dC A h1 h2 hR hI hP
    obtain ⟨n, rfl⟩ : ∃ z, n = z + 1 := ⟨n - 1, by omega⟩
    have hlen := nodup_le hI.1 (fun q hq => (hI.2.1 q hq).1)
    have hre := hR.2.2.2.1
    rw [L_Wlk_run_21, walkA]
    by_cases c : A.1.length ≤ i
    · rw [hre, if_pos ((nI_leI (by omega) (by omega)).mpr c), if_pos c]
      rw [List.take_of_length_le c] at hP
      exact ⟨_, rfl, ⟨hR.1, hR.2.1, hR.2.2.1, rfl, hR.2.2.2.2⟩, hI, hP⟩
    · rw [if_neg c, if_neg (show ¬ re ≤ nI i by rw [hre, nI_leI (by omega) (by omega)]; exact c), if_neg (show ¬ (256 : Int32) ≤ nI i by rw [i256, nI_leI (by omega) (by omega)]; omega), gd_nI (by omega) (by decide), nI_clamp (by omega), hR.2.1 i (by omega), nI_1]
      have eg : A.1.getD i 0 = A.1[i]'(by omega) := by rw [List.getD_eq_getElem?_getD, List.getElem?_eq_getElem (by omega)]; rfl
      have hm : A.1.getD i 0 ∈ A.1 := by rw [eg]; exact List.getElem_mem _
      have hmS := (hI.2.1 _ hm).1
      obtain ⟨v, v1, v2, v3, v4⟩ := p_leave hS hC hW (hnx _ hmS) hR hI hm (hSW _ hmS) hP
      rw [v1, Option.bind_some]
      refine ih n (i + 1) _ _ _ _ _ _ _ _ _ _ (by omega) (by omega) v2 v3 ?_
      obtain ⟨t, ht⟩ := fold_pre (nx := nx) (s := A.1.getD i 0) (List.range' 0 C) A
      have : (leaveA nx C A (A.1.getD i 0)).1.take (i + 1) = A.1.take i ++ [A.1.getD i 0] := by
        rw [leaveA, ht, List.take_append_of_le_length (by omega), eg, List.take_succ_eq_append_getElem (by omega)]
      rw [this]
      exact v4
theorem p_forget7 {S : Nat} (hS : S ≤ 256) : ∀ (k n i : Nat) (di : Nat → Int32), i + k = S → k < n → ∃ r, L_Wlk_forget_7 (nI S) n (nI i) di = some r ∧ (∀ s, i ≤ s → s < S → r s = -1) ∧ ∀ s, s < i → r s = di s := by
  intro k
  induction k with
  | zero =>
    intro n i di h1 h2
    obtain ⟨n, rfl⟩ : ∃ z, n = z + 1 := ⟨n - 1, by omega⟩
    rw [L_Wlk_forget_7, if_pos ((nI_leI (by omega) (by omega)).mpr (by omega))]
    exact ⟨_, rfl, fun s a b => absurd b (by omega), fun _ _ => rfl⟩
  | succ k ih =>
    intro n i di h1 h2
    obtain ⟨n, rfl⟩ : ∃ z, n = z + 1 := ⟨n - 1, by omega⟩
    rw [L_Wlk_forget_7, if_neg (by rw [nI_leI (by omega) (by omega)]; omega), gd_nI (by omega) (by decide), nI_clamp (by omega), nI_1]
    obtain ⟨r, r1, r2, r3⟩ := ih n (i + 1) (upd di i (-1)) (by omega) (by omega)
    refine ⟨r, r1, fun s a b => ?_, fun s a => by rw [r3 s (by omega), upd_eq, if_neg (by omega)]⟩
    rcases Nat.lt_or_ge i s with e | e
    · exact r2 s (by omega) b
    · rw [r3 s (by omega), upd_eq, if_pos (by omega)]
theorem p_forget35 {W : Nat} (hW : W ≤ 64) : ∀ (k n i : Nat) (sp : Nat → Int64), i + k = W → k < n → ∃ r, L_Wlk_forget_35 (nI W) n (nI i) sp = some r ∧ (∀ s, i ≤ s → s < W → r s = 0) ∧ ∀ s, s < i → r s = sp s := by
  intro k
  induction k with
  | zero =>
    intro n i di h1 h2
    obtain ⟨n, rfl⟩ : ∃ z, n = z + 1 := ⟨n - 1, by omega⟩
    rw [L_Wlk_forget_35, if_pos ((nI_leI (by omega) (by omega)).mpr (by omega))]
    exact ⟨_, rfl, fun s a b => absurd b (by omega), fun _ _ => rfl⟩
  | succ k ih =>
    intro n i di h1 h2
    obtain ⟨n, rfl⟩ : ∃ z, n = z + 1 := ⟨n - 1, by omega⟩
    rw [L_Wlk_forget_35, if_neg (by rw [nI_leI (by omega) (by omega)]; omega), gd_nI (by omega) (by decide), nI_clamp (by omega), nI_1]
    obtain ⟨r, r1, r2, r3⟩ := ih n (i + 1) (vp_updL di i 0) (by omega) (by omega)
    refine ⟨r, r1, fun s a b => ?_, fun s a => by rw [r3 s (by omega), updL_eq, if_neg (by omega)]⟩
    rcases Nat.lt_or_ge i s with e | e
    · exact r2 s (by omega) b
    · rw [r3 s (by omega), updL_eq, if_pos (by omega)]
def begA : WA := ([0], fun _ => 0, fun _ => 0, fun _ => 0, 0, none)
theorem IA_beg {S : Nat} (h : 1 ≤ S) : IA S begA := by
  refine ⟨by simp [begA], fun s hs => ?_, fun s _ h0 => absurd rfl h0, fun d hd => by cases hd⟩
  have : s = 0 := by simpa [begA] using hs
  subst this
  exact ⟨h, by simp [begA]⟩
/-- Walk.run: the walk of any table -/
theorem p_run {K I : Nat} {ns : Nat → Int32} {se : Nat → Int64} {nx : Nat → Nat → Option Nat} (hK : K ≤ 8) (hI : I ≤ 4) (hnx : ∀ s, s < 2 ^ K → ∀ c, c < 2 ^ I → nxOf ns s c (nx s c) ∧ ∀ t, nx s c = some t → t < 2 ^ K)
    (di od pa st : Nat → Int32) (sp : Nat → Int64) (wd re du dS dC : Int32) :
    ∃ v, m_Wlk_run (nI I) (nI K) se ns di od pa st sp wd re du dS dC = some v ∧ RW (2 ^ K) v.1 v.2.1 v.2.2.1 v.2.2.2.1 v.2.2.2.2.2.2.1 v.2.2.2.2.2.2.2.1 v.2.2.2.2.2.2.2.2.1 v.2.2.2.2.2.2.2.2.2 (walkA nx (2 ^ I) 256 0 begA) ∧ IA (2 ^ K) (walkA nx (2 ^ I) 256 0 begA) ∧ PW (wt K) se v.2.2.2.2.1 (walkA nx (2 ^ I) 256 0 begA).1 ∧ v.2.2.2.2.2.1 = nI (wt K) := by
  have hpK := pow8 hK
  have hpI := pow4 hI
  have hW := wt_le hK
  obtain ⟨r7, a1, a2, -⟩ := p_forget7 hpK.2 (2 ^ K) fu 0 di (by omega) (by rw [fu]; omega)
  obtain ⟨r35, b1, b2, -⟩ := p_forget35 hW.2 (wt K) fu 0 sp (by omega) (by rw [fu]; omega)
  have a1' : L_Wlk_forget_7 (nI (2 ^ K)) fu (0 : Int32) di = some r7 := a1
  have b1' : L_Wlk_forget_35 (nI (wt K)) fu (0 : Int32) sp = some r35 := b1
  have hR : RW (2 ^ K) (upd r7 0 (0 : Int32)) (upd od 0 (0 : Int32)) (upd pa 0 (-1 : Int32)) (upd st 0 (-1 : Int32)) (nI 1) (0 : Int32) (-1 : Int32) (-1 : Int32) begA := by
    refine ⟨fun s hs => ?_, fun i hi => ?_, fun s _ h0 => absurd rfl h0, rfl, rfl, rfl, rfl⟩
    · rw [upd_eq]
      by_cases c : s = 0
      · rw [if_pos c, if_pos (by rw [c]; simp [begA])]; rfl
      · rw [if_neg c, if_neg (by simpa [begA] using c)]; exact a2 s (Nat.zero_le _) hs
    · have : i = 0 := by simp [begA] at hi; omega
      subst this
      rfl
  have hP : PW (wt K) se r35 (begA.1.take 0) := by
    intro w hw b hb
    rw [b2 w (Nat.zero_le _) hw]
    simp [bL]
  obtain ⟨v, v1, v2, v3, v4⟩ := p_runL hpK.2 hpI.2 hW.2 (fun s hs => wt_of hs) hnx 256 fu 0 _ _ _ _ r35 _ _ _ _ begA (by omega) (by rw [fu]; omega) hR (IA_beg hpK.1) hP
  have v1' : L_Wlk_run_21 se ns (nI (2 ^ I)) fu (0 : Int32) (upd r7 0 (0 : Int32)) (upd od 0 (0 : Int32)) (upd pa 0 (-1 : Int32)) (upd st 0 (-1 : Int32)) r35 (nI 1) (0 : Int32) (-1 : Int32) (-1 : Int32) = some v := v1
  have hreach : m_Wlk_reach r7 od pa st (0 : Int32) (0 : Int32) (0 : Int32) (-1 : Int32) (-1 : Int32) = some (upd r7 0 (0 : Int32), upd od 0 (0 : Int32), upd pa 0 (-1 : Int32), upd st 0 (-1 : Int32), nI 1) := by
    rw [m_Wlk_reach, i0, gd_nI (by omega) (by decide), gd_nI (by omega) (by decide), gd_nI (by omega) (by decide), gd_nI (by omega) (by decide)]
    rfl
  rw [m_Wlk_run, m_Wlk_forget, p_stateTotal hK, Option.bind_some, a1', Option.bind_some, p_wordTotal hK, Option.bind_some, b1', Option.bind_some, Option.bind_some]
  dsimp only
  rw [hreach, Option.bind_some, p_choiceTotal (by omega), Option.bind_some]
  dsimp only
  rw [v1', Option.bind_some]
  exact ⟨_, rfl, v2, v3, v4, rfl⟩
end
section
/-! questions of the walk -/
def bk (A : WA) : Nat → Nat → Nat
  | 0, s => s
  | n + 1, s => bk A n (A.2.2.1 s)
theorem nI_m1 (j : Nat) : nI (j + 1) + (-1 : Int32) = nI j := by
  rw [← nI_1, Int32.add_assoc]
  show nI j + 0 = nI j
  rw [Int32.add_zero]
section WQ
variable {S : Nat} {di od pa st : Nat → Int32} {re du dS dC : Int32} {A : WA}
theorem p_wayL (hS : S ≤ 256) (hR : RW S di od pa st re du dS dC A) (hI : IA S A) {i : Nat} : ∀ (m n s : Nat), s ∈ A.1 → A.2.1 s = i + m + 1 → m < n → L_Wlk_stepOfWay_27 pa (nI i) n (nI s) (nI (i + m)) = some (nI (bk A m s)) ∧ bk A m s ∈ A.1 ∧ A.2.1 (bk A m s) = i + 1 := by
  have hlen := nodup_le hI.1 (fun q hq => (hI.2.1 q hq).1)
  intro m
  induction m with
  | zero =>
    intro n s hs hd hn
    obtain ⟨n, rfl⟩ : ∃ z, n = z + 1 := ⟨n - 1, by omega⟩
    have h2 := hI.2.1 s hs
    rw [L_Wlk_stepOfWay_27, if_pos ((nI_leI (by omega) (by omega)).mpr (by omega))]
    exact ⟨rfl, hs, by rw [bk]; omega⟩
  | succ m ih =>
    intro n s hs hd hn
    obtain ⟨n, rfl⟩ : ∃ z, n = z + 1 := ⟨n - 1, by omega⟩
    have h2 := hI.2.1 s hs
    obtain ⟨h3, h4⟩ := hI.2.2.1 s hs (by omega)
    have h5 := (hR.2.2.1 s hs (by omega)).1
    rw [L_Wlk_stepOfWay_27, if_neg (by rw [nI_leI (by omega) (by omega)]; omega), gd_nI (by omega) (by decide), nI_clamp (by omega), h5, ← Nat.add_assoc, nI_m1, bk]
    exact ih n _ h3 (by omega) (by omega)
theorem p_stepOfWay (hS : S ≤ 256) (hR : RW S di od pa st re du dS dC A) (hI : IA S A) {s i : Nat} (hs : s < S) (hi : i < 2 ^ 31) :
    m_Wlk_stepOfWay di pa st (nI s) (nI i) = some (if s ∈ A.1 ∧ i < A.2.1 s then nI (A.2.2.2.1 (bk A (A.2.1 s - 1 - i) s)) else -1) := by
  have hlen := nodup_le hI.1 (fun q hq => (hI.2.1 q hq).1)
  rw [m_Wlk_stepOfWay, gd_nI (by omega) (by decide), nI_clamp (by omega), hR.1 s hs]
  by_cases c : s ∈ A.1
  · have h2 := hI.2.1 s c
    rw [if_pos c, if_neg (m1_ne (by omega))]
    simp only [nI_ltI (show i < 2 ^ 31 from hi) (show A.2.1 s < 2 ^ 31 by omega)]
    by_cases d : i < A.2.1 s
    · obtain ⟨e1, e2, e3⟩ := p_wayL hS hR hI (i := i) (A.2.1 s - 1 - i) fu s c (by omega) (by rw [fu]; omega)
      have hb := hI.2.1 _ e2
      rw [if_pos d, if_pos ⟨c, d⟩, i1, pk_sub (by omega), show A.2.1 s - 1 = i + (A.2.1 s - 1 - i) by omega, show i + (A.2.1 s - 1 - i) - i = A.2.1 s - 1 - i by omega, e1, Option.bind_some, gd_nI (by omega) (by decide), nI_clamp (by omega), (hR.2.2.1 _ e2 (by omega)).2]
    · rw [if_neg d, if_neg (fun z => d z.2)]
  · rw [if_neg c, if_pos rfl, if_neg (fun z => c z.1)]
theorem p_reachedL (hS : S ≤ 256) (hR : RW S di od pa st re du dS dC A) (hI : IA S A) (x : Int32) : ∀ (k n i : Nat), i + k = A.1.length → k < n → L_Wlk_reachedAt_4 di od re x n (nI ((A.1.take i).countP (fun s => decide (nI (A.2.1 s) = x)))) (nI i) = some (nI (A.1.countP (fun s => decide (nI (A.2.1 s) = x)))) := by
  have hlen := nodup_le hI.1 (fun q hq => (hI.2.1 q hq).1)
  intro k
  induction k with
  | zero =>
    intro n i h1 h2
    obtain ⟨n, rfl⟩ : ∃ z, n = z + 1 := ⟨n - 1, by omega⟩
    rw [L_Wlk_reachedAt_4, hR.2.2.2.1, if_pos ((nI_leI (by omega) (by omega)).mpr (by omega)), List.take_of_length_le (by omega)]
  | succ k ih =>
    intro n i h1 h2
    obtain ⟨n, rfl⟩ : ∃ z, n = z + 1 := ⟨n - 1, by omega⟩
    have eg : A.1.getD i 0 = A.1[i]'(by omega) := by rw [List.getD_eq_getElem?_getD, List.getElem?_eq_getElem (by omega)]; rfl
    have hm : A.1.getD i 0 ∈ A.1 := by rw [eg]; exact List.getElem_mem _
    have hmS := (hI.2.1 _ hm).1
    have ht : A.1.take (i + 1) = A.1.take i ++ [A.1.getD i 0] := by rw [eg, List.take_succ_eq_append_getElem (by omega)]
    have hc := ih n (i + 1) (by omega) (by omega)
    rw [ht, List.countP_append, List.countP_singleton] at hc
    rw [L_Wlk_reachedAt_4, hR.2.2.2.1, if_neg (by rw [nI_leI (by omega) (by omega)]; omega), gd_nI (by omega) (by decide), nI_clamp (by omega), hR.2.1 i (by omega), gd_nI (by omega) (by decide), nI_clamp (by omega), hR.1 _ hmS, if_pos hm, nI_1, nI_1, ← hR.2.2.2.1]
    by_cases c : nI (A.2.1 (A.1.getD i 0)) = x
    · rw [if_pos c]
      rw [if_pos (decide_eq_true c)] at hc
      exact hc
    · rw [if_neg c]
      rw [if_neg (by simpa using c)] at hc
      exact hc
theorem p_reachedAt (hS : S ≤ 256) (hR : RW S di od pa st re du dS dC A) (hI : IA S A) (x : Int32) : m_Wlk_reachedAt di od re x = some (nI (A.1.countP (fun s => decide (nI (A.2.1 s) = x)))) := by
  have hlen := nodup_le hI.1 (fun q hq => (hI.2.1 q hq).1)
  have h : L_Wlk_reachedAt_4 di od re x fu (0 : Int32) (0 : Int32) = _ := p_reachedL hS hR hI x A.1.length fu 0 (by omega) (by rw [fu]; omega)
  rw [m_Wlk_reachedAt, h, Option.bind_some]
theorem p_greatest (hS : S ≤ 256) (hR : RW S di od pa st re du dS dC A) (hI : IA S A) (h1 : 1 ≤ A.1.length) : m_Wlk_greatestDistance di od re = some (nI (A.2.1 (A.1.getD (A.1.length - 1) 0))) := by
  have hlen := nodup_le hI.1 (fun q hq => (hI.2.1 q hq).1)
  have eg : A.1.getD (A.1.length - 1) 0 = A.1[A.1.length - 1]'(by omega) := by rw [List.getD_eq_getElem?_getD, List.getElem?_eq_getElem (by omega)]; rfl
  have hm : A.1.getD (A.1.length - 1) 0 ∈ A.1 := by rw [eg]; exact List.getElem_mem _
  have hmS := (hI.2.1 _ hm).1
  rw [m_Wlk_greatestDistance, hR.2.2.2.1, i1, pk_sub h1, gd_nI (by omega) (by decide), nI_clamp (by omega), hR.2.1 _ (by omega), gd_nI (by omega) (by decide), nI_clamp (by omega), hR.1 _ hmS, if_pos hm]
end WQ
theorem bL_and0 {x y : Int64} : x &&& y = 0 ↔ ∀ b, b < 64 → ¬ (bL x b = true ∧ bL y b = true) := by
  rw [← Int64.toBitVec_inj, Int64.toBitVec_and]
  show x.toBitVec &&& y.toBitVec = 0#64 ↔ _
  constructor
  · intro h b hb q
    have t := congrArg (fun z => z.getLsbD b) h
    simp only [BitVec.getLsbD_and, BitVec.getLsbD_zero] at t
    rw [bL, bL] at q
    rw [q.1, q.2] at t
    cases t
  · intro h
    apply BitVec.eq_of_getLsbD_eq
    intro b hb
    have := h b hb
    rw [bL, bL] at this
    rw [BitVec.getLsbD_and, BitVec.getLsbD_zero]
    cases e1 : x.toBitVec.getLsbD b <;> cases e2 : y.toBitVec.getLsbD b <;> simp_all
theorem p_everL {va sp : Nat → Int64} {W g : Nat} {x : Int64} (hW : W ≤ 64) (hg : g < 60) : ∀ (k n i : Nat), i + k = W → k < n →
    (L_Wlk_isEver_17 va sp (nI W) (nI g) x n (nI i) = some (.inl ()) ∧ ∃ w, i ≤ w ∧ w < W ∧ ¬ (va (g * 64 + w) ^^^ x) &&& sp w = 0) ∨ (L_Wlk_isEver_17 va sp (nI W) (nI g) x n (nI i) = some (.inr ()) ∧ ∀ w, i ≤ w → w < W → (va (g * 64 + w) ^^^ x) &&& sp w = 0) := by
  intro k
  induction k with
  | zero =>
    intro n i h1 h2
    obtain ⟨n, rfl⟩ : ∃ z, n = z + 1 := ⟨n - 1, by omega⟩
    rw [L_Wlk_isEver_17, if_pos ((nI_leI (by omega) (by omega)).mpr (by omega))]
    exact Or.inr ⟨rfl, fun w a b => absurd b (by omega)⟩
  | succ k ih =>
    intro n i h1 h2
    obtain ⟨n, rfl⟩ : ∃ z, n = z + 1 := ⟨n - 1, by omega⟩
    have e64 : nI g * (64 : Int32) + nI i = nI (g * 64 + i) := by rw [i64, pk_mul, nI_add]
    rw [L_Wlk_isEver_17, if_neg (by rw [nI_leI (by omega) (by omega)]; omega), e64, gd_nI (by omega) (by decide), gd_nI (by omega) (by decide), nI_clamp (by omega), nI_clamp (by omega), nI_1]
    simp only [lg_cmp0]
    by_cases c : (va (g * 64 + i) ^^^ x) &&& sp i = 0
    · rw [if_pos c]
      rcases ih n (i + 1) (by omega) (by omega) with ⟨a, w, b1, b2, b3⟩ | ⟨a, b⟩
      · exact Or.inl ⟨a, w, by omega, b2, b3⟩
      · refine Or.inr ⟨a, fun w w1 w2 => ?_⟩
        rcases Nat.lt_or_ge i w with e | e
        · exact b w (by omega) w2
        · rw [show w = i by omega]; exact c
    · rw [if_neg c]
      exact Or.inl ⟨rfl, i, by omega, by omega, c⟩
theorem p_differL {va sp : Nat → Int64} {W g f : Nat} (hW : W ≤ 64) (hg : g < 60) (hf : f < 60) : ∀ (k n i : Nat), i + k = W → k < n →
    (L_Wlk_everDiffer_3 va sp (nI W) (nI g) (nI f) n (nI i) = some (.inl ()) ∧ ∃ w, i ≤ w ∧ w < W ∧ ¬ (va (g * 64 + w) ^^^ va (f * 64 + w)) &&& sp w = 0) ∨ (L_Wlk_everDiffer_3 va sp (nI W) (nI g) (nI f) n (nI i) = some (.inr ()) ∧ ∀ w, i ≤ w → w < W → (va (g * 64 + w) ^^^ va (f * 64 + w)) &&& sp w = 0) := by
  intro k
  induction k with
  | zero =>
    intro n i h1 h2
    obtain ⟨n, rfl⟩ : ∃ z, n = z + 1 := ⟨n - 1, by omega⟩
    rw [L_Wlk_everDiffer_3, if_pos ((nI_leI (by omega) (by omega)).mpr (by omega))]
    exact Or.inr ⟨rfl, fun w a b => absurd b (by omega)⟩
  | succ k ih =>
    intro n i h1 h2
    obtain ⟨n, rfl⟩ : ∃ z, n = z + 1 := ⟨n - 1, by omega⟩
    have e64 : nI g * (64 : Int32) + nI i = nI (g * 64 + i) := by rw [i64, pk_mul, nI_add]
    have f64 : nI f * (64 : Int32) + nI i = nI (f * 64 + i) := by rw [i64, pk_mul, nI_add]
    rw [L_Wlk_everDiffer_3, if_neg (by rw [nI_leI (by omega) (by omega)]; omega), e64, f64, gd_nI (by omega) (by decide), gd_nI (by omega) (by decide), gd_nI (by omega) (by decide), nI_clamp (by omega), nI_clamp (by omega), nI_clamp (by omega), nI_1]
    simp only [lg_cmp0]
    by_cases c : (va (g * 64 + i) ^^^ va (f * 64 + i)) &&& sp i = 0
    · rw [if_pos c]
      rcases ih n (i + 1) (by omega) (by omega) with ⟨a, w, b1, b2, b3⟩ | ⟨a, b⟩
      · exact Or.inl ⟨a, w, by omega, b2, b3⟩
      · refine Or.inr ⟨a, fun w w1 w2 => ?_⟩
        rcases Nat.lt_or_ge i w with e | e
        · exact b w (by omega) w2
        · rw [show w = i by omega]; exact c
    · rw [if_neg c]
      exact Or.inl ⟨rfl, i, by omega, by omega, c⟩
end
section
/-! values and settling of a state with a choice, out of the words -/
def vb (va : Nat → Int64) (g s c : Nat) : Bool := bL (va (g * 64 + s / 4)) (s % 4 * 16 + c)
def sb (se : Nat → Int64) (s c : Nat) : Bool := bL (se (s / 4)) (s % 4 * 16 + c)
theorem PW_ex {W : Nat} {se sp X : Nat → Int64} {l : List Nat} (hP : PW W se sp l) (hl : ∀ s, s ∈ l → s / 4 < W) :
    (∃ w, 0 ≤ w ∧ w < W ∧ ¬ X w &&& sp w = 0) ↔ ∃ s, s ∈ l ∧ ∃ c, c < 16 ∧ sb se s c = true ∧ bL (X (s / 4)) (s % 4 * 16 + c) = true := by
  constructor
  · intro ⟨w, _, hw, h⟩
    rw [bL_and0] at h
    have h2 : ∃ b, b < 64 ∧ bL (X w) b = true ∧ bL (sp w) b = true := by
      apply Classical.byContradiction
      intro q
      exact h fun b hb z => q ⟨b, hb, z.1, z.2⟩
    obtain ⟨b, hb, b1, b2⟩ := h2
    rw [hP w hw b hb, Bool.and_eq_true, decide_eq_true_eq] at b2
    refine ⟨4 * w + b / 16, b2.1, b % 16, by omega, ?_, ?_⟩
    · rw [sb, show (4 * w + b / 16) / 4 = w by omega, show (4 * w + b / 16) % 4 * 16 + b % 16 = b by omega]; exact b2.2
    · rw [show (4 * w + b / 16) / 4 = w by omega, show (4 * w + b / 16) % 4 * 16 + b % 16 = b by omega]; exact b1
  · intro ⟨s, hs, c, hc, h1, h2⟩
    refine ⟨s / 4, Nat.zero_le _, hl s hs, fun q => ?_⟩
    rw [bL_and0] at q
    refine q (s % 4 * 16 + c) (by omega) ⟨h2, ?_⟩
    rw [hP _ (hl s hs) _ (by omega), Bool.and_eq_true, decide_eq_true_eq]
    exact ⟨by rw [show 4 * (s / 4) + (s % 4 * 16 + c) / 16 = s by omega]; exact hs, h1⟩
theorem bL_xor {x y : Int64} {b : Nat} : bL (x ^^^ y) b = (bL x b ^^ bL y b) := by rw [bL, Int64.toBitVec_xor, BitVec.getLsbD_xor]; rfl
theorem bL_0 {b : Nat} : bL 0 b = false := by
  show (0#64).getLsbD b = false
  simp
theorem bL_m1 {b : Nat} (hb : b < 64) : bL (-1) b = true := by
  have key : ∀ b : Fin 64, bL (-1) b.val = true := by decide +kernel
  exact key ⟨b, hb⟩
theorem p_isEver {W g : Nat} {se sp va : Nat → Int64} {l : List Nat} (hW : W ≤ 64) (hg : g < 60) (hP : PW W se sp l) (hl : ∀ s, s ∈ l → s / 4 < W) (z : Bool) :
    (m_Wlk_isEver va sp (nI W) (nI g) (if z = true then 1 else 0) = some 1 ∧ ∃ s, s ∈ l ∧ ∃ c, c < 16 ∧ sb se s c = true ∧ vb va g s c = z) ∨
    (m_Wlk_isEver va sp (nI W) (nI g) (if z = true then 1 else 0) = some 0 ∧ ∀ s, s ∈ l → ∀ c, c < 16 → sb se s c = true → vb va g s c ≠ z) := by
  have key : ∀ x : Int64, (∀ b, b < 64 → bL x b = !z) → m_Wlk_isEver va sp (nI W) (nI g) (if z = true then 1 else 0) = (L_Wlk_isEver_17 va sp (nI W) (nI g) x fu (0 : Int32)).bind (Sum.elim (fun _ => some (1 : Int32)) (fun _ => some (0 : Int32))) →
      (m_Wlk_isEver va sp (nI W) (nI g) (if z = true then 1 else 0) = some 1 ∧ ∃ s, s ∈ l ∧ ∃ c, c < 16 ∧ sb se s c = true ∧ vb va g s c = z) ∨
      (m_Wlk_isEver va sp (nI W) (nI g) (if z = true then 1 else 0) = some 0 ∧ ∀ s, s ∈ l → ∀ c, c < 16 → sb se s c = true → vb va g s c ≠ z) := by
    intro x hx e
    have hX : ∀ s c, c < 16 → bL (va (g * 64 + s / 4) ^^^ x) (s % 4 * 16 + c) = true → vb va g s c = z := by
      intro s c hc h
      rw [bL_xor, hx _ (by omega)] at h
      rw [vb]
      revert h
      cases bL (va (g * 64 + s / 4)) (s % 4 * 16 + c) <;> cases z <;> simp
    have hX2 : ∀ s c, c < 16 → vb va g s c = z → bL (va (g * 64 + s / 4) ^^^ x) (s % 4 * 16 + c) = true := by
      intro s c hc h
      rw [vb] at h
      rw [bL_xor, hx _ (by omega), h]
      cases z <;> rfl
    have hx0 := PW_ex (X := fun w => va (g * 64 + w) ^^^ x) hP hl
    have hL : (L_Wlk_isEver_17 va sp (nI W) (nI g) x fu (0 : Int32) = some (.inl ()) ∧ _) ∨ (L_Wlk_isEver_17 va sp (nI W) (nI g) x fu (0 : Int32) = some (.inr ()) ∧ _) := p_everL (va := va) (sp := sp) (x := x) hW hg W fu 0 (by omega) (by rw [fu]; omega)
    rcases hL with ⟨a, b⟩ | ⟨a, b⟩
    · obtain ⟨s, hs, c, hc, h1, h2⟩ := hx0.mp b
      exact Or.inl ⟨by rw [e, a]; rfl, s, hs, c, hc, h1, hX s c hc h2⟩
    · refine Or.inr ⟨by rw [e, a]; rfl, fun s hs c hc h1 h2 => ?_⟩
      obtain ⟨w, w1, w2, w3⟩ := hx0.mpr ⟨s, hs, c, hc, h1, hX2 s c hc h2⟩
      exact w3 (b w w1 w2)
  cases z with
  | true => exact key 0 (fun b _ => bL_0) rfl
  | false => exact key (-1) (fun b hb => bL_m1 hb) rfl
theorem p_everDiffer {W g f : Nat} {se sp va : Nat → Int64} {l : List Nat} (hW : W ≤ 64) (hg : g < 60) (hf : f < 60) (hP : PW W se sp l) (hl : ∀ s, s ∈ l → s / 4 < W) :
    (m_Wlk_everDiffer va sp (nI W) (nI g) (nI f) = some 1 ∧ ∃ s, s ∈ l ∧ ∃ c, c < 16 ∧ sb se s c = true ∧ vb va g s c ≠ vb va f s c) ∨
    (m_Wlk_everDiffer va sp (nI W) (nI g) (nI f) = some 0 ∧ ∀ s, s ∈ l → ∀ c, c < 16 → sb se s c = true → vb va g s c = vb va f s c) := by
  have hX : ∀ s c, bL (va (g * 64 + s / 4) ^^^ va (f * 64 + s / 4)) (s % 4 * 16 + c) = true ↔ vb va g s c ≠ vb va f s c := by
    intro s c
    rw [bL_xor, vb, vb]
    cases bL (va (g * 64 + s / 4)) (s % 4 * 16 + c) <;> cases bL (va (f * 64 + s / 4)) (s % 4 * 16 + c) <;> simp
  have hx0 := PW_ex (X := fun w => va (g * 64 + w) ^^^ va (f * 64 + w)) hP hl
  have hL : (L_Wlk_everDiffer_3 va sp (nI W) (nI g) (nI f) fu (0 : Int32) = some (.inl ()) ∧ _) ∨ (L_Wlk_everDiffer_3 va sp (nI W) (nI g) (nI f) fu (0 : Int32) = some (.inr ()) ∧ _) := p_differL (va := va) (sp := sp) hW hg hf W fu 0 (by omega) (by rw [fu]; omega)
  rcases hL with ⟨a, b⟩ | ⟨a, b⟩
  · obtain ⟨s, hs, c, hc, h1, h2⟩ := hx0.mp b
    exact Or.inl ⟨by rw [m_Wlk_everDiffer, a]; rfl, s, hs, c, hc, h1, (hX s c).mp h2⟩
  · refine Or.inr ⟨by rw [m_Wlk_everDiffer, a]; rfl, fun s hs c hc h1 => ?_⟩
    apply Classical.byContradiction
    intro h2
    obtain ⟨w, w1, w2, w3⟩ := hx0.mpr ⟨s, hs, c, hc, h1, (hX s c).mpr h2⟩
    exact w3 (b w w1 w2)
end
section
/-! looksAlike, goesAlike -/
theorem st16 {v : Int64} {q i : Nat} (hq : q < 4) (hi : i < 32) : ((((v.toUInt64 >>> ((nI (q * 16)).toInt64.toUInt64 &&& Int64.toUInt64 63)).toInt64).toInt32) &&& (65535 : Int32)).toBitVec.getLsbD i = (decide (i < 16) && bL v (q * 16 + i)) := by
  have k2 : ∀ i : Nat, (65535#32).getLsbD i = decide (i < 16) := fun i => Nat.testBit_two_pow_sub_one 16 i
  have hsb := sh_bits (v := v) (b := q * 16) (by omega)
  generalize (v.toUInt64 >>> ((nI (q * 16)).toInt64.toUInt64 &&& Int64.toUInt64 63)).toInt64 = x at hsb ⊢
  have z1 : x.toInt32.toBitVec = x.toBitVec.signExtend 32 := rfl
  have z2 : (65535 : Int32).toBitVec = 65535#32 := rfl
  rw [Int32.toBitVec_and, BitVec.getLsbD_and, z1, z2, k2, BitVec.getLsbD_signExtend, hsb, BitVec.getLsbD_ushiftRight]
  simp [hi, show i < 64 by omega, Bool.and_comm, bL]
theorem p_settledIn {se : Nat → Int64} {s : Nat} (hs : s < 256) : ∃ y, m_Tab_settledIn se (nI s) = some y ∧ ∀ i, i < 32 → y.toBitVec.getLsbD i = (decide (i < 16) && sb se s i) := by
  rw [m_Tab_settledIn, p_wordOf hs, Option.bind_some, gd_nI (by omega) (by decide), p_shiftOf hs, Option.bind_some, nI_clamp (by omega)]
  exact ⟨_, rfl, fun i hi => st16 (by omega) hi⟩
theorem p_onesIn {va : Nat → Int64} {g s : Nat} (hg : g < 60) (hs : s < 256) : ∃ y, m_Tab_onesIn va (nI g) (nI s) = some y ∧ ∀ i, i < 32 → y.toBitVec.getLsbD i = (decide (i < 16) && vb va g s i) := by
  have e64 : nI g * (64 : Int32) + nI (s / 4) = nI (g * 64 + s / 4) := by rw [i64, pk_mul, nI_add]
  rw [m_Tab_onesIn, p_wordOf hs, Option.bind_some, e64, gd_nI (by omega) (by decide), p_shiftOf hs, Option.bind_some, nI_clamp (by omega)]
  exact ⟨_, rfl, fun i hi => st16 (by omega) hi⟩
theorem eq16 {x y : Int32} {f g : Nat → Bool} (hx : ∀ i, i < 32 → x.toBitVec.getLsbD i = (decide (i < 16) && f i)) (hy : ∀ i, i < 32 → y.toBitVec.getLsbD i = (decide (i < 16) && g i)) : x = y ↔ ∀ c, c < 16 → f c = g c := by
  constructor
  · intro h c hc
    have a := hx c (by omega)
    rw [h, hy c (by omega)] at a
    simpa [hc] using a.symm
  · intro h
    rw [← Int32.toBitVec_inj]
    apply BitVec.eq_of_getLsbD_eq
    intro i hi
    rw [hx i hi, hy i hi]
    by_cases c : i < 16
    · rw [h i c]
    · simp [c]
theorem xa16 {x y m : Int32} {f g k : Nat → Bool} (hx : ∀ i, i < 32 → x.toBitVec.getLsbD i = (decide (i < 16) && f i)) (hy : ∀ i, i < 32 → y.toBitVec.getLsbD i = (decide (i < 16) && g i)) (hm : ∀ i, i < 32 → m.toBitVec.getLsbD i = (decide (i < 16) && k i)) : (x ^^^ y) &&& m = 0 ↔ ∀ c, c < 16 → k c = true → f c = g c := by
  have hz : ∀ i, i < 32 → ((x ^^^ y) &&& m).toBitVec.getLsbD i = (decide (i < 16) && ((f i ^^ g i) && k i)) := by
    intro i hi
    rw [Int32.toBitVec_and, BitVec.getLsbD_and, Int32.toBitVec_xor, BitVec.getLsbD_xor, hx i hi, hy i hi, hm i hi]
    cases decide (i < 16) <;> simp
  have h0 : ∀ i, i < 32 → (0 : Int32).toBitVec.getLsbD i = (decide (i < 16) && (fun _ => false) i) := by
    intro i _
    show (0#32).getLsbD i = _
    simp
  rw [eq16 hz h0]
  constructor
  · intro h c hc hk
    have := h c hc
    rw [hk] at this
    revert this
    cases f c <;> cases g c <;> simp
  · intro h c hc
    have := h c hc
    revert this
    cases f c <;> cases g c <;> cases k c <;> simp
def LooksA (se va : Nat → Int64) (ov : Nat → Nat) (O s o : Nat) : Prop := (∀ c, c < 16 → sb se s c = sb se o c) ∧ ∀ i, i < O → ∀ c, c < 16 → sb se s c = true → vb va (ov i) s c = vb va (ov i) o c
theorem p_looksL {se va : Nat → Int64} {ou : Nat → Int32} {ov : Nat → Nat} {O s o : Nat} {m : Int32} (hO : O ≤ 6) (hou : ∀ i, i < O → ou i = nI (ov i) ∧ ov i < 60) (hs : s < 256) (ho : o < 256) (hm : ∀ i, i < 32 → m.toBitVec.getLsbD i = (decide (i < 16) && sb se s i)) : ∀ (k n i : Nat), i + k = O → k < n →
    (L_Par_looksAlike_22 ou (nI O) va (nI s) (nI o) m n (nI i) = some (.inl ()) ∧ ∃ j, j < O ∧ ∃ c, c < 16 ∧ sb se s c = true ∧ vb va (ov j) s c ≠ vb va (ov j) o c) ∨ (L_Par_looksAlike_22 ou (nI O) va (nI s) (nI o) m n (nI i) = some (.inr ()) ∧ ∀ j, i ≤ j → j < O → ∀ c, c < 16 → sb se s c = true → vb va (ov j) s c = vb va (ov j) o c) := by
  intro k
  induction k with
  | zero =>
    intro n i h1 h2
    obtain ⟨n, rfl⟩ : ∃ z, n = z + 1 := ⟨n - 1, by omega⟩
    rw [L_Par_looksAlike_22, if_pos ((nI_leI (by omega) (by omega)).mpr (by omega))]
    exact Or.inr ⟨rfl, fun w a b => absurd b (by omega)⟩
  | succ k ih =>
    intro n i h1 h2
    obtain ⟨n, rfl⟩ : ∃ z, n = z + 1 := ⟨n - 1, by omega⟩
    obtain ⟨e1, e2⟩ := hou i (by omega)
    obtain ⟨y1, a1, a2⟩ := p_onesIn (va := va) e2 hs
    obtain ⟨y2, b1, b2⟩ := p_onesIn (va := va) e2 ho
    rw [L_Par_looksAlike_22, if_neg (by rw [nI_leI (by omega) (by omega)]; omega), gd_nI (by omega) (by decide), nI_clamp (by omega), e1, a1, Option.bind_some, b1, Option.bind_some, nI_1]
    have hx := xa16 a2 b2 hm
    by_cases c : (y1 ^^^ y2) &&& m = 0
    · rw [if_pos c]
      rcases ih n (i + 1) (by omega) (by omega) with ⟨a, b⟩ | ⟨a, b⟩
      · exact Or.inl ⟨a, b⟩
      · refine Or.inr ⟨a, fun w w1 w2 => ?_⟩
        rcases Nat.lt_or_ge i w with e | e
        · exact b w (by omega) w2
        · rw [show w = i by omega]; exact hx.mp c
    · rw [if_neg c]
      refine Or.inl ⟨rfl, i, by omega, ?_⟩
      apply Classical.byContradiction
      intro q
      exact c (hx.mpr fun d hd h3 => Classical.byContradiction fun h4 => q ⟨d, hd, h3, h4⟩)
theorem p_looksAlike {se va : Nat → Int64} {ou : Nat → Int32} {ov : Nat → Nat} {O s o : Nat} (hO : O ≤ 6) (hou : ∀ i, i < O → ou i = nI (ov i) ∧ ov i < 60) (hs : s < 256) (ho : o < 256) :
    (m_Par_looksAlike ou (nI O) se va (nI s) (nI o) = some 1 ∧ LooksA se va ov O s o) ∨ (m_Par_looksAlike ou (nI O) se va (nI s) (nI o) = some 0 ∧ ¬ LooksA se va ov O s o) := by
  obtain ⟨y1, a1, a2⟩ := p_settledIn (se := se) hs
  obtain ⟨y2, b1, b2⟩ := p_settledIn (se := se) ho
  have he := eq16 a2 b2
  rw [m_Par_looksAlike, a1, Option.bind_some, b1, Option.bind_some]
  by_cases c : y1 = y2
  · rw [if_pos c]
    have hL : (L_Par_looksAlike_22 ou (nI O) va (nI s) (nI o) y1 fu (0 : Int32) = some (.inl ()) ∧ _) ∨ (L_Par_looksAlike_22 ou (nI O) va (nI s) (nI o) y1 fu (0 : Int32) = some (.inr ()) ∧ _) := p_looksL (va := va) hO hou hs ho a2 O fu 0 (by omega) (by rw [fu]; omega)
    rcases hL with ⟨a, j, j1, d, d1, d2, d3⟩ | ⟨a, b⟩
    · exact Or.inr ⟨by rw [a]; rfl, fun q => d3 (q.2 j j1 d d1 d2)⟩
    · exact Or.inl ⟨by rw [a]; rfl, he.mp c, fun j hj => b j (Nat.zero_le _) hj⟩
  · rw [if_neg c]
    exact Or.inr ⟨rfl, fun q => c (he.mpr q.1)⟩
/-- the name of the next state -/
def nmN (nm : Nat → Int32) (nx : Nat → Nat → Option Nat) (s c : Nat) : Int32 := match nx s c with
  | none => -1
  | some t => nm t
def GoesA (nm : Nat → Int32) (nx : Nat → Nat → Option Nat) (C s o : Nat) : Prop := ∀ c, c < C → nmN nm nx s c = nmN nm nx o c
theorem p_nameOfNext {nm ns : Nat → Int32} {nx : Nat → Nat → Option Nat} {s c : Nat} (hs : s < 256) (hc : c < 16) (hnx : nxOf ns s c (nx s c) ∧ ∀ t, nx s c = some t → t < 256) : m_Par_nameOfNext nm ns (nI s) (nI c) = some (nmN nm nx s c) := by
  have e16 : nI s * (16 : Int32) + nI c = nI (s * 16 + c) := by rw [i16, pk_mul, nI_add]
  rw [m_Par_nameOfNext, m_Tab_nextOf, e16, gd_nI (by omega) (by decide), Option.bind_some, nI_clamp (by omega), nmN]
  obtain ⟨h1, h2⟩ := hnx
  cases e : nx s c with
  | none =>
    rw [e] at h1
    have h1' : ns (s * 16 + c) = -1 := h1
    rw [if_pos h1']
  | some t =>
    rw [e] at h1
    have h1' : ns (s * 16 + c) = nI t := h1
    have ht := h2 t e
    rw [h1', if_neg (m1_ne (by omega)), gd_nI (by omega) (by decide), nI_clamp (by omega)]
theorem p_goesL {nm ns : Nat → Int32} {nx : Nat → Nat → Option Nat} {C s o : Nat} (hC : C ≤ 16) (hs : s < 256) (ho : o < 256) (h1 : ∀ c, c < C → nxOf ns s c (nx s c) ∧ ∀ t, nx s c = some t → t < 256) (h2 : ∀ c, c < C → nxOf ns o c (nx o c) ∧ ∀ t, nx o c = some t → t < 256) : ∀ (k n i : Nat), i + k = C → k < n →
    (L_Par_goesAlike_9 nm ns (nI s) (nI o) (nI C) n (nI i) = some (.inl ()) ∧ ∃ c, c < C ∧ nmN nm nx s c ≠ nmN nm nx o c) ∨ (L_Par_goesAlike_9 nm ns (nI s) (nI o) (nI C) n (nI i) = some (.inr ()) ∧ ∀ c, i ≤ c → c < C → nmN nm nx s c = nmN nm nx o c) := by
  intro k
  induction k with
  | zero =>
    intro n i h1 h2
    obtain ⟨n, rfl⟩ : ∃ z, n = z + 1 := ⟨n - 1, by omega⟩
    rw [L_Par_goesAlike_9, if_pos ((nI_leI (by omega) (by omega)).mpr (by omega))]
    exact Or.inr ⟨rfl, fun w a b => absurd b (by omega)⟩
  | succ k ih =>
    intro n i g1 g2
    obtain ⟨n, rfl⟩ : ∃ z, n = z + 1 := ⟨n - 1, by omega⟩
    rw [L_Par_goesAlike_9, if_neg (by rw [nI_leI (by omega) (by omega)]; omega), p_nameOfNext hs (by omega) (h1 i (by omega)), Option.bind_some, p_nameOfNext ho (by omega) (h2 i (by omega)), Option.bind_some, nI_1]
    by_cases c : nmN nm nx s i = nmN nm nx o i
    · rw [if_pos c]
      rcases ih n (i + 1) (by omega) (by omega) with ⟨a, b⟩ | ⟨a, b⟩
      · exact Or.inl ⟨a, b⟩
      · refine Or.inr ⟨a, fun w w1 w2 => ?_⟩
        rcases Nat.lt_or_ge i w with e | e
        · exact b w (by omega) w2
        · rw [show w = i by omega]; exact c
    · rw [if_neg c]
      exact Or.inl ⟨rfl, i, by omega, c⟩
theorem p_goesAlike {nm ns : Nat → Int32} {nx : Nat → Nat → Option Nat} {I s o : Nat} (hI : I ≤ 4) (hs : s < 256) (ho : o < 256) (h1 : ∀ c, c < 2 ^ I → nxOf ns s c (nx s c) ∧ ∀ t, nx s c = some t → t < 256) (h2 : ∀ c, c < 2 ^ I → nxOf ns o c (nx o c) ∧ ∀ t, nx o c = some t → t < 256) :
    (m_Par_goesAlike (nI I) nm ns (nI s) (nI o) = some 1 ∧ GoesA nm nx (2 ^ I) s o) ∨ (m_Par_goesAlike (nI I) nm ns (nI s) (nI o) = some 0 ∧ ¬ GoesA nm nx (2 ^ I) s o) := by
  have hp := pow4 hI
  have hL : (L_Par_goesAlike_9 nm ns (nI s) (nI o) (nI (2 ^ I)) fu (0 : Int32) = some (.inl ()) ∧ _) ∨ (L_Par_goesAlike_9 nm ns (nI s) (nI o) (nI (2 ^ I)) fu (0 : Int32) = some (.inr ()) ∧ _) := p_goesL (nm := nm) hp.2 hs ho h1 h2 (2 ^ I) fu 0 (by omega) (by rw [fu]; omega)
  rw [m_Par_goesAlike, p_choiceTotal (by omega), Option.bind_some]
  rcases hL with ⟨a, d, d1, d2⟩ | ⟨a, b⟩
  · exact Or.inr ⟨by rw [a]; rfl, fun q => d2 (q d d1)⟩
  · exact Or.inl ⟨by rw [a]; rfl, fun c hc => b c (Nat.zero_le _) hc⟩
end
section
/-! Partition.place: the parts of a group as a chain -/
noncomputable def alA (se va : Nat → Int64) (ov : Nat → Nat) (O : Nat) (nm : Nat → Int32) (nx : Nat → Nat → Option Nat) (C p x : Nat) : Bool := @decide (LooksA se va ov O p x ∧ GoesA nm nx C p x) (Classical.propDecidable _)
theorem alA_iff {se va : Nat → Int64} {ov : Nat → Nat} {O : Nat} {nm : Nat → Int32} {nx : Nat → Nat → Option Nat} {C p x : Nat} : alA se va ov O nm nx C p x = true ↔ LooksA se va ov O p x ∧ GoesA nm nx C p x := by
  exact @decide_eq_true_iff _ (Classical.propDecidable _)
def hdI : List Nat → Int32
  | [] => -1
  | p :: _ => nI p
def lastI : Nat → List Nat → Nat
  | a, [] => a
  | _, p :: l => lastI p l
def Ch (be : Nat → Int32) : List Nat → Prop
  | [] => True
  | p :: l => be p = hdI l ∧ Ch be l
theorem Ch_of {be b2 : Nat → Int32} : ∀ {l : List Nat}, Ch be l → (∀ p, p ∈ l → b2 p = be p) → Ch b2 l
  | [], _, _ => trivial
  | p :: l, h, e => ⟨by rw [e p List.mem_cons_self]; exact h.1, Ch_of h.2 (fun q hq => e q (List.mem_cons_of_mem _ hq))⟩
/-- a state is set behind the last one -/
theorem Ch_app {be : Nat → Int32} {x : Nat} : ∀ {l : List Nat} {a : Nat}, l ≠ [] → l.Nodup → x ∉ l → Ch be l → Ch (upd (upd be (lastI a l) (nI x)) x (-1)) (l ++ [x])
  | [], _, h, _, _, _ => absurd rfl h
  | [p], a, _, _, hx, _ => by
    have hp : p ≠ x := fun e => hx (by rw [e]; exact List.mem_singleton_self _)
    refine ⟨?_, ?_, trivial⟩
    · rw [upd_eq, if_neg hp, upd_eq]
      show (if p = lastI p [] then nI x else be p) = _
      rw [lastI, if_pos rfl]; rfl
    · rw [upd_eq, if_pos rfl]; rfl
  | p :: q :: l, a, _, hn, hx, hc => by
    have ih := Ch_app (be := be) (x := x) (l := q :: l) (a := p) (by simp) (List.nodup_cons.mp hn).2 (fun z => hx (List.mem_cons_of_mem _ z)) hc.2
    have hp : p ≠ x := fun e => hx (by rw [e]; exact List.mem_cons_self)
    have hl : ∀ (m : List Nat) (b : Nat), lastI b m ∈ b :: m := by
      intro m
      induction m with
      | nil => intro b; exact List.mem_singleton_self _
      | cons c m ih2 => intro b; rw [lastI]; exact List.mem_cons_of_mem _ (ih2 c)
    have hpl : p ≠ lastI q l := fun e => (List.nodup_cons.mp hn).1 (by rw [e]; exact hl l q)
    refine ⟨?_, ih⟩
    rw [upd_eq, if_neg hp, upd_eq]
    show (if p = lastI q l then nI x else be p) = _
    rw [if_neg hpl, hc.1]; rfl
section PL
variable {se va : Nat → Int64} {ou nm ns : Nat → Int32} {ov : Nat → Nat} {nx : Nat → Nat → Option Nat} {O I S : Nat}
theorem p_placeL (hO : O ≤ 6) (hou : ∀ i, i < O → ou i = nI (ov i) ∧ ov i < 60) (hI : I ≤ 4) (hS : S ≤ 256) {x : Nat} (hx : x < S) (hnx : ∀ s, s < S → ∀ c, c < 2 ^ I → nxOf ns s c (nx s c) ∧ ∀ t, nx s c = some t → t < 256) {be : Nat → Int32} :
    ∀ (l : List Nat) (n last tried : Nat), Ch be l → l.length < n → tried + l.length ≤ 256 → (∀ p, p ∈ l → p < S) →
      L_Par_place_30 ou (nI I) (nI O) nm be se va ns (nI x) n (nI last) (hdI l) (nI tried) = some (match l.find? (fun p => alA se va ov O nm nx (2 ^ I) p x) with
        | some p => .inl (nI p)
        | none => .inr (nI (lastI last l))) := by
  intro l
  induction l with
  | nil =>
    intro n last tried _ h2 _ _
    obtain ⟨n, rfl⟩ : ∃ z, n = z + 1 := ⟨n - 1, by omega⟩
    rw [L_Par_place_30, hdI, if_pos rfl]
    rfl
  | cons p l ih =>
    intro n last tried hc h2 h3 h4
    obtain ⟨n, rfl⟩ : ∃ z, n = z + 1 := ⟨n - 1, by omega⟩
    rw [List.length_cons] at h2 h3
    have hp := h4 p List.mem_cons_self
    have hih := ih n p (tried + 1) hc.2 (by omega) (by omega) (fun q hq => h4 q (List.mem_cons_of_mem _ hq))
    have hL := p_looksAlike (se := se) (va := va) (ou := ou) (ov := ov) (s := p) (o := x) hO hou (by omega) (by omega)
    have hG := p_goesAlike (nm := nm) (ns := ns) (nx := nx) (s := p) (o := x) hI (by omega) (by omega) (hnx p hp) (hnx x hx)
    rw [L_Par_place_30, hdI, if_neg (m1_ne (by omega)), if_neg (show ¬ (256 : Int32) ≤ nI tried by rw [i256, nI_leI (by omega) (by omega)]; omega), List.find?_cons]
    have no : alA se va ov O nm nx (2 ^ I) p x = false → gd (vp_in (nI p) 256) (L_Par_place_30 ou (nI I) (nI O) nm be se va ns (nI x) n (nI p) (be (nI p).toNatClampNeg) (nI tried + (1 : Int32))) = some (match (match alA se va ov O nm nx (2 ^ I) p x with
        | true => some p
        | false => l.find? (fun p => alA se va ov O nm nx (2 ^ I) p x)) with
        | some p => .inl (nI p)
        | none => .inr (nI (lastI last (p :: l)))) := by
      intro e
      rw [gd_nI (by omega) (by decide), nI_clamp (by omega), hc.1, nI_1, hih, e]
      rfl
    rcases hL with ⟨a, b⟩ | ⟨a, b⟩
    · rw [a, Option.bind_some]
      dsimp only [sx_let]
      rw [if_neg (by decide)]
      rcases hG with ⟨c, d⟩ | ⟨c, d⟩
      · rw [c, Option.bind_some, if_neg (by decide), alA_iff.mpr ⟨b, d⟩]
      · rw [c, Option.bind_some, if_pos rfl]
        exact no (by rw [← Bool.not_eq_true, alA_iff]; exact fun z => d z.2)
    · rw [a, Option.bind_some]
      dsimp only [sx_let]
      rw [if_pos rfl]
      exact no (by rw [← Bool.not_eq_true, alA_iff]; exact fun z => b z.1)
end PL
end
section
/-! one round of splitting -/
/-- the parts of the group L among the states below x, each by its least state, as they come -/
def prt (rd : Nat → Bool) (N : Nat → Nat) (al : Nat → Nat → Bool) (L : Nat) : Nat → List Nat
  | 0 => []
  | x + 1 => if rd x = true ∧ N x = L ∧ (prt rd N al L x).find? (fun p => al p x) = none then prt rd N al L x ++ [x] else prt rd N al L x
/-- the part of a state -/
def fiN (rd : Nat → Bool) (N : Nat → Nat) (al : Nat → Nat → Bool) (x : Nat) : Nat := ((prt rd N al (N x) x).find? (fun p => al p x)).getD x
section PR
variable {rd : Nat → Bool} {N : Nat → Nat} {al : Nat → Nat → Bool}
theorem prt_mem {L : Nat} : ∀ {x p : Nat}, p ∈ prt rd N al L x → p < x ∧ rd p = true ∧ N p = L
  | 0, p, h => by simp [prt] at h
  | x + 1, p, h => by
    rw [prt] at h
    split at h
    · rename_i c
      rcases List.mem_append.mp h with h | h
      · have := prt_mem h
        exact ⟨by omega, this.2⟩
      · rw [List.mem_singleton.mp h]
        exact ⟨by omega, c.1, c.2.1⟩
    · have := prt_mem h
      exact ⟨by omega, this.2⟩
theorem prt_nodup {L : Nat} : ∀ {x : Nat}, (prt rd N al L x).Nodup
  | 0 => by simp [prt]
  | x + 1 => by
    rw [prt]
    split
    · rw [List.nodup_append]
      refine ⟨prt_nodup, by simp, fun a ha b hb => ?_⟩
      rw [List.mem_singleton.mp hb]
      have := (prt_mem ha).1
      omega
    · exact prt_nodup
theorem prt_none {L x : Nat} (hN : ∀ q, q < x → rd q = true → N q ≤ q) (h : x ≤ L) : prt rd N al L x = [] := by
  apply List.eq_nil_iff_forall_not_mem.mpr
  intro p hp
  obtain ⟨h1, h2, h3⟩ := prt_mem hp
  have := hN p h1 h2
  omega
theorem prt_head {L : Nat} (hr : rd L = true) (hL : N L = L) : ∀ {x : Nat}, L < x → (∀ q, q < x → rd q = true → N q ≤ q) → ∃ t, prt rd N al L x = L :: t
  | 0, h, _ => absurd h (by omega)
  | x + 1, h, hN => by
    rw [prt]
    rcases Nat.lt_or_ge L x with c | c
    · obtain ⟨t, ht⟩ := prt_head hr hL c (fun q hq => hN q (by omega))
      rw [ht]
      split
      · exact ⟨t ++ [x], rfl⟩
      · exact ⟨t, rfl⟩
    · have : x = L := by omega
      subst this
      rw [prt_none (fun q hq => hN q (by omega)) (Nat.le_refl _), if_pos ⟨hr, hL, rfl⟩]
      exact ⟨[], rfl⟩
end PR
theorem lastI_mem : ∀ (m : List Nat) (b : Nat), lastI b m ∈ b :: m
  | [], b => List.mem_singleton_self _
  | c :: m, b => by rw [lastI]; exact List.mem_cons_of_mem _ (lastI_mem m c)
section PS
variable {se va : Nat → Int64} {ou nm ns : Nat → Int32} {ov : Nat → Nat} {nx : Nat → Nat → Option Nat} {O I S : Nat} {rd : Nat → Bool} {N : Nat → Nat}
/-- the names of the groups: each the least of its own -/
def HN (S : Nat) (rd : Nat → Bool) (nm : Nat → Int32) (N : Nat → Nat) : Prop := ∀ q, q < S → rd q = true → nm q = nI (N q) ∧ N q ≤ q ∧ rd (N q) = true ∧ N (N q) = N q
theorem p_place (hO : O ≤ 6) (hou : ∀ i, i < O → ou i = nI (ov i) ∧ ov i < 60) (hI : I ≤ 4) (hS : S ≤ 256) (hnx : ∀ s, s < S → ∀ c, c < 2 ^ I → nxOf ns s c (nx s c) ∧ ∀ t, nx s c = some t → t < 256) (hN : HN S rd nm N)
    {x : Nat} (hx : x < S) (hr : rd x = true) {be : Nat → Int32} (hC : ∀ L, Ch be (prt rd N (alA se va ov O nm nx (2 ^ I)) L x)) :
    ∃ b2, m_Par_place ou (nI I) (nI O) nm be se va ns (nI x) = some (nI (fiN rd N (alA se va ov O nm nx (2 ^ I)) x), b2) ∧ ∀ L, Ch b2 (prt rd N (alA se va ov O nm nx (2 ^ I)) L (x + 1)) := by
  have hpl := p_placeL (se := se) (va := va) (nm := nm) hO hou hI hS hx hnx (be := be)
  generalize alA se va ov O nm nx (2 ^ I) = al at hpl hC ⊢
  obtain ⟨n1, n2, n3, n4⟩ := hN x hx hr
  have hNq : ∀ q, q < x → rd q = true → N q ≤ q := fun q hq hq2 => (hN q (by omega) hq2).2.1
  have hother : ∀ L, N x ≠ L → prt rd N al L (x + 1) = prt rd N al L x := fun L hL => by rw [prt, if_neg (fun z => hL z.2.1)]
  rw [m_Par_place, gd_nI (by omega) (by decide), nI_clamp (by omega), n1]
  simp only [nI_eq (show N x < 2 ^ 31 by omega) (show x < 2 ^ 31 by omega)]
  by_cases c : N x = x
  · have e0 : prt rd N al x x = [] := prt_none hNq (Nat.le_refl _)
    have ef : fiN rd N al x = x := by rw [fiN, c, e0]; rfl
    rw [if_pos c, gd_nI (by omega) (by decide), ef]
    refine ⟨_, rfl, fun L => ?_⟩
    by_cases d : N x = L
    · rw [← d, c, prt, e0, if_pos ⟨hr, c, rfl⟩]
      exact ⟨by rw [upd_eq, if_pos rfl]; rfl, trivial⟩
    · rw [hother L d]
      exact Ch_of (hC L) fun p hp => by rw [upd_eq, if_neg (by have := (prt_mem hp).1; omega)]
  · obtain ⟨t, ht⟩ := prt_head (al := al) n3 n4 (show N x < x by omega) hNq
    have hlen := nodup_le (prt_nodup (rd := rd) (N := N) (al := al) (L := N x) (x := x)) (fun q hq => (prt_mem hq).1)
    have hq := hpl (prt rd N al (N x) x) fu (N x) 0 (hC _) (by rw [fu]; omega) (by omega) (fun p hp => by have := (prt_mem hp).1; omega)
    have ehd : hdI (prt rd N al (N x) x) = nI (N x) := by rw [ht]; rfl
    rw [ehd] at hq
    have hq' : L_Par_place_30 ou (nI I) (nI O) nm be se va ns (nI x) fu (nI (N x)) (nI (N x)) (0 : Int32) = _ := hq
    rw [if_neg c, hq', Option.bind_some]
    cases e : (prt rd N al (N x) x).find? (fun p => al p x) with
    | some p =>
      have ef : fiN rd N al x = p := by rw [fiN, e]; rfl
      rw [ef]
      refine ⟨be, rfl, fun L => ?_⟩
      rw [prt]
      by_cases d : N x = L
      · rw [if_neg (fun z => by rw [← d, e] at z; exact absurd z.2.2 (by simp))]; exact hC L
      · rw [if_neg (fun z => d z.2.1)]; exact hC L
    | none =>
      have ef : fiN rd N al x = x := by rw [fiN, e]; rfl
      have hla : lastI (N x) (prt rd N al (N x) x) ∈ prt rd N al (N x) x := by
        have := lastI_mem (prt rd N al (N x) x) (N x)
        rcases List.mem_cons.mp this with z | z
        · rw [z, ht]; exact List.mem_cons_self
        · exact z
      have hlx := prt_mem hla
      dsimp only [Sum.elim_inr]
      rw [ef, gd_nI (by omega) (by decide), gd_nI (by omega) (by decide), nI_clamp (by omega)]
      refine ⟨_, rfl, fun L => ?_⟩
      by_cases d : N x = L
      · subst d
        rw [prt, if_pos ⟨hr, rfl, e⟩]
        exact Ch_app (by rw [ht]; simp) prt_nodup (fun z => by have := (prt_mem z).1; omega) (hC _)
      · rw [hother L d]
        refine Ch_of (hC L) fun p hp => ?_
        have hp2 := prt_mem hp
        rw [upd_eq, if_neg (by omega), upd_eq, if_neg (fun z => d (by rw [← hp2.2.2, z]; exact hlx.2.2.symm))]
end PS
end
section
/-! splitOnce, whole -/
section PR
variable {rd : Nat → Bool} {N : Nat → Nat} {al : Nat → Nat → Bool}
theorem prt_fi {L : Nat} : ∀ {x p : Nat}, p ∈ prt rd N al L x → fiN rd N al p = p
  | 0, p, h => by simp [prt] at h
  | x + 1, p, h => by
    rw [prt] at h
    split at h
    · rename_i c
      rcases List.mem_append.mp h with h | h
      · exact prt_fi h
      · rw [List.mem_singleton.mp h, fiN, c.2.1, c.2.2]; rfl
    · exact prt_fi h
theorem fiN_of {x : Nat} (hr : rd x = true) : fiN rd N al x ≤ x ∧ rd (fiN rd N al x) = true ∧ N (fiN rd N al x) = N x ∧ fiN rd N al (fiN rd N al x) = fiN rd N al x := by
  cases e : (prt rd N al (N x) x).find? (fun p => al p x) with
  | some p =>
    have ef : fiN rd N al x = p := by rw [fiN, e]; rfl
    have hm := List.mem_of_find?_eq_some e
    have h := prt_mem hm
    rw [ef]
    exact ⟨by omega, h.2.1, h.2.2, prt_fi hm⟩
  | none =>
    have ef : fiN rd N al x = x := by rw [fiN, e]; rfl
    rw [ef]
    exact ⟨Nat.le_refl _, hr, rfl, ef⟩
def nPt (rd : Nat → Bool) (f : Nat → Nat) (x k : Nat) : Nat := (List.range' x k).countP (fun q => rd q && decide (f q = q))
theorem nPt_le {f : Nat → Nat} {x k : Nat} : nPt rd f x k ≤ k := by
  have := List.countP_le_length (p := fun q => rd q && decide (f q = q)) (l := List.range' x k)
  rw [List.length_range'] at this
  exact this
end PR
section PS
variable {se va : Nat → Int64} {ou nm ns di : Nat → Int32} {ov : Nat → Nat} {nx : Nat → Nat → Option Nat} {O I S : Nat} {rd : Nat → Bool} {N : Nat → Nat}
theorem p_splitL (hO : O ≤ 6) (hou : ∀ i, i < O → ou i = nI (ov i) ∧ ov i < 60) (hI : I ≤ 4) (hS : S ≤ 256) (hnx : ∀ s, s < S → ∀ c, c < 2 ^ I → nxOf ns s c (nx s c) ∧ ∀ t, nx s c = some t → t < 256) (hN : HN S rd nm N) (hdi : ∀ q, q < S → (di q = -1 ↔ rd q = false)) :
    ∀ (k n x m : Nat) (fi be : Nat → Int32), x + k = S → k < n → (∀ L, Ch be (prt rd N (alA se va ov O nm nx (2 ^ I)) L x)) → (∀ q, q < x → rd q = true → fi q = nI (fiN rd N (alA se va ov O nm nx (2 ^ I)) q)) →
      ∃ f2 b2, L_Par_splitOnce_12 ou (nI I) (nI O) nm se va ns di (nI S) n (nI m) (nI x) fi be = some (nI (m + nPt rd (fiN rd N (alA se va ov O nm nx (2 ^ I))) x k), f2, b2) ∧ ∀ q, q < S → rd q = true → f2 q = nI (fiN rd N (alA se va ov O nm nx (2 ^ I)) q) := by
  intro k
  induction k with
  | zero =>
    intro n x m fi be h1 h2 hC hf
    obtain ⟨n, rfl⟩ : ∃ z, n = z + 1 := ⟨n - 1, by omega⟩
    rw [L_Par_splitOnce_12, if_pos ((nI_leI (by omega) (by omega)).mpr (by omega))]
    exact ⟨fi, be, rfl, fun q hq => hf q (by omega)⟩
  | succ k ih =>
    intro n x m fi be h1 h2 hC hf
    obtain ⟨n, rfl⟩ : ∃ z, n = z + 1 := ⟨n - 1, by omega⟩
    have hx : x < S := by omega
    rw [L_Par_splitOnce_12, if_neg (by rw [nI_leI (by omega) (by omega)]; omega), gd_nI (by omega) (by decide), nI_clamp (by omega), nI_1, nI_1, nPt, List.range'_succ, List.countP_cons]
    cases hr : rd x with
    | false =>
      rw [if_pos ((hdi x hx).mpr hr)]
      obtain ⟨f2, b2, r1, r2⟩ := ih n (x + 1) m fi be (by omega) (by omega) (fun L => by rw [prt, if_neg (fun z => by rw [hr] at z; exact absurd z.1 (by decide))]; exact hC L) (fun q hq hq2 => by
        rcases Nat.lt_or_ge q x with c | c
        · exact hf q c hq2
        · rw [show q = x by omega, hr] at hq2; cases hq2)
      refine ⟨f2, b2, ?_, r2⟩
      rw [r1]
      rfl
    | true =>
      obtain ⟨b3, p1, p2⟩ := p_place hO hou hI hS hnx hN hx hr hC
      have hfi := (fiN_of (rd := rd) (N := N) (al := alA se va ov O nm nx (2 ^ I)) hr).1
      rw [if_neg (fun z => by have := (hdi x hx).mp z; rw [hr] at this; cases this), p1, Option.bind_some, gd_nI (by omega) (by decide), gd_nI (by omega) (by decide)]
      dsimp only
      rw [upd_eq, if_pos rfl]
      have hf2 : ∀ q, q < x + 1 → rd q = true → upd fi x (nI (fiN rd N (alA se va ov O nm nx (2 ^ I)) x)) q = nI (fiN rd N (alA se va ov O nm nx (2 ^ I)) q) := by
        intro q hq hq2
        rw [upd_eq]
        by_cases c : q = x
        · rw [if_pos c, c]
        · rw [if_neg c]; exact hf q (by omega) hq2
      simp only [nI_eq (show fiN rd N (alA se va ov O nm nx (2 ^ I)) x < 2 ^ 31 by omega) (show x < 2 ^ 31 by omega)]
      by_cases c : fiN rd N (alA se va ov O nm nx (2 ^ I)) x = x
      · rw [if_pos c]
        obtain ⟨f2, b2, r1, r2⟩ := ih n (x + 1) (m + 1) _ b3 (by omega) (by omega) p2 hf2
        refine ⟨f2, b2, ?_, r2⟩
        rw [r1, nPt, if_pos (by simp [c]), Nat.add_assoc, Nat.add_comm 1]
      · rw [if_neg c]
        obtain ⟨f2, b2, r1, r2⟩ := ih n (x + 1) m _ b3 (by omega) (by omega) p2 hf2
        refine ⟨f2, b2, ?_, r2⟩
        rw [r1, nPt, if_neg (by simp [c])]
        rfl
end PS
end
section
/-! Partition.split, whole -/
theorem fnd_congr {f g : Nat → Bool} : ∀ {l : List Nat}, (∀ p, p ∈ l → f p = g p) → l.find? f = l.find? g
  | [], _ => rfl
  | p :: l, h => by
    rw [List.find?_cons, List.find?_cons, h p List.mem_cons_self, fnd_congr (fun q hq => h q (List.mem_cons_of_mem _ hq))]
section PC
variable {rd : Nat → Bool} {N : Nat → Nat} {al a2 : Nat → Nat → Bool} {S : Nat}
theorem prt_congr (h : ∀ p, p < S → rd p = true → ∀ x, x < S → rd x = true → al p x = a2 p x) {L : Nat} : ∀ {x : Nat}, x ≤ S → prt rd N al L x = prt rd N a2 L x
  | 0, _ => rfl
  | x + 1, hx => by
    rw [prt, prt, prt_congr h (by omega)]
    cases hr : rd x with
    | false => rw [if_neg (fun z => by cases z.1), if_neg (fun z => by cases z.1)]
    | true => rw [fnd_congr (f := fun p => al p x) (g := fun p => a2 p x) (fun p hp => h p (by have := (prt_mem hp).1; omega) (prt_mem hp).2.1 x (by omega) hr)]
theorem fiN_congr (h : ∀ p, p < S → rd p = true → ∀ x, x < S → rd x = true → al p x = a2 p x) {x : Nat} (hx : x < S) (hr : rd x = true) : fiN rd N al x = fiN rd N a2 x := by
  rw [fiN, fiN, prt_congr h (by omega), fnd_congr (f := fun p => al p x) (g := fun p => a2 p x) (fun p hp => h p (by have := (prt_mem hp).1; omega) (prt_mem hp).2.1 x hx hr)]
theorem nPt_congr {f g : Nat → Nat} {k : Nat} (h : ∀ q, q < k → rd q = true → f q = g q) : nPt rd f 0 k = nPt rd g 0 k := by
  rw [nPt, nPt]
  apply List.countP_congr
  intro q hq
  have hk : q < k := by have := List.mem_range'_1.mp hq; omega
  cases hr : rd q with
  | false => simp
  | true => rw [h q hk hr]
end PC
section PS
variable {se va : Nat → Int64} {ou nm ns di : Nat → Int32} {ov : Nat → Nat} {nx : Nat → Nat → Option Nat} {O I K : Nat} {rd : Nat → Bool} {N : Nat → Nat}
/-- states are alike under the names N -/
noncomputable def alN (se va : Nat → Int64) (ov : Nat → Nat) (O : Nat) (N : Nat → Nat) (nx : Nat → Nat → Option Nat) (C : Nat) : Nat → Nat → Bool := alA se va ov O (fun q => nI (N q)) nx C
theorem alN_eq {S C : Nat} (hN : HN S rd nm N) (hcl : ∀ s, s < S → rd s = true → ∀ c, c < C → ∀ t, nx s c = some t → t < S ∧ rd t = true) : ∀ p, p < S → rd p = true → ∀ x, x < S → rd x = true → alA se va ov O nm nx C p x = alN se va ov O N nx C p x := by
  intro p hp hp2 x hx hx2
  have key : ∀ s, s < S → rd s = true → ∀ c, c < C → nmN nm nx s c = nmN (fun q => nI (N q)) nx s c := by
    intro s hs hs2 c hc
    rw [nmN, nmN]
    cases e : nx s c with
    | none => rfl
    | some t =>
      obtain ⟨t1, t2⟩ := hcl s hs hs2 c hc t e
      exact (hN t t1 t2).1
  rw [Bool.eq_iff_iff, alN, alA_iff, alA_iff]
  refine and_congr Iff.rfl ⟨fun h c hc => ?_, fun h c hc => ?_⟩
  · rw [← key p hp hp2 c hc, ← key x hx hx2 c hc]; exact h c hc
  · rw [key p hp hp2 c hc, key x hx hx2 c hc]; exact h c hc
theorem p_splitOnce (hO : O ≤ 6) (hou : ∀ i, i < O → ou i = nI (ov i) ∧ ov i < 60) (hI : I ≤ 4) (hK : K ≤ 8) (hnx : ∀ s, s < 2 ^ K → ∀ c, c < 2 ^ I → nxOf ns s c (nx s c) ∧ ∀ t, nx s c = some t → t < 2 ^ K) (hcl : ∀ s, s < 2 ^ K → rd s = true → ∀ c, c < 2 ^ I → ∀ t, nx s c = some t → rd t = true) (hdi : ∀ q, q < 2 ^ K → (di q = -1 ↔ rd q = false)) (hN : HN (2 ^ K) rd nm N) (fi be : Nat → Int32) :
    ∃ v, m_Par_splitOnce ou (nI I) (nI K) (nI O) nm fi be se va ns di = some v ∧ v.1 = nI (nPt rd (fiN rd N (alN se va ov O N nx (2 ^ I))) 0 (2 ^ K)) ∧ HN (2 ^ K) rd v.2.1 (fiN rd N (alN se va ov O N nx (2 ^ I))) := by
  have hpK := pow8 hK
  have hnx2 : ∀ s, s < 2 ^ K → ∀ c, c < 2 ^ I → nxOf ns s c (nx s c) ∧ ∀ t, nx s c = some t → t < 256 := fun s hs c hc => ⟨(hnx s hs c hc).1, fun t ht => by have := (hnx s hs c hc).2 t ht; omega⟩
  have hal := alN_eq (se := se) (va := va) (ov := ov) (O := O) (C := 2 ^ I) hN (fun s hs hs2 c hc t ht => ⟨(hnx s hs c hc).2 t ht, hcl s hs hs2 c hc t ht⟩)
  obtain ⟨f2, b2, r1, r2⟩ := p_splitL (se := se) (va := va) hO hou hI hpK.2 hnx2 hN hdi (2 ^ K) fu 0 0 fi be (by omega) (by rw [fu]; omega) (fun L => trivial) (fun q hq => absurd hq (by omega))
  rw [Nat.zero_add] at r1
  have r1' : L_Par_splitOnce_12 ou (nI I) (nI O) nm se va ns di (nI (2 ^ K)) fu (0 : Int32) (0 : Int32) fi be = _ := r1
  have hg : ¬ (0 : Int32) < 0 ∧ ¬ (0 : Int32) < 0 ∧ ¬ nI (2 ^ K) < 0 ∧ (0 : Int32).toNatClampNeg + (nI (2 ^ K)).toNatClampNeg ≤ 256 ∧ (0 : Int32).toNatClampNeg + (nI (2 ^ K)).toNatClampNeg ≤ 256 := by
    have z0 : (0 : Int32).toNatClampNeg = 0 := by decide
    rw [nI_clamp (by omega), z0]
    refine ⟨by decide, by decide, ?_, by omega, by omega⟩
    rw [i0, nI_ltI (by omega) (by omega)]
    omega
  rw [m_Par_splitOnce, p_stateTotal hK, Option.bind_some, r1', Option.bind_some, gd_in hg]
  refine ⟨_, rfl, ?_, ?_⟩
  · dsimp only
    rw [nPt_congr (fun q hq hr => fiN_congr hal hq hr)]
  · intro q hq hr
    have h1 := fiN_of (rd := rd) (N := N) (al := alN se va ov O N nx (2 ^ I)) hr
    refine ⟨?_, h1.1, h1.2.1, h1.2.2.2⟩
    have z0 : (0 : Int32).toNatClampNeg = 0 := by decide
    dsimp only
    rw [va_cpy, z0, nI_clamp (by omega), if_pos ⟨by omega, by omega⟩, Nat.sub_zero, Nat.zero_add, r2 q hq hr, fiN_congr hal hq hr]
/-- the names after each round -/
noncomputable def spl (se va : Nat → Int64) (ov : Nat → Nat) (O : Nat) (nx : Nat → Nat → Option Nat) (C : Nat) (rd : Nat → Bool) : Nat → Nat → Nat
  | 0 => fun _ => 0
  | i + 1 => fiN rd (spl se va ov O nx C rd i) (alN se va ov O (spl se va ov O nx C rd i) nx C)
noncomputable def splT (se va : Nat → Int64) (ov : Nat → Nat) (O : Nat) (nx : Nat → Nat → Option Nat) (C : Nat) (rd : Nat → Bool) (S : Nat) : Nat → Nat
  | 0 => 1
  | i + 1 => nPt rd (spl se va ov O nx C rd (i + 1)) 0 S
theorem p_splitR (hO : O ≤ 6) (hou : ∀ i, i < O → ou i = nI (ov i) ∧ ov i < 60) (hI : I ≤ 4) (hK : K ≤ 8) (hnx : ∀ s, s < 2 ^ K → ∀ c, c < 2 ^ I → nxOf ns s c (nx s c) ∧ ∀ t, nx s c = some t → t < 2 ^ K) (hcl : ∀ s, s < 2 ^ K → rd s = true → ∀ c, c < 2 ^ I → ∀ t, nx s c = some t → rd t = true) (hdi : ∀ q, q < 2 ^ K → (di q = -1 ↔ rd q = false)) :
    ∀ (k n i : Nat) (nm fi be : Nat → Int32), i + k = 256 → k < n → HN (2 ^ K) rd nm (spl se va ov O nx (2 ^ I) rd i) → (∀ j, j < i → splT se va ov O nx (2 ^ I) rd (2 ^ K) (j + 1) ≠ splT se va ov O nx (2 ^ I) rd (2 ^ K) j) →
      ∃ w j, (L_Par_split_38 ou (nI I) (nI K) (nI O) se va ns di n (nI i) nm fi be (nI (splT se va ov O nx (2 ^ I) rd (2 ^ K) i)) = some (.inl w) ∧ splT se va ov O nx (2 ^ I) rd (2 ^ K) (j + 1) = splT se va ov O nx (2 ^ I) rd (2 ^ K) j ∧ HN (2 ^ K) rd w.1 (spl se va ov O nx (2 ^ I) rd (j + 1)) ∧ w.2.2.2 = nI (splT se va ov O nx (2 ^ I) rd (2 ^ K) (j + 1))) ∨ (L_Par_split_38 ou (nI I) (nI K) (nI O) se va ns di n (nI i) nm fi be (nI (splT se va ov O nx (2 ^ I) rd (2 ^ K) i)) = some (.inr w) ∧ ∀ j, j < 256 → splT se va ov O nx (2 ^ I) rd (2 ^ K) (j + 1) ≠ splT se va ov O nx (2 ^ I) rd (2 ^ K) j) := by
  intro k
  have hpK := pow8 hK
  have hT : ∀ i, splT se va ov O nx (2 ^ I) rd (2 ^ K) i ≤ 256 := by
    intro i
    cases i with
    | zero => rw [splT]; omega
    | succ i => rw [splT]; have := nPt_le (rd := rd) (f := spl se va ov O nx (2 ^ I) rd (i + 1)) (x := 0) (k := 2 ^ K); omega
  induction k with
  | zero =>
    intro n i nm fi be h1 h2 hN hj
    obtain ⟨n, rfl⟩ : ∃ z, n = z + 1 := ⟨n - 1, by omega⟩
    rw [L_Par_split_38, if_pos (by rw [i256, nI_leI (by omega) (by omega)]; omega)]
    exact ⟨_, 0, Or.inr ⟨rfl, fun j hj2 => hj j (by omega)⟩⟩
  | succ k ih =>
    intro n i nm fi be h1 h2 hN hj
    obtain ⟨n, rfl⟩ : ∃ z, n = z + 1 := ⟨n - 1, by omega⟩
    obtain ⟨v, v1, v2, v3⟩ := p_splitOnce (se := se) (va := va) hO hou hI hK hnx hcl hdi hN fi be
    have v2' : v.1 = nI (splT se va ov O nx (2 ^ I) rd (2 ^ K) (i + 1)) := v2
    have v3' : HN (2 ^ K) rd v.2.1 (spl se va ov O nx (2 ^ I) rd (i + 1)) := v3
    have t1 := hT i
    have t2 := hT (i + 1)
    rw [L_Par_split_38, if_neg (by rw [i256, nI_leI (by omega) (by omega)]; omega), v1, Option.bind_some, v2', nI_1]
    by_cases c : splT se va ov O nx (2 ^ I) rd (2 ^ K) (i + 1) = splT se va ov O nx (2 ^ I) rd (2 ^ K) i
    · rw [if_pos (by rw [c])]
      exact ⟨_, i, Or.inl ⟨rfl, c, v3', rfl⟩⟩
    · rw [if_neg (by rw [nI_eq (by omega) (by omega)]; exact c)]
      exact ih n (i + 1) _ _ _ (by omega) (by omega) v3' (fun j hj2 => by
        rcases Nat.lt_or_ge j i with d | d
        · exact hj j d
        · rw [show j = i by omega]; exact c)
end PS
end
section
/-! the rounds end, and where they end the names stand -/
theorem cnt_le {p q : Nat → Bool} : ∀ {l : List Nat}, (∀ x, x ∈ l → p x = true → q x = true) → l.countP p ≤ l.countP q
  | [], _ => Nat.le_refl _
  | x :: l, h => by
    have ih := cnt_le (p := p) (q := q) (l := l) (fun y hy => h y (List.mem_cons_of_mem _ hy))
    have h0 := h x List.mem_cons_self
    rw [List.countP_cons, List.countP_cons]
    by_cases c : p x = true
    · rw [if_pos c, if_pos (h0 c)]; omega
    · rw [if_neg c]; omega
theorem cnt_eq {p q : Nat → Bool} : ∀ {l : List Nat}, (∀ x, x ∈ l → p x = true → q x = true) → l.countP p = l.countP q → ∀ x, x ∈ l → q x = true → p x = true
  | [], _, _, x, hx, _ => absurd hx (by simp)
  | y :: l, h, e, x, hx, hq => by
    have h1 : ∀ x, x ∈ l → p x = true → q x = true := fun y hy => h y (List.mem_cons_of_mem _ hy)
    have h2 := cnt_le h1
    have h0 := h y List.mem_cons_self
    rw [List.countP_cons, List.countP_cons] at e
    by_cases c : p y = true
    · rw [if_pos c, if_pos (h0 c)] at e
      rcases List.mem_cons.mp hx with z | z
      · rw [z]; exact c
      · exact cnt_eq h1 (by omega) x z hq
    · rw [if_neg c] at e
      by_cases d : q y = true
      · rw [if_pos d] at e; omega
      · rw [if_neg d] at e
        rcases List.mem_cons.mp hx with z | z
        · rw [z] at hq; exact absurd hq d
        · exact cnt_eq h1 (by omega) x z hq
section PS
variable {se va : Nat → Int64} {ou nm ns di : Nat → Int32} {ov : Nat → Nat} {nx : Nat → Nat → Option Nat} {O I K S C : Nat} {rd : Nat → Bool}
theorem spl_le {i q : Nat} (hr : rd q = true) : spl se va ov O nx C rd i q ≤ q := by
  cases i with
  | zero => exact Nat.zero_le _
  | succ i => rw [spl]; exact (fiN_of hr).1
theorem spl_idem {i q : Nat} (h0 : rd 0 = true) (hr : rd q = true) : rd (spl se va ov O nx C rd i q) = true ∧ spl se va ov O nx C rd i (spl se va ov O nx C rd i q) = spl se va ov O nx C rd i q := by
  cases i with
  | zero => exact ⟨h0, rfl⟩
  | succ i => rw [spl]; have := fiN_of (rd := rd) (N := spl se va ov O nx C rd i) (al := alN se va ov O (spl se va ov O nx C rd i) nx C) hr; exact ⟨this.2.1, this.2.2.2⟩
/-- who is the least stays it -/
theorem spl_keep {i q : Nat} (hr : rd q = true) (h : spl se va ov O nx C rd i q = q) : spl se va ov O nx C rd (i + 1) q = q := by
  rw [spl, fiN, h, prt_none (fun p _ hp => spl_le hp) (Nat.le_refl _)]
  rfl
theorem splT_eq (h0 : rd 0 = true) (hS : 1 ≤ S) : ∀ i, splT se va ov O nx C rd S i = nPt rd (spl se va ov O nx C rd i) 0 S
  | 0 => by
    obtain ⟨S, rfl⟩ : ∃ z, S = z + 1 := ⟨S - 1, by omega⟩
    rw [splT, nPt, List.range'_succ, List.countP_cons, if_pos (by simp [h0, spl]), List.countP_eq_zero.mpr]
    intro q hq
    have := List.mem_range'_1.mp hq
    rw [Bool.and_eq_true, decide_eq_true_eq]
    intro h
    have e : (0 : Nat) = q := h.2
    omega
  | i + 1 => rfl
theorem splT_up (h0 : rd 0 = true) (hS : 1 ≤ S) (i : Nat) : splT se va ov O nx C rd S i ≤ splT se va ov O nx C rd S (i + 1) := by
  rw [splT_eq h0 hS, splT_eq h0 hS, nPt, nPt]
  apply cnt_le
  intro q _ h
  rw [Bool.and_eq_true, decide_eq_true_eq] at h ⊢
  exact ⟨h.1, spl_keep h.1 h.2⟩
theorem splT_end (h0 : rd 0 = true) (hS : 1 ≤ S) : ∀ i, (∀ j, j < i → splT se va ov O nx C rd S (j + 1) ≠ splT se va ov O nx C rd S j) → i + 1 ≤ splT se va ov O nx C rd S i
  | 0, _ => Nat.le_refl _
  | i + 1, h => by
    have h1 := splT_end h0 hS i (fun j hj => h j (by omega))
    have h2 := splT_up (se := se) (va := va) (ov := ov) (O := O) (nx := nx) (C := C) h0 hS i
    have h3 := h i (by omega)
    omega
/-- as many parts as before: the same parts -/
theorem spl_stable (h0 : rd 0 = true) (hS : 1 ≤ S) {j : Nat} (h : splT se va ov O nx C rd S (j + 1) = splT se va ov O nx C rd S j) {q : Nat} (hq : q < S) (hr : rd q = true) : spl se va ov O nx C rd (j + 1) q = spl se va ov O nx C rd j q := by
  rw [splT_eq h0 hS, splT_eq h0 hS, nPt, nPt] at h
  have hf := fiN_of (rd := rd) (N := spl se va ov O nx C rd j) (al := alN se va ov O (spl se va ov O nx C rd j) nx C) hr
  have e : spl se va ov O nx C rd (j + 1) = fiN rd (spl se va ov O nx C rd j) (alN se va ov O (spl se va ov O nx C rd j) nx C) := rfl
  rw [← e] at hf
  have hk := cnt_eq (p := fun q => rd q && decide (spl se va ov O nx C rd j q = q)) (q := fun q => rd q && decide (spl se va ov O nx C rd (j + 1) q = q)) (l := List.range' 0 S) (fun x _ hx => by
    rw [Bool.and_eq_true, decide_eq_true_eq] at hx ⊢
    exact ⟨hx.1, spl_keep hx.1 hx.2⟩) h.symm (spl se va ov O nx C rd (j + 1) q) (List.mem_range'_1.mpr ⟨Nat.zero_le _, by omega⟩) (by rw [Bool.and_eq_true, decide_eq_true_eq]; exact ⟨hf.2.1, hf.2.2.2⟩)
  rw [Bool.and_eq_true, decide_eq_true_eq] at hk
  rw [← hf.2.2.1]
  exact hk.2.symm
theorem p_split9 {S : Nat} (hS : S ≤ 256) : ∀ (k n i : Nat) (nm : Nat → Int32), i + k = S → k < n → ∃ r, L_Par_split_9 (nI S) n (nI i) nm = some r ∧ (∀ s, i ≤ s → s < S → r s = 0) ∧ ∀ s, s < i → r s = nm s := by
  intro k
  induction k with
  | zero =>
    intro n i di h1 h2
    obtain ⟨n, rfl⟩ : ∃ z, n = z + 1 := ⟨n - 1, by omega⟩
    rw [L_Par_split_9, if_pos ((nI_leI (by omega) (by omega)).mpr (by omega))]
    exact ⟨_, rfl, fun s a b => absurd b (by omega), fun _ _ => rfl⟩
  | succ k ih =>
    intro n i di h1 h2
    obtain ⟨n, rfl⟩ : ∃ z, n = z + 1 := ⟨n - 1, by omega⟩
    rw [L_Par_split_9, if_neg (by rw [nI_leI (by omega) (by omega)]; omega), gd_nI (by omega) (by decide), nI_clamp (by omega), nI_1]
    obtain ⟨r, r1, r2, r3⟩ := ih n (i + 1) (upd di i 0) (by omega) (by omega)
    refine ⟨r, r1, fun s a b => ?_, fun s a => by rw [r3 s (by omega), upd_eq, if_neg (by omega)]⟩
    rcases Nat.lt_or_ge i s with e | e
    · exact r2 s (by omega) b
    · rw [r3 s (by omega), upd_eq, if_pos (by omega)]
/-- Partition.split: names that stand under one more round, and how many -/
theorem p_split (hO : O ≤ 6) (hou : ∀ i, i < O → ou i = nI (ov i) ∧ ov i < 60) (hI : I ≤ 4) (hK : K ≤ 8) (hnx : ∀ s, s < 2 ^ K → ∀ c, c < 2 ^ I → nxOf ns s c (nx s c) ∧ ∀ t, nx s c = some t → t < 2 ^ K) (hcl : ∀ s, s < 2 ^ K → rd s = true → ∀ c, c < 2 ^ I → ∀ t, nx s c = some t → rd t = true) (hdi : ∀ q, q < 2 ^ K → (di q = -1 ↔ rd q = false)) (h0 : rd 0 = true) (nm fi be : Nat → Int32) (tot : Int32) :
    ∃ w j, m_Par_split ou (nI I) (nI K) (nI O) nm fi be tot se va ns di = some w ∧ HN (2 ^ K) rd w.1 (spl se va ov O nx (2 ^ I) rd (j + 1)) ∧ w.2.2.2 = nI (nPt rd (spl se va ov O nx (2 ^ I) rd (j + 1)) 0 (2 ^ K)) ∧ ∀ q, q < 2 ^ K → rd q = true → spl se va ov O nx (2 ^ I) rd (j + 1) q = spl se va ov O nx (2 ^ I) rd j q := by
  have hpK := pow8 hK
  obtain ⟨r, r1, r2, -⟩ := p_split9 hpK.2 (2 ^ K) fu 0 nm (by omega) (by rw [fu]; omega)
  have r1' : L_Par_split_9 (nI (2 ^ K)) fu (0 : Int32) nm = some r := r1
  have hN : HN (2 ^ K) rd r (spl se va ov O nx (2 ^ I) rd 0) := fun q hq _ => ⟨r2 q (Nat.zero_le _) hq, Nat.zero_le _, h0, rfl⟩
  obtain ⟨w, j, h⟩ := p_splitR (se := se) (va := va) hO hou hI hK hnx hcl hdi 256 fu 0 r fi be (by omega) (by rw [fu]; omega) hN (fun j hj => absurd hj (by omega))
  rcases h with ⟨a, b, c, d⟩ | ⟨a, b⟩
  · have a' : L_Par_split_38 ou (nI I) (nI K) (nI O) se va ns di fu (0 : Int32) r fi be (1 : Int32) = some (.inl w) := a
    refine ⟨w, j, ?_, c, d, fun q hq hr => spl_stable h0 hpK.1 b hq hr⟩
    rw [m_Par_split, p_stateTotal hK, Option.bind_some, r1', Option.bind_some, a', Option.bind_some]
    rfl
  · have := splT_end h0 hpK.1 256 b
    rw [splT] at this
    have := nPt_le (rd := rd) (f := spl se va ov O nx (2 ^ I) rd (255 + 1)) (x := 0) (k := 2 ^ K)
    omega
end PS
end
section
/-! the walk is closed under the next states -/
theorem step_in {nx : Nat → Nat → Option Nat} {s c t : Nat} {A : WA} (h : nx s c = some t) : t ∈ (stepA nx s A c).1 := by
  rw [stepA, h]
  dsimp only
  split
  · assumption
  · exact List.mem_append_right _ (List.mem_singleton_self _)
theorem fold_in {nx : Nat → Nat → Option Nat} {s c t : Nat} (h : nx s c = some t) : ∀ {l : List Nat} {A : WA}, c ∈ l → t ∈ (l.foldl (stepA nx s) A).1
  | [], _, hc => absurd hc (by simp)
  | d :: l, A, hc => by
    rw [List.foldl_cons]
    rcases List.mem_cons.mp hc with z | z
    · obtain ⟨u, hu⟩ := fold_pre (nx := nx) (s := s) l (stepA nx s A d)
      rw [hu, ← z]
      exact List.mem_append_left _ (step_in h)
    · exact fold_in h z
theorem leave_pre {nx : Nat → Nat → Option Nat} {C s : Nat} (A : WA) : ∃ t, (leaveA nx C A s).1 = A.1 ++ t := fold_pre _ _
theorem walk_pre {nx : Nat → Nat → Option Nat} {C : Nat} : ∀ (k i : Nat) (A : WA), ∃ t, (walkA nx C k i A).1 = A.1 ++ t
  | 0, _, A => ⟨[], by rw [walkA]; simp⟩
  | k + 1, i, A => by
    rw [walkA]
    split
    · exact ⟨[], by simp⟩
    · obtain ⟨u, hu⟩ := leave_pre (nx := nx) (C := C) (s := A.1.getD i 0) A
      obtain ⟨v, hv⟩ := walk_pre (nx := nx) (C := C) k (i + 1) (leaveA nx C A (A.1.getD i 0))
      exact ⟨u ++ v, by rw [hv, hu, List.append_assoc]⟩
theorem IA_fold {S s : Nat} {nx : Nat → Nat → Option Nat} : ∀ {l : List Nat} {A : WA}, IA S A → s ∈ A.1 → (∀ c, c ∈ l → ∀ t, nx s c = some t → t < S) → IA S (l.foldl (stepA nx s) A)
  | [], _, h, _, _ => h
  | c :: l, A, h, hs, hn => by
    obtain ⟨h1, h2⟩ := IA_step (nx := nx) (c := c) h hs (hn c List.mem_cons_self)
    rw [List.foldl_cons]
    exact IA_fold h1 h2 (fun d hd => hn d (List.mem_cons_of_mem _ hd))
theorem walk_closed {S C : Nat} {nx : Nat → Nat → Option Nat} (hS : S ≤ 256) (hn : ∀ s, s < S → ∀ c, c < C → ∀ t, nx s c = some t → t < S) : ∀ (k i : Nat) (A : WA), i + k = 256 → IA S A → (∀ s, s ∈ A.1.take i → ∀ c, c < C → ∀ t, nx s c = some t → t ∈ A.1) →
    ∀ s, s ∈ (walkA nx C k i A).1 → ∀ c, c < C → ∀ t, nx s c = some t → t ∈ (walkA nx C k i A).1
  | 0, i, A, h1, hI, hc => by
    have hlen := nodup_le hI.1 (fun q hq => (hI.2.1 q hq).1)
    rw [List.take_of_length_le (by omega)] at hc
    exact hc
  | k + 1, i, A, h1, hI, hc => by
    rw [walkA]
    by_cases c : A.1.length ≤ i
    · rw [if_pos c]
      rw [List.take_of_length_le c] at hc
      exact hc
    · rw [if_neg c]
      have eg : A.1.getD i 0 = A.1[i]'(by omega) := by rw [List.getD_eq_getElem?_getD, List.getElem?_eq_getElem (by omega)]; rfl
      have hm : A.1.getD i 0 ∈ A.1 := by rw [eg]; exact List.getElem_mem _
      have hmS := (hI.2.1 _ hm).1
      obtain ⟨u, hu⟩ := leave_pre (nx := nx) (C := C) (s := A.1.getD i 0) A
      have hI2 : IA S (leaveA nx C A (A.1.getD i 0)) := IA_fold hI hm (fun d hd => hn _ hmS d (by have := List.mem_range'_1.mp hd; omega))
      refine walk_closed hS hn k (i + 1) _ (by omega) hI2 ?_
      have ht : (leaveA nx C A (A.1.getD i 0)).1.take (i + 1) = A.1.take i ++ [A.1.getD i 0] := by
        rw [hu, List.take_append_of_le_length (by omega), eg, List.take_succ_eq_append_getElem (by omega)]
      rw [ht]
      intro s hs d hd t e
      rcases List.mem_append.mp hs with z | z
      · rw [hu]; exact List.mem_append_left _ (hc s z d hd t e)
      · rw [List.mem_singleton.mp z] at e
        exact fold_in e (List.mem_range'_1.mpr ⟨Nat.zero_le _, by omega⟩)
theorem walk_0 {nx : Nat → Nat → Option Nat} {C k i : Nat} : 0 ∈ (walkA nx C k i begA).1 := by
  obtain ⟨t, ht⟩ := walk_pre (nx := nx) (C := C) k i begA
  rw [ht]
  exact List.mem_append_left _ (List.mem_singleton_self _)
end
section
/-! explore, whole -/
/-- the next state of the net -/
def nxA (gs : List Nat) (fs : List (Nat × Nat)) (nv : Nat → Nat) (s c : Nat) : Option Nat := if bL (SE gs fs (s / 4)) (s % 4 * 16 + c) = false then none else some (nxt (VA gs fs) nv (s / 4) (s % 4 * 16 + c) (gs.count 1))
theorem nxA_lt {gs : List Nat} {fs : List (Nat × Nat)} {nv : Nat → Nat} {s c t : Nat} (h : nxA gs fs nv s c = some t) : t < 2 ^ gs.count 1 := by
  rw [nxA] at h
  split at h
  · cases h
  · cases h; exact nxt_lt _
theorem nxA_of {gs : List Nat} {fs : List (Nat × Nat)} {nv : Nat → Nat} {ns : Nat → Int32} {s c : Nat} (h : ns (s * 16 + c) = NX gs fs nv s c) : nxOf ns s c (nxA gs fs nv s c) := by
  rw [nxA]
  rw [NX] at h
  split
  · rename_i e
    rw [if_pos e] at h
    exact h
  · rename_i e
    rw [if_neg e] at h
    exact h
/-- the walk of the net -/
def WK (gs : List Nat) (fs : List (Nat × Nat)) (nv : Nat → Nat) : WA := walkA (nxA gs fs nv) (2 ^ gs.count 0) 256 0 begA
def rdK (gs : List Nat) (fs : List (Nat × Nat)) (nv : Nat → Nat) (q : Nat) : Bool := decide (q ∈ (WK gs fs nv).1)
/-- the cells hold what is explored of the net -/
def EX (gs : List Nat) (fs : List (Nat × Nat)) (os : List Nat) (nv : Nat → Nat) (pn : Nat → Int32) (pt : Int32) (se va : Nat → Int64) (ns di od pa st : Nat → Int32) (sp : Nat → Int64) (wd re du dS dC : Int32) : Prop :=
  TI gs fs nv se va ns ∧ RW (2 ^ gs.count 1) di od pa st re du dS dC (WK gs fs nv) ∧ IA (2 ^ gs.count 1) (WK gs fs nv) ∧ PW (wt (gs.count 1)) se sp (WK gs fs nv).1 ∧ wd = nI (wt (gs.count 1)) ∧
  ∃ j, HN (2 ^ gs.count 1) (rdK gs fs nv) pn (spl se va (fun i => os.getD i 0) os.length (nxA gs fs nv) (2 ^ gs.count 0) (rdK gs fs nv) (j + 1)) ∧
    pt = nI (nPt (rdK gs fs nv) (spl se va (fun i => os.getD i 0) os.length (nxA gs fs nv) (2 ^ gs.count 0) (rdK gs fs nv) (j + 1)) 0 (2 ^ gs.count 1)) ∧
    ∀ q, q < 2 ^ gs.count 1 → rdK gs fs nv q = true → spl se va (fun i => os.getD i 0) os.length (nxA gs fs nv) (2 ^ gs.count 0) (rdK gs fs nv) (j + 1) q = spl se va (fun i => os.getD i 0) os.length (nxA gs fs nv) (2 ^ gs.count 0) (rdK gs fs nv) j q
section EXP
variable {so ra st li nl ou : Nat → Int32} {gT iT lT oT : Int32} {gs : List Nat} {fs : List (Nat × Nat)} {os : List Nat} {nv : Nat → Nat}
theorem p_explore0 (h : RC so ra st li nl ou gT iT lT oT gs fs os) (hw : WF gs fs os) (hn : ∀ k, k < gs.count 1 → nl k = nI (nv k) ∧ nv k < 2 * gs.length) (pn pf pb : Nat → Int32) (pt : Int32) (kn se va : Nat → Int64) (ns di od pa sp : Nat → Int32) (sq : Nat → Int64) (wd re du dS dC : Int32) :
    ∃ v, m_Exp_explore so ra st li nl ou gT iT lT oT pn pf pb pt kn se va ns di od pa sp sq wd re du dS dC 0 = some v ∧ v.1 = nI (WK gs fs nv).1.length ∧
      EX gs fs os nv v.2.1 v.2.2.2.2.1 v.2.2.2.2.2.2.1 v.2.2.2.2.2.2.2.1 v.2.2.2.2.2.2.2.2.1 v.2.2.2.2.2.2.2.2.2.1 v.2.2.2.2.2.2.2.2.2.2.1 v.2.2.2.2.2.2.2.2.2.2.2.1 v.2.2.2.2.2.2.2.2.2.2.2.2.1 v.2.2.2.2.2.2.2.2.2.2.2.2.2.1 v.2.2.2.2.2.2.2.2.2.2.2.2.2.2.1 v.2.2.2.2.2.2.2.2.2.2.2.2.2.2.2.1 v.2.2.2.2.2.2.2.2.2.2.2.2.2.2.2.2.1 v.2.2.2.2.2.2.2.2.2.2.2.2.2.2.2.2.2.1 v.2.2.2.2.2.2.2.2.2.2.2.2.2.2.2.2.2.2.1 ∧ v.2.2.2.2.2.2.2.2.2.2.2.2.2.2.2.2.2.2.2 = 1 := by
  have hK := hw.2.2.1
  have hI := hw.2.1
  have hG := hw.1
  have hO : os.length ≤ 6 := hw.2.2.2.2.2.2.1
  have hos := hw.2.2.2.2.2.2.2
  have hpK := pow8 hK
  have hiT : iT = nI (gs.count 0) := h.2.1
  have hlT : lT = nI (gs.count 1) := h.2.2.1
  have hoT : oT = nI os.length := h.2.2.2.1
  have hou : ∀ i, i < os.length → ou i = nI (os.getD i 0) ∧ os.getD i 0 < 60 := by
    intro i hi
    refine ⟨h.2.2.2.2.2.2.2.2 i hi, ?_⟩
    have : os.getD i 0 ∈ os := by simp [List.getD_eq_getElem?_getD, hi]
    have := hos _ this
    omega
  obtain ⟨v2, a1, a2⟩ := p_fill h hw hn kn se va ns
  have hnx : ∀ s, s < 2 ^ gs.count 1 → ∀ c, c < 2 ^ gs.count 0 → nxOf v2.2.2.2 s c (nxA gs fs nv s c) ∧ ∀ t, nxA gs fs nv s c = some t → t < 2 ^ gs.count 1 := fun s hs c hc => ⟨nxA_of (a2.2 s hs c hc), fun t ht => nxA_lt ht⟩
  obtain ⟨v4, b1, b2, b3, b4, b5⟩ := p_run (se := v2.2.1) hK hI hnx di od pa sp sq wd re du dS dC
  have hcl : ∀ s, s < 2 ^ gs.count 1 → rdK gs fs nv s = true → ∀ c, c < 2 ^ gs.count 0 → ∀ t, nxA gs fs nv s c = some t → rdK gs fs nv t = true := by
    intro s hs hr c hc t ht
    rw [rdK, decide_eq_true_eq] at hr ⊢
    exact walk_closed hpK.2 (fun s _ c _ t ht => nxA_lt ht) 256 0 begA (by omega) (IA_beg hpK.1) (fun s hs => absurd hs (by simp)) s hr c hc t ht
  have hdi : ∀ q, q < 2 ^ gs.count 1 → (v4.1 q = -1 ↔ rdK gs fs nv q = false) := by
    intro q hq
    have e := b2.1 q hq
    have hlen := nodup_le b3.1 (fun q hq => (b3.2.1 q hq).1)
    rw [rdK, decide_eq_false_iff_not, e]
    by_cases c : q ∈ (WK gs fs nv).1
    · have c' : q ∈ (walkA (nxA gs fs nv) (2 ^ gs.count 0) 256 0 begA).1 := c
      have := (b3.2.1 q c').2
      rw [if_pos c']
      exact ⟨fun z => absurd z (m1_ne (by omega)), fun z => absurd c z⟩
    · have c' : q ∉ (walkA (nxA gs fs nv) (2 ^ gs.count 0) 256 0 begA).1 := c
      rw [if_neg c']
      exact ⟨fun _ => c, fun _ => rfl⟩
  obtain ⟨v6, j, c1, c2, c3, c4⟩ := p_split (se := v2.2.1) (va := v2.2.2.1) (ov := fun i => os.getD i 0) hO hou hI hK hnx hcl hdi (decide_eq_true walk_0) pn pf pb pt
  rw [m_Exp_explore, if_pos rfl, hiT, hlT, hoT]
  rw [hiT, hlT] at a1
  rw [a1, Option.bind_some, b1, Option.bind_some, c1, Option.bind_some]
  exact ⟨_, rfl, b2.2.2.2.1, ⟨a2, b2, b3, b4, b5, j, c2, c3, c4⟩, rfl⟩
end EXP
end
section
/-! THE NET'S MEANING: which literals become known -/
theorem xo (a : Nat) : (a ^^^ 1) / 2 = a / 2 ∧ (a ^^^ 1) % 2 = 1 - a % 2 := by
  have h1 : (a ^^^ 1) / 2 = a / 2 := by
    apply Nat.eq_of_testBit_eq
    intro i
    have h0 : Nat.testBit 1 (i + 1) = false := by rw [Nat.testBit_succ]; simp
    rw [Nat.testBit_div_two, Nat.testBit_div_two, Nat.testBit_xor, h0]
    simp
  have h2 : (a ^^^ 1) % 2 = 1 - a % 2 := by
    have := Nat.xor_mod_two_eq_one (a := a) (b := 1)
    omega
  exact ⟨h1, h2⟩
theorem xx (a : Nat) : a ^^^ 1 ^^^ 1 = a := by rw [Nat.xor_assoc, Nat.xor_self, Nat.xor_zero]
/-- what a set of literals must hold -/
def DvC (gs : List Nat) (fs : List (Nat × Nat)) (bv : Nat → Bool) (P : Nat → Prop) : Prop :=
  (∀ g, g < gs.length → gs.getD g 9 ≤ 1 → P (2 * g + if bv g = true then 0 else 1)) ∧
  (∀ g fl, g < gs.length → fl < 2 → gs.getD g 9 = 2 + fl → (∀ l, l ∈ fOf fs g → P (l ^^^ fl)) → P (2 * g + fl)) ∧
  (∀ g fl l, g < gs.length → fl < 2 → gs.getD g 9 = 2 + fl → l ∈ fOf fs g → P (l ^^^ fl ^^^ 1) → P ((2 * g + fl) ^^^ 1))
/-- the least such set -/
def Dv (gs : List Nat) (fs : List (Nat × Nat)) (bv : Nat → Bool) (l : Nat) : Prop := ∀ P, DvC gs fs bv P → P l
section MEAN
variable {gs : List Nat} {fs : List (Nat × Nat)} {bv : Nat → Bool}
theorem Dv_base (g : Nat) (h1 : g < gs.length) (h2 : gs.getD g 9 ≤ 1) : Dv gs fs bv (2 * g + if bv g = true then 0 else 1) := fun _ h => h.1 g h1 h2
theorem Dv_all (g fl : Nat) (h1 : g < gs.length) (h2 : fl < 2) (h3 : gs.getD g 9 = 2 + fl) (h4 : ∀ l, l ∈ fOf fs g → Dv gs fs bv (l ^^^ fl)) : Dv gs fs bv (2 * g + fl) := fun P h => h.2.1 g fl h1 h2 h3 (fun l hl => h4 l hl P h)
theorem Dv_one (g fl l : Nat) (h1 : g < gs.length) (h2 : fl < 2) (h3 : gs.getD g 9 = 2 + fl) (h4 : l ∈ fOf fs g) (h5 : Dv gs fs bv (l ^^^ fl ^^^ 1)) : Dv gs fs bv ((2 * g + fl) ^^^ 1) := fun P h => h.2.2 g fl l h1 h2 h3 h4 (h5 P h)
theorem Dv_rec {P : Nat → Prop} (h1 : ∀ g, g < gs.length → gs.getD g 9 ≤ 1 → P (2 * g + if bv g = true then 0 else 1))
    (h2 : ∀ g fl, g < gs.length → fl < 2 → gs.getD g 9 = 2 + fl → (∀ l, l ∈ fOf fs g → Dv gs fs bv (l ^^^ fl)) → (∀ l, l ∈ fOf fs g → P (l ^^^ fl)) → P (2 * g + fl))
    (h3 : ∀ g fl l, g < gs.length → fl < 2 → gs.getD g 9 = 2 + fl → l ∈ fOf fs g → Dv gs fs bv (l ^^^ fl ^^^ 1) → P (l ^^^ fl ^^^ 1) → P ((2 * g + fl) ^^^ 1)) {l : Nat} (h : Dv gs fs bv l) : P l := by
  refine (h (fun l => Dv gs fs bv l ∧ P l) ⟨fun g a b => ⟨Dv_base g a b, h1 g a b⟩, fun g fl a b c d => ⟨Dv_all g fl a b c (fun l hl => (d l hl).1), h2 g fl a b c (fun l hl => (d l hl).1) (fun l hl => (d l hl).2)⟩, fun g fl l a b c d e => ⟨Dv_one g fl l a b c d e.1, h3 g fl l a b c d e.1 e.2⟩⟩).2
theorem Dv_inv {m : Nat} (h : Dv gs fs bv m) : (∃ g, g < gs.length ∧ gs.getD g 9 ≤ 1 ∧ m = 2 * g + if bv g = true then 0 else 1) ∨
    (∃ g fl, g < gs.length ∧ fl < 2 ∧ gs.getD g 9 = 2 + fl ∧ (∀ l, l ∈ fOf fs g → Dv gs fs bv (l ^^^ fl)) ∧ m = 2 * g + fl) ∨
    (∃ g fl l, g < gs.length ∧ fl < 2 ∧ gs.getD g 9 = 2 + fl ∧ l ∈ fOf fs g ∧ Dv gs fs bv (l ^^^ fl ^^^ 1) ∧ m = (2 * g + fl) ^^^ 1) :=
  Dv_rec (P := fun m => (∃ g, g < gs.length ∧ gs.getD g 9 ≤ 1 ∧ m = 2 * g + if bv g = true then 0 else 1) ∨
    (∃ g fl, g < gs.length ∧ fl < 2 ∧ gs.getD g 9 = 2 + fl ∧ (∀ l, l ∈ fOf fs g → Dv gs fs bv (l ^^^ fl)) ∧ m = 2 * g + fl) ∨
    (∃ g fl l, g < gs.length ∧ fl < 2 ∧ gs.getD g 9 = 2 + fl ∧ l ∈ fOf fs g ∧ Dv gs fs bv (l ^^^ fl ^^^ 1) ∧ m = (2 * g + fl) ^^^ 1))
    (fun g a b => Or.inl ⟨g, a, b, rfl⟩) (fun g fl a b c d _ => Or.inr (Or.inl ⟨g, fl, a, b, c, d, rfl⟩)) (fun g fl l a b c d e _ => Or.inr (Or.inr ⟨g, fl, l, a, b, c, d, e, rfl⟩)) h
theorem Dv_lt {l : Nat} (h : Dv gs fs bv l) : l < 2 * gs.length := by
  rcases Dv_inv h with ⟨g, hg, _, e⟩ | ⟨g, fl, hg, hf, _, _, e⟩ | ⟨g, fl, l, hg, hf, _, _, _, e⟩
  · revert e; split <;> omega
  · omega
  · have := xo (2 * g + fl); omega
/-- never both -/
theorem Dv_cons {l : Nat} (h : Dv gs fs bv l) : ∀ {m : Nat}, Dv gs fs bv m → m = l ^^^ 1 → False := by
  refine Dv_rec (P := fun l => ∀ {m : Nat}, Dv gs fs bv m → m = l ^^^ 1 → False) ?_ ?_ ?_ h
  · intro g hg hs m hm e
    have x := xo (2 * g + if bv g = true then 0 else 1)
    rw [← e] at x
    rcases Dv_inv hm with ⟨g', hg', hs', e'⟩ | ⟨g', fl', hg', hf', hs', _, e'⟩ | ⟨g', fl', l', hg', hf', hs', _, _, e'⟩
    · have : g' = g := by
        revert x e'; split <;> split <;> omega
      subst this
      revert x e'; split <;> omega
    · have : g' = g := by
        revert x; split <;> omega
      subst this; omega
    · have y := xo (2 * g' + fl')
      have : g' = g := by
        revert x; split <;> omega
      subst this; omega
  · intro g fl hg hf hs ha ih m hm e
    have x := xo (2 * g + fl)
    rw [← e] at x
    rcases Dv_inv hm with ⟨g', hg', hs', e'⟩ | ⟨g', fl', hg', hf', hs', _, e'⟩ | ⟨g', fl', l', hg', hf', hs', hl', hd', e'⟩
    · have : g' = g := by
        revert e'; split <;> omega
      subst this; omega
    · have : g' = g := by omega
      subst this; omega
    · have y := xo (2 * g' + fl')
      rw [← e'] at y
      have : g' = g := by omega
      subst this
      have : fl' = fl := by omega
      subst this
      exact ih l' hl' hd' rfl
  · intro g fl l hg hf hs hl hd ih m hm e
    rw [xx] at e
    rcases Dv_inv hm with ⟨g', hg', hs', e'⟩ | ⟨g', fl', hg', hf', hs', ha, e'⟩ | ⟨g', fl', l', hg', hf', hs', hl', hd', e'⟩
    · have : g' = g := by
        revert e'; split <;> omega
      subst this; omega
    · have : g' = g := by omega
      subst this
      have : fl' = fl := by omega
      subst this
      exact ih (ha l hl) (xx _).symm
    · have y := xo (2 * g' + fl')
      rw [← e', e] at y
      have : g' = g := by omega
      subst this; omega
/-- one pair's literals: a gate learns -/
def stB (gs : List Nat) (fs : List (Nat × Nat)) (k : Nat → Bool) (g : Nat) : Nat → Bool :=
  if gs.getD g 9 = 2 ∨ gs.getD g 9 = 3 then fun j => if j = (2 * g + (gs.getD g 9 - 2)) ^^^ 1 then (fOf fs g).any (fun l => k (l ^^^ (gs.getD g 9 - 2) ^^^ 1)) else if j = 2 * g + (gs.getD g 9 - 2) then (fOf fs g).all (fun l => k (l ^^^ (gs.getD g 9 - 2))) else k j
  else k
def swB (gs : List Nat) (fs : List (Nat × Nat)) (k : Nat → Bool) : Nat → Bool := (List.range' 0 gs.length).foldl (stB gs fs) k
/-- what is kept: only known literals; each has its ground; inputs and latches are known -/
def SB (gs : List Nat) (fs : List (Nat × Nat)) (bv : Nat → Bool) (k : Nat → Bool) : Prop :=
  (∀ l, k l = true → Dv gs fs bv l) ∧
  (∀ g fl, g < gs.length → fl < 2 → gs.getD g 9 = 2 + fl → (k (2 * g + fl) = true → ∀ l, l ∈ fOf fs g → k (l ^^^ fl) = true) ∧ (k ((2 * g + fl) ^^^ 1) = true → ∃ l, l ∈ fOf fs g ∧ k (l ^^^ fl ^^^ 1) = true)) ∧
  (∀ g, g < gs.length → gs.getD g 9 ≤ 1 → k (2 * g + if bv g = true then 0 else 1) = true)
theorem stB_op {k : Nat → Bool} {g fl : Nat} (hf : fl < 2) (hs : gs.getD g 9 = 2 + fl) (j : Nat) : stB gs fs k g j = if j = (2 * g + fl) ^^^ 1 then (fOf fs g).any (fun l => k (l ^^^ fl ^^^ 1)) else if j = 2 * g + fl then (fOf fs g).all (fun l => k (l ^^^ fl)) else k j := by
  have e : gs.getD g 9 - 2 = fl := by omega
  rw [stB, if_pos (by omega), e]
theorem SB_st {k : Nat → Bool} {g : Nat} (hg : g < gs.length) (h : SB gs fs bv k) : SB gs fs bv (stB gs fs k g) ∧ ∀ j, k j = true → stB gs fs k g j = true := by
  by_cases c : gs.getD g 9 = 2 ∨ gs.getD g 9 = 3
  · obtain ⟨fl, hf, hs⟩ : ∃ fl, fl < 2 ∧ gs.getD g 9 = 2 + fl := ⟨gs.getD g 9 - 2, by omega, by omega⟩
    obtain ⟨h1, h2, h3⟩ := h
    have hm : ∀ j, k j = true → stB gs fs k g j = true := by
      intro j hj
      rw [stB_op hf hs]
      split
      · rename_i e
        obtain ⟨l, a, b⟩ := (h2 g fl hg hf hs).2 (by rw [← e]; exact hj)
        exact List.any_eq_true.mpr ⟨l, a, b⟩
      · split
        · rename_i e
          exact List.all_eq_true.mpr ((h2 g fl hg hf hs).1 (by rw [← e]; exact hj))
        · exact hj
    refine ⟨⟨?_, ?_, fun g' hg' hs' => hm _ (h3 g' hg' hs')⟩, hm⟩
    · intro j hj
      rw [stB_op hf hs] at hj
      split at hj
      · rename_i e
        obtain ⟨l, a, b⟩ := List.any_eq_true.mp hj
        rw [e]
        exact Dv_one g fl l hg hf hs a (h1 _ b)
      · split at hj
        · rename_i e
          rw [e]
          exact Dv_all g fl hg hf hs (fun l hl => h1 _ (List.all_eq_true.mp hj l hl))
        · exact h1 _ hj
    · intro g' fl' hg' hf' hs'
      have y := xo (2 * g' + fl')
      have x := xo (2 * g + fl)
      constructor
      · intro hj l hl
        rw [stB_op hf hs] at hj
        apply hm
        split at hj
        · rename_i e
          rw [← e] at x
          have : g' = g := by omega
          subst this; omega
        · split at hj
          · rename_i e
            have : g' = g := by omega
            subst this
            have : fl' = fl := by omega
            subst this
            exact List.all_eq_true.mp hj l hl
          · exact (h2 g' fl' hg' hf' hs').1 hj l hl
      · intro hj
        rw [stB_op hf hs] at hj
        split at hj
        · rename_i e
          rw [← e] at x
          have : g' = g := by omega
          subst this
          have : fl' = fl := by omega
          subst this
          obtain ⟨l, a, b⟩ := List.any_eq_true.mp hj
          exact ⟨l, a, hm _ b⟩
        · split at hj
          · rename_i e
            rw [e] at y
            have : g' = g := by omega
            subst this; omega
          · obtain ⟨l, a, b⟩ := (h2 g' fl' hg' hf' hs').2 hj
            exact ⟨l, a, hm _ b⟩
  · have e : stB gs fs k g = k := by rw [stB, if_neg c]
    rw [e]
    exact ⟨h, fun _ h => h⟩
theorem SB_fold : ∀ {l : List Nat} {k : Nat → Bool}, (∀ g, g ∈ l → g < gs.length) → SB gs fs bv k → SB gs fs bv (l.foldl (stB gs fs) k) ∧ (∀ j, k j = true → l.foldl (stB gs fs) k j = true) ∧ (l.foldl (stB gs fs) k = k → ∀ g, g ∈ l → stB gs fs k g = k)
  | [], k, _, h => ⟨h, fun _ h => h, fun _ g hg => absurd hg (by simp)⟩
  | g :: l, k, hl, h => by
    obtain ⟨a1, a2⟩ := SB_st (hl g List.mem_cons_self) h
    obtain ⟨b1, b2, b3⟩ := SB_fold (l := l) (fun q hq => hl q (List.mem_cons_of_mem _ hq)) a1
    rw [List.foldl_cons]
    refine ⟨b1, fun j hj => b2 j (a2 j hj), fun e q hq => ?_⟩
    have e1 : stB gs fs k g = k := by
      funext j
      cases hk : k j with
      | true => exact a2 j hk
      | false =>
        cases hs : stB gs fs k g j with
        | false => rfl
        | true => have := b2 j hs; rw [e, hk] at this; exact absurd this (by simp)
    rcases List.mem_cons.mp hq with z | z
    · rw [z]; exact e1
    · have e2 := b3 (by rw [e, e1]) q z
      rw [e1] at e2
      exact e2
theorem SB_sw {k : Nat → Bool} (h : SB gs fs bv k) : SB gs fs bv (swB gs fs k) ∧ (∀ j, k j = true → swB gs fs k j = true) ∧ (swB gs fs k = k → ∀ g, g < gs.length → stB gs fs k g = k) := by
  obtain ⟨a, b, c⟩ := SB_fold (gs := gs) (fs := fs) (bv := bv) (l := List.range' 0 gs.length) (k := k) (fun g hg => by have := List.mem_range'_1.mp hg; omega) h
  exact ⟨a, b, fun e g hg => c e g (List.mem_range'_1.mpr ⟨by omega, by omega⟩)⟩
/-- a pair at which nothing more changes knows all -/
theorem SB_fix {k : Nat → Bool} (h : SB gs fs bv k) (e : ∀ g, g < gs.length → stB gs fs k g = k) {l : Nat} (hd : Dv gs fs bv l) : k l = true := by
  refine Dv_rec (P := fun l => k l = true) ?_ ?_ ?_ hd
  · intro g hg hs; exact h.2.2 g hg hs
  · intro g fl hg hf hs _ ih
    rw [← e g hg, stB_op hf hs]
    have x := xo (2 * g + fl)
    rw [if_neg (by omega), if_pos rfl]
    exact List.all_eq_true.mpr ih
  · intro g fl l hg hf hs hl _ ih
    rw [← e g hg, stB_op hf hs, if_pos rfl]
    exact List.any_eq_true.mpr ⟨l, hl, ih⟩
def cnB (G : Nat) (k : Nat → Bool) : Nat := (List.range' 0 G).countP (fun g => k (2 * g) || k (2 * g + 1))
theorem cnB_le {G : Nat} {k : Nat → Bool} : cnB G k ≤ G := by
  have := List.countP_le_length (p := fun g => k (2 * g) || k (2 * g + 1)) (l := List.range' 0 G)
  rw [List.length_range'] at this
  exact this
theorem cnt_lt {p q : Nat → Bool} : ∀ {l : List Nat}, (∀ x, x ∈ l → p x = true → q x = true) → (∃ x, x ∈ l ∧ p x = false ∧ q x = true) → l.countP p < l.countP q := by
  intro l h ⟨x, hx, h1, h2⟩
  rcases Nat.lt_or_ge (l.countP p) (l.countP q) with c | c
  · exact c
  · have := cnt_eq h (Nat.le_antisymm (cnt_le h) c) x hx h2
    rw [h1] at this
    exact absurd this (by simp)
theorem cnB_up {k k2 : Nat → Bool} (hs : SB gs fs bv k2) (hm : ∀ j, k j = true → k2 j = true) (hn : k2 ≠ k) : cnB gs.length k < cnB gs.length k2 := by
  obtain ⟨l, hl⟩ : ∃ l, k2 l ≠ k l := by
    by_cases c : ∃ l, k2 l ≠ k l
    · exact c
    · exact absurd (funext fun l => Classical.byContradiction fun q => c ⟨l, q⟩) hn
  have h1 : k l = false := by
    cases e : k l with
    | false => rfl
    | true => rw [e, hm l e] at hl; exact absurd rfl hl
  have h2 : k2 l = true := by
    cases e : k2 l with
    | true => rfl
    | false => rw [e, h1] at hl; exact absurd rfl hl
  have hd := hs.1 l h2
  have hlt := Dv_lt hd
  have x := xo l
  have h3 : k (l ^^^ 1) = false := by
    cases e : k (l ^^^ 1) with
    | false => rfl
    | true => exact absurd rfl (fun q => Dv_cons hd (hs.1 _ (hm _ e)) q)
  refine cnt_lt (fun g _ h => ?_) ⟨l / 2, List.mem_range'_1.mpr ⟨by omega, by omega⟩, ?_, ?_⟩
  · rcases Bool.or_eq_true_iff.mp h with h | h
    · simp [hm _ h]
    · simp [hm _ h]
  · rcases Nat.mod_two_eq_zero_or_one l with c | c
    · have e1 : 2 * (l / 2) = l := by omega
      have e2 : l + 1 = l ^^^ 1 := by omega
      rw [e1, e2, h1, h3]; rfl
    · have e1 : 2 * (l / 2) = l ^^^ 1 := by omega
      have e2 : 2 * (l / 2) + 1 = l := by omega
      rw [e2, e1, h1, h3]; rfl
  · rcases Nat.mod_two_eq_zero_or_one l with c | c
    · have e1 : 2 * (l / 2) = l := by omega
      rw [e1, h2]; rfl
    · have e2 : 2 * (l / 2) + 1 = l := by omega
      rw [e2, h2]; simp
/-- a pair of which all gates are known knows all -/
theorem SB_full {k : Nat → Bool} (h : SB gs fs bv k) (e : gs.length ≤ cnB gs.length k) {l : Nat} (hd : Dv gs fs bv l) : k l = true := by
  have hlt := Dv_lt hd
  have x := xo l
  have hc : cnB gs.length k = (List.range' 0 gs.length).length := by
    rw [List.length_range']
    exact Nat.le_antisymm cnB_le e
  have := List.countP_eq_length.mp hc (l / 2) (List.mem_range'_1.mpr ⟨by omega, by omega⟩)
  cases hk : k l with
  | true => rfl
  | false =>
    have h2 : k (l ^^^ 1) = true := by
      rcases Nat.mod_two_eq_zero_or_one l with c | c
      · have e1 : 2 * (l / 2) = l := by omega
        have e2 : l + 1 = l ^^^ 1 := by omega
        rw [e1, e2, hk] at this; simpa using this
      · have e1 : 2 * (l / 2) = l ^^^ 1 := by omega
        have e2 : 2 * (l / 2) + 1 = l := by omega
        rw [e2, e1, hk] at this; simpa using this
    exact absurd rfl (fun q => Dv_cons hd (h.1 _ h2) q)
end MEAN
end
section
/-! the class's words, pair by pair -/
def kb (kn : Nat → Int64) (b : Nat) : Nat → Bool := fun l => bL (kn l) b
theorem bL_and {x y : Int64} {b : Nat} : bL (x &&& y) b = (bL x b && bL y b) := by rw [bL, Int64.toBitVec_and, BitVec.getLsbD_and]; rfl
theorem bL_or {x y : Int64} {b : Nat} : bL (x ||| y) b = (bL x b || bL y b) := by rw [bL, Int64.toBitVec_or, BitVec.getLsbD_or]; rfl
theorem andW_bit {kn : Nat → Int64} {fl b : Nat} : ∀ (ls : List Nat) (a : Int64), bL (andW kn fl ls a) b = (bL a b && ls.all (fun l => kb kn b (l ^^^ fl)))
  | [], a => by simp [andW]
  | l :: ls, a => by
    have := andW_bit (kn := kn) (fl := fl) (b := b) ls (a &&& kn (l ^^^ fl))
    rw [andW] at this ⊢
    rw [List.foldl_cons, this, bL_and, List.all_cons, Bool.and_assoc]
    rfl
theorem orW_bit {kn : Nat → Int64} {fl b : Nat} : ∀ (ls : List Nat) (a : Int64), bL (orW kn fl ls a) b = (bL a b || ls.any (fun l => kb kn b (l ^^^ fl ^^^ 1)))
  | [], a => by simp [orW]
  | l :: ls, a => by
    have := orW_bit (kn := kn) (fl := fl) (b := b) ls (a ||| kn (l ^^^ fl ^^^ 1))
    rw [orW] at this ⊢
    rw [List.foldl_cons, this, bL_or, List.any_cons, Bool.or_assoc]
    rfl
section KB
variable {gs : List Nat} {fs : List (Nat × Nat)} {os : List Nat}
theorem stepW_op {s : Int32 × (Nat → Int64)} {g fl : Nat} (hf : fl < 2) (hs : gs.getD g 9 = 2 + fl) : stepW gs fs s g = (if s.2 (2 * g + fl) = andW s.2 fl (fOf fs g) (-1) ∧ s.2 ((2 * g + fl) ^^^ 1) = orW s.2 fl (fOf fs g) 0 then s.1 else 1, vp_updL (vp_updL s.2 (2 * g + fl) (andW s.2 fl (fOf fs g) (-1))) ((2 * g + fl) ^^^ 1) (orW s.2 fl (fOf fs g) 0)) := by
  rw [stepW]
  rcases (by omega : fl = 0 ∨ fl = 1) with c | c
  · subst c; rw [if_pos hs]
  · subst c; rw [if_neg (by omega), if_pos hs]
theorem stepW_no {s : Int32 × (Nat → Int64)} {g : Nat} (h : ¬ (gs.getD g 9 = 2 ∨ gs.getD g 9 = 3)) : stepW gs fs s g = s := by
  rw [stepW, if_neg (fun q => h (Or.inl q)), if_neg (fun q => h (Or.inr q))]
theorem stepW_kb {s : Int32 × (Nat → Int64)} {g b : Nat} (hb : b < 64) : kb (stepW gs fs s g).2 b = stB gs fs (kb s.2 b) g := by
  by_cases c : gs.getD g 9 = 2 ∨ gs.getD g 9 = 3
  · obtain ⟨fl, hf, hs⟩ : ∃ fl, fl < 2 ∧ gs.getD g 9 = 2 + fl := ⟨gs.getD g 9 - 2, by omega, by omega⟩
    funext j
    rw [stB_op hf hs, stepW_op hf hs, kb]
    dsimp only
    rw [updL_eq, updL_eq]
    split
    · rw [orW_bit, bL_0, Bool.false_or]
    · split
      · rw [andW_bit, bL_m1 hb, Bool.true_and]
      · rfl
  · rw [stepW_no c, stB, if_neg c]
theorem foldW_kb {b : Nat} (hb : b < 64) : ∀ (l : List Nat) (s : Int32 × (Nat → Int64)), kb (l.foldl (stepW gs fs) s).2 b = l.foldl (stB gs fs) (kb s.2 b)
  | [], _ => rfl
  | g :: l, s => by rw [List.foldl_cons, List.foldl_cons, foldW_kb hb l, stepW_kb hb]
theorem stepW_same {s : Int32 × (Nat → Int64)} {g : Nat} (h : (stepW gs fs s g).1 = 0) : s.1 = 0 ∧ (stepW gs fs s g).2 = s.2 := by
  by_cases c : gs.getD g 9 = 2 ∨ gs.getD g 9 = 3
  · obtain ⟨fl, hf, hs⟩ : ∃ fl, fl < 2 ∧ gs.getD g 9 = 2 + fl := ⟨gs.getD g 9 - 2, by omega, by omega⟩
    rw [stepW_op hf hs] at h ⊢
    dsimp only at h ⊢
    split at h
    · rename_i e
      refine ⟨h, ?_⟩
      funext j
      rw [updL_eq, updL_eq]
      split
      · rename_i e2; rw [e2, e.2]
      · split
        · rename_i e2; rw [e2, e.1]
        · rfl
    · exact absurd h (by decide)
  · rw [stepW_no c] at h ⊢
    exact ⟨h, rfl⟩
theorem foldW_same : ∀ (l : List Nat) (s : Int32 × (Nat → Int64)), (l.foldl (stepW gs fs) s).1 = 0 → s.1 = 0 ∧ (l.foldl (stepW gs fs) s).2 = s.2
  | [], s, h => ⟨h, rfl⟩
  | g :: l, s, h => by
    rw [List.foldl_cons] at h ⊢
    obtain ⟨a, b⟩ := foldW_same l _ h
    obtain ⟨c, d⟩ := stepW_same a
    exact ⟨c, b.trans d⟩
theorem sweepW_kb {kn : Nat → Int64} {b : Nat} (hb : b < 64) : kb (sweepW gs fs (0, kn)).2 b = swB gs fs (kb kn b) := foldW_kb hb _ _
theorem settle_fix {b : Nat} (hb : b < 64) : ∀ (n : Nat) (kn : Nat → Int64), swB gs fs (kb kn b) = kb kn b → kb (settleW gs fs n kn) b = kb kn b
  | 0, _, _ => rfl
  | n + 1, kn, h => by
    have e := sweepW_kb (gs := gs) (fs := fs) (kn := kn) hb
    rw [h] at e
    rw [settleW]
    split
    · exact e
    · rw [settle_fix hb n _ (by rw [e]; exact h), e]
theorem settle_SB {bv : Nat → Bool} {b : Nat} (hb : b < 64) : ∀ (n : Nat) (kn : Nat → Int64), SB gs fs bv (kb kn b) → SB gs fs bv (kb (settleW gs fs n kn) b) ∧ ((∀ g, g < gs.length → stB gs fs (kb (settleW gs fs n kn) b) g = kb (settleW gs fs n kn) b) ∨ cnB gs.length (kb kn b) + n ≤ cnB gs.length (kb (settleW gs fs n kn) b))
  | 0, kn, h => by rw [settleW]; exact ⟨h, Or.inr (by omega)⟩
  | n + 1, kn, h => by
    have e := sweepW_kb (gs := gs) (fs := fs) (kn := kn) hb
    obtain ⟨a1, a2, a3⟩ := SB_sw h
    rw [settleW]
    split
    · rename_i z
      have e2 := (foldW_same _ _ z).2
      have e3 : (sweepW gs fs (0, kn)).2 = kn := e2
      rw [e3] at e ⊢
      exact ⟨h, Or.inl (a3 e.symm)⟩
    · by_cases c : swB gs fs (kb kn b) = kb kn b
      · rw [settle_fix hb n _ (by rw [e, c]; exact c), e, c]
        exact ⟨h, Or.inl (a3 c)⟩
      · have hup := cnB_up a1 a2 c
        obtain ⟨b1, b2⟩ := settle_SB hb n (sweepW gs fs (0, kn)).2 (by rw [e]; exact a1)
        refine ⟨b1, ?_⟩
        rcases b2 with b2 | b2
        · exact Or.inl b2
        · rw [e] at b2
          exact Or.inr (by omega)
/-- what a gate begins with -/
def bgV (gs : List Nat) (w g : Nat) : Int64 × Int64 := if gs.getD g 9 = 0 then (sx_IW (rk gs g), sx_IW (rk gs g) ^^^ (-1)) else if gs.getD g 9 = 1 then (LBw (rk gs g) w, LBw (rk gs g) w ^^^ (-1)) else (0, 0)
theorem begW_eq {w g : Nat} {kn : Nat → Int64} : begW gs w kn g = vp_updL (vp_updL kn (2 * g) (bgV gs w g).1) (2 * g + 1) (bgV gs w g).2 := by
  rw [begW, bgV]
  split
  · rfl
  · split <;> rfl
theorem beg_at (w : Nat) : ∀ (k i : Nat) (kn : Nat → Int64), (∀ g, i ≤ g → g < i + k → ((List.range' i k).foldl (begW gs w) kn) (2 * g) = (bgV gs w g).1 ∧ ((List.range' i k).foldl (begW gs w) kn) (2 * g + 1) = (bgV gs w g).2) ∧ (∀ j, (j / 2 < i ∨ i + k ≤ j / 2) → ((List.range' i k).foldl (begW gs w) kn) j = kn j)
  | 0, _, _ => ⟨fun g h1 h2 => absurd h2 (by omega), fun _ _ => rfl⟩
  | k + 1, i, kn => by
    rw [List.range'_succ, List.foldl_cons]
    obtain ⟨h1, h2⟩ := beg_at w k (i + 1) (begW gs w kn i)
    refine ⟨fun g g1 g2 => ?_, fun j hj => ?_⟩
    · rcases Nat.lt_or_ge i g with c | c
      · exact h1 g (by omega) (by omega)
      · have : g = i := by omega
        subst this
        rw [h2 _ (by omega), h2 _ (by omega), begW_eq, updL_eq, updL_eq, updL_eq, if_neg (by omega), if_pos rfl, if_pos rfl]
        exact ⟨rfl, rfl⟩
    · rw [h2 j (by omega), begW_eq, updL_eq, updL_eq, if_neg (by omega), if_neg (by omega)]
theorem IW_bit {r b : Nat} (hr : r < 4) (hb : b < 64) : bL (sx_IW r) b = (b % 16).testBit r := by
  have key : ∀ r : Fin 4, ∀ b : Fin 64, bL (sx_IW r.val) b.val = (b.val % 16).testBit r.val := by decide +kernel
  exact key ⟨r, hr⟩ ⟨b, hb⟩
theorem LB_bit {r w b : Nat} (hr : r < 8) (hw : w < 64) (hb : b < 64) : bL (LBw r w) b = (4 * w + b / 16).testBit r := by
  have k1 : ∀ r : Fin 2, ∀ b : Fin 64, bL (sx_LW r.val) b.val = (b.val / 16).testBit r.val := by decide +kernel
  rw [LBw]
  by_cases c : 2 ≤ r
  · rw [if_pos c]
    have e : (4 * w + b / 16) / 2 ^ r = w / 2 ^ (r - 2) := by
      have : 2 ^ r = 4 * 2 ^ (r - 2) := by
        have : r = 2 + (r - 2) := by omega
        conv => lhs; rw [this, Nat.pow_add]
      rw [this, ← Nat.div_div_eq_div_mul]
      congr 1
      omega
    rw [Nat.testBit_eq_decide_div_mod_eq, e]
    split
    · rename_i z; rw [bL_m1 hb, z]; rfl
    · rename_i z; rw [bL_0]; simp [z]
  · rw [if_neg c, k1 ⟨r, by omega⟩ ⟨b, hb⟩]
    rw [Nat.testBit_eq_decide_div_mod_eq, Nat.testBit_eq_decide_div_mod_eq]
    congr 2
    dsimp only
    rcases (by omega : r = 0 ∨ r = 1) with z | z <;> subst z <;> simp <;> omega
/-- the values of inputs and latches with a state and a choice -/
def bvS (gs : List Nat) (s c g : Nat) : Bool := if gs.getD g 9 = 0 then c.testBit (rk gs g) else s.testBit (rk gs g)
theorem bg_bit (hw : WF gs fs os) {w b g : Nat} (hw64 : w < 64) (hb : b < 64) (hg : g < gs.length) : (gs.getD g 9 ≤ 1 → bL (bgV gs w g).1 b = bvS gs (4 * w + b / 16) (b % 16) g ∧ bL (bgV gs w g).2 b = !(bvS gs (4 * w + b / 16) (b % 16) g)) ∧ (¬ gs.getD g 9 ≤ 1 → bL (bgV gs w g).1 b = false ∧ bL (bgV gs w g).2 b = false) := by
  have hr := rk_lt hg
  rw [bgV, bvS]
  constructor
  · intro h
    rcases (by omega : gs.getD g 9 = 0 ∨ gs.getD g 9 = 1) with c | c
    · rw [c] at hr
      have := hw.2.1
      rw [if_pos c, if_pos c]
      dsimp only
      rw [bL_xor, bL_m1 hb, IW_bit (by omega) hb]
      exact ⟨rfl, by simp⟩
    · rw [c] at hr
      have := hw.2.2.1
      rw [if_neg (by omega), if_pos c, if_neg (by omega)]
      dsimp only
      rw [bL_xor, bL_m1 hb, LB_bit (by omega) hw64 hb]
      exact ⟨rfl, by simp⟩
  · intro h
    rw [if_neg (by omega), if_neg (by omega)]
    exact ⟨bL_0, bL_0⟩
theorem beg_SB (hw : WF gs fs os) {w b : Nat} (hw64 : w < 64) (hb : b < 64) : SB gs fs (bvS gs (4 * w + b / 16) (b % 16)) (kb ((List.range' 0 gs.length).foldl (begW gs w) (fun _ => 0)) b) := by
  obtain ⟨h1, h2⟩ := beg_at (gs := gs) w gs.length 0 (fun _ => 0)
  rw [Nat.zero_add] at h1 h2
  generalize (List.range' 0 gs.length).foldl (begW gs w) (fun _ => 0) = B at h1 h2
  have e0 : ∀ g, g < gs.length → kb B b (2 * g) = bL (bgV gs w g).1 b ∧ kb B b (2 * g + 1) = bL (bgV gs w g).2 b := fun g hg => by
    obtain ⟨a, c⟩ := h1 g (by omega) hg
    rw [kb, kb, a, c]; exact ⟨rfl, rfl⟩
  have hop : ∀ g, g < gs.length → ¬ gs.getD g 9 ≤ 1 → kb B b (2 * g) = false ∧ kb B b (2 * g + 1) = false := fun g hg h => by
    obtain ⟨a, c⟩ := (bg_bit hw hw64 hb hg).2 h
    rw [(e0 g hg).1, (e0 g hg).2, a, c]; exact ⟨rfl, rfl⟩
  have hbs : ∀ g, g < gs.length → gs.getD g 9 ≤ 1 → kb B b (2 * g) = bvS gs (4 * w + b / 16) (b % 16) g ∧ kb B b (2 * g + 1) = !(bvS gs (4 * w + b / 16) (b % 16) g) := fun g hg h => by
    obtain ⟨a, c⟩ := (bg_bit hw hw64 hb hg).1 h
    rw [(e0 g hg).1, (e0 g hg).2, a, c]; exact ⟨rfl, rfl⟩
  refine ⟨fun l hl => ?_, fun g fl hg hf hs => ?_, fun g hg hs => ?_⟩
  · by_cases c : l / 2 < gs.length
    · by_cases d : gs.getD (l / 2) 9 ≤ 1
      · have hbd := Dv_base (fs := fs) (bv := bvS gs (4 * w + b / 16) (b % 16)) (l / 2) c d
        obtain ⟨a1, a2⟩ := hbs _ c d
        rcases Nat.mod_two_eq_zero_or_one l with z | z
        · have e1 : 2 * (l / 2) = l := by omega
          rw [e1, hl] at a1
          rw [← a1, if_pos rfl, e1] at hbd
          exact hbd
        · have e1 : 2 * (l / 2) + 1 = l := by omega
          rw [e1, hl] at a2
          have a3 : bvS gs (4 * w + b / 16) (b % 16) (l / 2) = false := by
            cases q : bvS gs (4 * w + b / 16) (b % 16) (l / 2) with
            | false => rfl
            | true => rw [q] at a2; exact absurd a2 (by simp)
          rw [a3, if_neg (by simp), e1] at hbd
          exact hbd
      · obtain ⟨a1, a2⟩ := hop _ c d
        rcases Nat.mod_two_eq_zero_or_one l with z | z
        · have e1 : 2 * (l / 2) = l := by omega
          rw [e1, hl] at a1; exact absurd a1 (by simp)
        · have e1 : 2 * (l / 2) + 1 = l := by omega
          rw [e1, hl] at a2; exact absurd a2 (by simp)
    · rw [kb, h2 l (by omega), bL_0] at hl
      exact absurd hl (by simp)
  · obtain ⟨a1, a2⟩ := hop g hg (by omega)
    have x := xo (2 * g + fl)
    rcases (by omega : fl = 0 ∨ fl = 1) with c | c
    · subst c
      have e1 : (2 * g + 0) ^^^ 1 = 2 * g + 1 := by omega
      rw [e1, Nat.add_zero, a1, a2]
      exact ⟨fun h => absurd h (by simp), fun h => absurd h (by simp)⟩
    · subst c
      have e1 : (2 * g + 1) ^^^ 1 = 2 * g := by omega
      rw [e1, a1, a2]
      exact ⟨fun h => absurd h (by simp), fun h => absurd h (by simp)⟩
  · obtain ⟨a1, a2⟩ := hbs g hg hs
    split
    · rename_i z; rw [Nat.add_zero, a1, z]
    · rename_i z; rw [a2]; simpa using z
theorem KN_bit (hw : WF gs fs os) {w b : Nat} (hw64 : w < 64) (hb : b < 64) (l : Nat) : bL (KN gs fs w l) b = true ↔ Dv gs fs (bvS gs (4 * w + b / 16) (b % 16)) l := by
  obtain ⟨h1, h2⟩ := settle_SB hb gs.length _ (beg_SB (fs := fs) hw hw64 hb)
  show kb (KN gs fs w) b l = true ↔ _
  rw [KN]
  refine ⟨fun h => h1.1 l h, fun h => ?_⟩
  rcases h2 with h2 | h2
  · exact SB_fix h1 h2 h
  · exact SB_full h1 (by omega) h
/-- a literal is known, with a state and a choice -/
theorem KN_at (hw : WF gs fs os) {s c : Nat} (hs : s < 256) (hc : c < 16) (l : Nat) : bL (KN gs fs (s / 4) l) (s % 4 * 16 + c) = true ↔ Dv gs fs (bvS gs s c) l := by
  rw [KN_bit hw (by omega) (by omega)]
  have e1 : 4 * (s / 4) + (s % 4 * 16 + c) / 16 = s := by omega
  have e2 : (s % 4 * 16 + c) % 16 = c := by omega
  rw [e1, e2]
theorem SEof_bit {kn : Nat → Int64} {b : Nat} (hb : b < 64) : ∀ (l : List Nat) (a : Int64), bL (l.foldl (fun a g => a &&& (kn (2 * g) ||| kn (2 * g + 1))) a) b = (bL a b && l.all (fun g => bL (kn (2 * g)) b || bL (kn (2 * g + 1)) b))
  | [], a => by simp
  | g :: l, a => by rw [List.foldl_cons, SEof_bit hb l, bL_and, bL_or, List.all_cons, Bool.and_assoc]
theorem SE_at (hw : WF gs fs os) {s c : Nat} (hs : s < 256) (hc : c < 16) : bL (SE gs fs (s / 4)) (s % 4 * 16 + c) = true ↔ ∀ g, g < gs.length → Dv gs fs (bvS gs s c) (2 * g) ∨ Dv gs fs (bvS gs s c) (2 * g + 1) := by
  rw [SE, SEof, SEof_bit (by omega), bL_m1 (by omega), Bool.true_and, List.all_eq_true]
  constructor
  · intro h g hg
    have := h g (List.mem_range'_1.mpr ⟨by omega, by omega⟩)
    rw [Bool.or_eq_true_iff, KN_at hw hs hc, KN_at hw hs hc] at this
    exact this
  · intro h g hg
    have hg2 := List.mem_range'_1.mp hg
    rw [Bool.or_eq_true_iff, KN_at hw hs hc, KN_at hw hs hc]
    exact h g (by omega)
theorem Dv_congr {bv bw : Nat → Bool} (h : ∀ g, g < gs.length → gs.getD g 9 ≤ 1 → bv g = bw g) {l : Nat} (hd : Dv gs fs bv l) : Dv gs fs bw l := by
  refine Dv_rec (P := fun l => Dv gs fs bw l) ?_ ?_ ?_ hd
  · intro g hg hs; rw [h g hg hs]; exact Dv_base g hg hs
  · intro g fl hg hf hs _ ih; exact Dv_all g fl hg hf hs ih
  · intro g fl l hg hf hs hl _ ih; exact Dv_one g fl l hg hf hs hl ih
/-- choices beyond the inputs are copies -/
theorem bvS_mod {s c g : Nat} (hg : g < gs.length) : bvS gs s c g = bvS gs s (c % 2 ^ gs.count 0) g := by
  rw [bvS, bvS]
  split
  · rename_i h
    have := rk_lt hg
    rw [h] at this
    rw [Nat.testBit_mod_two_pow]
    simp [this]
  · rfl
theorem Dv_mod {s c l : Nat} : Dv gs fs (bvS gs s c) l ↔ Dv gs fs (bvS gs s (c % 2 ^ gs.count 0)) l :=
  ⟨Dv_congr fun _ hg _ => bvS_mod hg, Dv_congr fun _ hg _ => (bvS_mod hg).symm⟩
end KB
end
section
/-! latches by their numbers; the next state's bits -/
section LAT
variable {gs : List Nat} {fs : List (Nat × Nat)} {os : List Nat}
theorem rk_surj {q : Nat} (hq : q ≠ 9) : ∀ (n k : Nat), n ≤ gs.length → k < (gs.take n).count q → ∃ g, g < n ∧ gs.getD g 9 = q ∧ rk gs g = k
  | 0, k, _, h => absurd h (by simp)
  | n + 1, k, hn, h => by
    have eg : gs.getD n 9 = gs[n]'(by omega) := by rw [List.getD_eq_getElem?_getD, List.getElem?_eq_getElem (by omega)]; rfl
    have e : gs.take (n + 1) = gs.take n ++ [gs.getD n 9] := by rw [eg, List.take_succ_eq_append_getElem (by omega)]
    rw [e, List.count_append] at h
    by_cases c : k < (gs.take n).count q
    · obtain ⟨g, h1, h2, h3⟩ := rk_surj hq n k (by omega) c
      exact ⟨g, by omega, h2, h3⟩
    · by_cases d : gs.getD n 9 = q
      · rw [d] at h
        have : List.count q [q] = 1 := by simp
        refine ⟨n, by omega, d, ?_⟩
        rw [rk, d]; omega
      · have : List.count q [gs.getD n 9] = 0 := List.count_eq_zero_of_not_mem (fun z => d (List.mem_singleton.mp z).symm)
        omega
/-- the gate of latch k -/
def gk (gs : List Nat) (k : Nat) : Nat := ((List.range' 0 gs.length).find? (fun g => decide (gs.getD g 9 = 1) && decide (rk gs g = k))).getD 0
theorem gk_of {k : Nat} (h : k < gs.count 1) : gk gs k < gs.length ∧ gs.getD (gk gs k) 9 = 1 ∧ rk gs (gk gs k) = k := by
  obtain ⟨g, h1, h2, h3⟩ := rk_surj (gs := gs) (q := 1) (by decide) gs.length k (Nat.le_refl _) (by rw [List.take_length]; exact h)
  rw [gk]
  cases e : (List.range' 0 gs.length).find? (fun g => decide (gs.getD g 9 = 1) && decide (rk gs g = k)) with
  | none =>
    have := List.find?_eq_none.mp e g (List.mem_range'_1.mpr ⟨by omega, by omega⟩)
    rw [h2, h3] at this
    simp at this
  | some x =>
    have a := List.find?_some e
    have b := List.mem_of_find?_eq_some e
    have b2 := List.mem_range'_1.mp b
    rw [Bool.and_eq_true, decide_eq_true_eq, decide_eq_true_eq] at a
    rw [Option.getD_some]
    exact ⟨by omega, a.1, a.2⟩
theorem gk_rk {g : Nat} (hg : g < gs.length) (hs : gs.getD g 9 = 1) : gk gs (rk gs g) = g := by
  have := rk_lt hg
  rw [hs] at this
  obtain ⟨a, b, c⟩ := gk_of this
  exact rk_inj a hg (b.trans hs.symm) c
/-- the literal that latch k takes next -/
def nvF (gs : List Nat) (fs : List (Nat × Nat)) (k : Nat) : Nat := (fOf fs (gk gs k)).getD 0 (2 * gk gs k)
theorem nvF_lt (hw : WF gs fs os) {k : Nat} (h : k < gs.count 1) : nvF gs fs k < 2 * gs.length := by
  obtain ⟨a, b, c⟩ := gk_of h
  rw [nvF]
  cases e : fOf fs (gk gs k) with
  | nil => simp; omega
  | cons l t =>
    have : l ∈ fOf fs (gk gs k) := by rw [e]; exact List.mem_cons_self
    have := (hw.2.2.2.2.2.1 _ (fOf_mem this)).2.1
    simpa using this
theorem nv_RC {so ra st li nl ou : Nat → Int32} {gT iT lT oT : Int32} (h : RC so ra st li nl ou gT iT lT oT gs fs os) (hw : WF gs fs os) : ∀ k, k < gs.count 1 → nl k = nI (nvF gs fs k) ∧ nvF gs fs k < 2 * gs.length := by
  intro k hk
  obtain ⟨a, b, c⟩ := gk_of hk
  refine ⟨?_, nvF_lt hw hk⟩
  have := h.2.2.2.2.2.2.2.1 (gk gs k) a b
  rw [c] at this
  exact this
theorem nxt_bit {va : Nat → Int64} {nv : Nat → Nat} {w b : Nat} : ∀ (K k : Nat), k < K → (nxt va nv w b K).testBit k = !(bL (va (nv k / 2 * 64 + w)) b == decide (nv k % 2 = 1))
  | 0, k, h => absurd h (by omega)
  | K + 1, k, h => by
    have hlt := nxt_lt (va := va) (nv := nv) (w := w) (b := b) K
    have key : ∀ z : Nat, nxt va nv w b K + z * 2 ^ K = 2 ^ K * z + nxt va nv w b K := fun z => by rw [Nat.mul_comm, Nat.add_comm]
    rw [nxt, key, Nat.testBit_two_pow_mul_add _ hlt]
    rcases Nat.lt_or_ge k K with c | c
    · rw [if_pos c]; exact nxt_bit K k c
    · have : k = K := by omega
      subst this
      rw [if_neg (by omega), Nat.sub_self]
      cases bL (va (nv k / 2 * 64 + w)) b <;> cases decide (nv k % 2 = 1) <;> decide
/-- does the net settle; what is a literal -/
def stN (gs : List Nat) (fs : List (Nat × Nat)) (s c : Nat) : Bool := bL (SE gs fs (s / 4)) (s % 4 * 16 + c)
def vaN (gs : List Nat) (fs : List (Nat × Nat)) (g s c : Nat) : Bool := bL (KN gs fs (s / 4) (2 * g)) (s % 4 * 16 + c)
theorem stN_iff (hw : WF gs fs os) {s c : Nat} (hs : s < 256) (hc : c < 16) : stN gs fs s c = true ↔ ∀ g, g < gs.length → Dv gs fs (bvS gs s c) (2 * g) ∨ Dv gs fs (bvS gs s c) (2 * g + 1) := SE_at hw hs hc
theorem vaN_iff (hw : WF gs fs os) {g s c : Nat} (hs : s < 256) (hc : c < 16) : vaN gs fs g s c = true ↔ Dv gs fs (bvS gs s c) (2 * g) := KN_at hw hs hc _
theorem stN_mod (hw : WF gs fs os) {s c : Nat} (hs : s < 256) (hc : c < 16) : stN gs fs s c = stN gs fs s (c % 2 ^ gs.count 0) := by
  have hp : c % 2 ^ gs.count 0 < 16 := Nat.lt_of_le_of_lt (Nat.mod_le _ _) hc
  apply Bool.eq_iff_iff.mpr
  rw [stN_iff hw hs hc, stN_iff hw hs hp]
  constructor
  · intro h g hg; rw [← Dv_mod, ← Dv_mod]; exact h g hg
  · intro h g hg; rw [Dv_mod, Dv_mod (l := 2 * g + 1)]; exact h g hg
theorem vaN_mod (hw : WF gs fs os) {g s c : Nat} (hs : s < 256) (hc : c < 16) : vaN gs fs g s c = vaN gs fs g s (c % 2 ^ gs.count 0) := by
  have hp : c % 2 ^ gs.count 0 < 16 := Nat.lt_of_le_of_lt (Nat.mod_le _ _) hc
  apply Bool.eq_iff_iff.mpr
  rw [vaN_iff hw hs hc, vaN_iff hw hs hp, Dv_mod]
theorem nxA_none {nv : Nat → Nat} {s c : Nat} : nxA gs fs nv s c = none ↔ stN gs fs s c = false := by
  rw [nxA, stN]
  split
  · rename_i h; exact ⟨fun _ => h, fun _ => rfl⟩
  · rename_i h; exact ⟨fun q => (nomatch q), fun q => absurd q h⟩
/-- the next state's bits are the latches' literals -/
theorem nxA_bit (hw : WF gs fs os) {s c t : Nat} (hs : s < 256) (hc : c < 16) (h : nxA gs fs (nvF gs fs) s c = some t) {k : Nat} (hk : k < gs.count 1) : t.testBit k = true ↔ Dv gs fs (bvS gs s c) (nvF gs fs k) := by
  have hl := nvF_lt (fs := fs) hw hk
  have hst : stN gs fs s c = true := by
    cases e : stN gs fs s c with
    | true => rfl
    | false => rw [nxA_none.mpr e] at h; cases h
  have hall := (stN_iff hw hs hc).mp hst
  rw [nxA] at h
  split at h
  · cases h
  · cases h
    rw [nxt_bit _ k hk]
    have e1 : VA gs fs (nvF gs fs k / 2 * 64 + s / 4) = KN gs fs (s / 4) (2 * (nvF gs fs k / 2)) := by
      rw [VA]
      congr 1
      · congr 1; omega
      · omega
    rw [e1]
    have hv := vaN_iff (g := nvF gs fs k / 2) (fs := fs) hw hs hc
    rw [vaN] at hv
    generalize hl2 : nvF gs fs k = l at *
    have hd := hall (l / 2) (by omega)
    rcases Nat.mod_two_eq_zero_or_one l with z | z
    · have e2 : 2 * (l / 2) = l := by omega
      rw [e2] at hv
      rw [e2, z, ← hv]; simp
    · have e2 : 2 * (l / 2) + 1 = l := by omega
      have x := xo (2 * (l / 2))
      have e3 : 2 * (l / 2) ^^^ 1 = l := by omega
      rw [e2] at hd
      rw [z]
      cases q : bL (KN gs fs (s / 4) (2 * (l / 2))) (s % 4 * 16 + c) with
      | true =>
        have := hv.mp q
        constructor
        · intro w; exact absurd w (by simp)
        · intro w; exact absurd (Dv_cons this w e3.symm) (by simp)
      | false =>
        constructor
        · intro _
          rcases hd with hd | hd
          · have := hv.mpr hd; rw [q] at this; exact absurd this (by simp)
          · exact hd
        · intro _; rfl
end LAT
end
section
/-! THE REFERENCE'S VALUES: 0, 1, 2 for each gate -/
def tk (V : Nat → Nat) (l : Nat) : Nat := if V (l / 2) = 2 ∨ l % 2 = 0 then V (l / 2) else 1 - V (l / 2)
def mkS (V : Nat → Nat) (st m l : Nat) : Nat := if tk V l = st then st else if tk V l = 2 ∧ m ≠ st then 2 else m
def mkG (V : Nat → Nat) (st m : Nat) (ls : List Nat) : Nat := ls.foldl (mkS V st) m
theorem mkG_cases {V : Nat → Nat} {st : Nat} (hst : st ≤ 1) : ∀ (ls : List Nat) (m : Nat), (mkG V st m ls = st ∧ (m = st ∨ ∃ l, l ∈ ls ∧ tk V l = st)) ∨ (mkG V st m ls = 2 ∧ m ≠ st ∧ (m = 2 ∨ ∃ l, l ∈ ls ∧ tk V l = 2) ∧ ∀ l, l ∈ ls → tk V l ≠ st) ∨ (mkG V st m ls = m ∧ m ≠ st ∧ m ≠ 2 ∧ ∀ l, l ∈ ls → tk V l ≠ st ∧ tk V l ≠ 2)
  | [], m => by
    rw [mkG, List.foldl_nil]
    by_cases c : m = st
    · exact Or.inl ⟨c, Or.inl c⟩
    · by_cases d : m = 2
      · exact Or.inr (Or.inl ⟨d, c, Or.inl d, fun l hl => absurd hl (by simp)⟩)
      · exact Or.inr (Or.inr ⟨rfl, c, d, fun l hl => absurd hl (by simp)⟩)
  | l :: ls, m => by
    have ih := mkG_cases (V := V) hst ls (mkS V st m l)
    have e : mkG V st m (l :: ls) = mkG V st (mkS V st m l) ls := rfl
    rw [e]
    by_cases c1 : tk V l = st
    · have e2 : mkS V st m l = st := by rw [mkS, if_pos c1]
      rw [e2] at ih ⊢
      rcases ih with ⟨a, _⟩ | ⟨_, b, _⟩ | ⟨_, b, _⟩
      · exact Or.inl ⟨a, Or.inr ⟨l, List.mem_cons_self, c1⟩⟩
      · exact absurd rfl b
      · exact absurd rfl b
    · by_cases c2 : tk V l = 2 ∧ m ≠ st
      · have e2 : mkS V st m l = 2 := by rw [mkS, if_neg c1, if_pos c2]
        rw [e2] at ih ⊢
        rcases ih with ⟨a, b⟩ | ⟨a, b, _, d⟩ | ⟨_, _, b, _⟩
        · refine Or.inl ⟨a, Or.inr ?_⟩
          rcases b with b | ⟨x, hx, b⟩
          · omega
          · exact ⟨x, List.mem_cons_of_mem _ hx, b⟩
        · refine Or.inr (Or.inl ⟨a, c2.2, Or.inr ⟨l, List.mem_cons_self, c2.1⟩, fun x hx => ?_⟩)
          rcases List.mem_cons.mp hx with z | z
          · rw [z]; exact c1
          · exact d x z
        · exact absurd rfl b
      · have e2 : mkS V st m l = m := by rw [mkS, if_neg c1, if_neg c2]
        rw [e2] at ih ⊢
        rcases ih with ⟨a, b⟩ | ⟨a, b, b2, d⟩ | ⟨a, b, b2, d⟩
        · refine Or.inl ⟨a, ?_⟩
          rcases b with b | ⟨x, hx, b⟩
          · exact Or.inl b
          · exact Or.inr ⟨x, List.mem_cons_of_mem _ hx, b⟩
        · refine Or.inr (Or.inl ⟨a, b, ?_, fun x hx => ?_⟩)
          · rcases b2 with b2 | ⟨x, hx, b2⟩
            · exact Or.inl b2
            · exact Or.inr ⟨x, List.mem_cons_of_mem _ hx, b2⟩
          · rcases List.mem_cons.mp hx with z | z
            · rw [z]; exact c1
            · exact d x z
        · refine Or.inr (Or.inr ⟨a, b, b2, fun x hx => ?_⟩)
          rcases List.mem_cons.mp hx with z | z
          · rw [z]; exact ⟨c1, fun q => c2 ⟨q, b⟩⟩
          · exact d x z
def sgN (gs : List Nat) (g : Nat) : Nat := if gs.getD g 9 = 2 then 0 else 1
def m0N (gs : List Nat) (g : Nat) : Nat := if gs.getD g 9 = 2 then 1 else 0
/-- what a gate is after one turn more -/
def agN (gs : List Nat) (fs : List (Nat × Nat)) (V : Nat → Nat) (g : Nat) : Nat := if 2 ≤ gs.getD g 9 ∧ V g = 2 then mkG V (sgN gs g) (m0N gs g) (fOf fs g) else V g
section REFV
variable {gs : List Nat} {fs : List (Nat × Nat)} {os : List Nat} {bv : Nat → Bool} {V : Nat → Nat}
def SV (gs : List Nat) (fs : List (Nat × Nat)) (bv : Nat → Bool) (V : Nat → Nat) : Prop := ∀ g, g < gs.length → V g ≤ 2 ∧ (V g = 1 → Dv gs fs bv (2 * g)) ∧ (V g = 0 → Dv gs fs bv (2 * g + 1)) ∧ (gs.getD g 9 ≤ 1 → V g = if bv g = true then 1 else 0)
theorem tk_Dv (h : SV gs fs bv V) {l : Nat} (hl : l < 2 * gs.length) : tk V l ≤ 2 ∧ (tk V l = 1 → Dv gs fs bv l) ∧ (tk V l = 0 → Dv gs fs bv (l ^^^ 1)) := by
  obtain ⟨a, b, c, _⟩ := h (l / 2) (by omega)
  have x := xo l
  rw [tk]
  rcases Nat.mod_two_eq_zero_or_one l with z | z
  · have e1 : 2 * (l / 2) = l := by omega
    have e2 : l ^^^ 1 = l + 1 := by omega
    rw [e1] at b c
    rw [if_pos (Or.inr z), e2]
    exact ⟨a, b, c⟩
  · have e1 : 2 * (l / 2) + 1 = l := by omega
    have e2 : l ^^^ 1 = 2 * (l / 2) := by omega
    rw [e1] at c
    rw [e2]
    split
    · rename_i q
      exact ⟨a, fun w => absurd w (by omega), fun w => absurd w (by omega)⟩
    · rename_i q
      exact ⟨by omega, fun w => c (by omega), fun w => b (by omega)⟩
theorem fOf_lt (hw : WF gs fs os) {g l : Nat} (h : l ∈ fOf fs g) : l < 2 * gs.length := (hw.2.2.2.2.2.1 _ (fOf_mem h)).2.1
theorem so_le (hw : WF gs fs os) {g : Nat} (hg : g < gs.length) : gs.getD g 9 ≤ 3 := hw.2.2.2.1 _ (getD_mem hg)
/-- the turn's answer, of an and or an or -/
theorem mk_Dv (hw : WF gs fs os) (h : SV gs fs bv V) {g : Nat} (hg : g < gs.length) (h2 : 2 ≤ gs.getD g 9) : mkG V (sgN gs g) (m0N gs g) (fOf fs g) ≤ 2 ∧ (mkG V (sgN gs g) (m0N gs g) (fOf fs g) = 1 → Dv gs fs bv (2 * g)) ∧ (mkG V (sgN gs g) (m0N gs g) (fOf fs g) = 0 → Dv gs fs bv (2 * g + 1)) := by
  have h3 := so_le hw hg
  have x0 := xo (2 * g + 0)
  have x1 := xo (2 * g + 1)
  have y0 : (2 * g + 0) ^^^ 1 = 2 * g + 1 := by omega
  have y1 : (2 * g + 1) ^^^ 1 = 2 * g := by omega
  rcases (by omega : gs.getD g 9 = 2 ∨ gs.getD g 9 = 3) with c | c
  · rw [sgN, m0N, if_pos c, if_pos c]
    rcases mkG_cases (V := V) (st := 0) (by decide) (fOf fs g) 1 with ⟨a, b⟩ | ⟨a, _⟩ | ⟨a, _, _, b⟩
    · rw [a]
      refine ⟨by decide, fun q => absurd q (by decide), fun _ => ?_⟩
      rcases b with b | ⟨l, hl, b⟩
      · exact absurd b (by decide)
      · have := Dv_one (bv := bv) g 0 l hg (by decide) (by omega) hl (by rw [Nat.xor_zero]; exact (tk_Dv h (fOf_lt hw hl)).2.2 b)
        rw [y0] at this; exact this
    · rw [a]; exact ⟨by decide, fun q => absurd q (by decide), fun q => absurd q (by decide)⟩
    · rw [a]
      refine ⟨by decide, fun _ => ?_, fun q => absurd q (by decide)⟩
      refine Dv_all (bv := bv) g 0 hg (by decide) (by omega) (fun l hl => ?_)
      obtain ⟨t1, t2, _⟩ := tk_Dv h (fOf_lt hw hl)
      have := b l hl
      rw [Nat.xor_zero]
      exact t2 (by omega)
  · rw [sgN, m0N, if_neg (by omega), if_neg (by omega)]
    rcases mkG_cases (V := V) (st := 1) (by decide) (fOf fs g) 0 with ⟨a, b⟩ | ⟨a, _⟩ | ⟨a, _, _, b⟩
    · rw [a]
      refine ⟨by decide, fun _ => ?_, fun q => absurd q (by decide)⟩
      rcases b with b | ⟨l, hl, b⟩
      · exact absurd b (by decide)
      · have := Dv_one (bv := bv) g 1 l hg (by decide) (by omega) hl (by rw [xx]; exact (tk_Dv h (fOf_lt hw hl)).2.1 b)
        rw [y1] at this; exact this
    · rw [a]; exact ⟨by decide, fun q => absurd q (by decide), fun q => absurd q (by decide)⟩
    · rw [a]
      refine ⟨by decide, fun q => absurd q (by decide), fun _ => ?_⟩
      refine Dv_all (bv := bv) g 1 hg (by decide) (by omega) (fun l hl => ?_)
      obtain ⟨t1, _, t2⟩ := tk_Dv h (fOf_lt hw hl)
      have := b l hl
      exact t2 (by omega)
theorem SV_ag (hw : WF gs fs os) (h : SV gs fs bv V) : SV gs fs bv (agN gs fs V) := by
  intro g hg
  obtain ⟨a, b, c, d⟩ := h g hg
  rw [agN]
  split
  · rename_i e
    obtain ⟨m1, m2, m3⟩ := mk_Dv hw h hg e.1
    exact ⟨m1, m2, m3, fun q => absurd q (by omega)⟩
  · exact ⟨a, b, c, d⟩
/-- where a turn changes nothing, all that can be known is known -/
theorem SV_fix (hw : WF gs fs os) (h : SV gs fs bv V) (hf : ∀ g, g < gs.length → agN gs fs V g = V g) {l : Nat} (hd : Dv gs fs bv l) : tk V l = 1 := by
  have key : ∀ l, Dv gs fs bv l → V (l / 2) ≠ 2 → tk V l = 1 := by
    intro l hd hv
    have hlt := Dv_lt hd
    obtain ⟨t1, t2, t3⟩ := tk_Dv h hlt
    have : tk V l ≠ 2 := by
      rw [tk]
      have := (h (l / 2) (by omega)).1
      split <;> omega
    have : tk V l ≠ 0 := fun q => Dv_cons hd (t3 q) rfl
    omega
  have tk1 : ∀ l, tk V (l ^^^ 1) = 1 → tk V l ≤ 2 → tk V l = 0 := by
    intro l h1 h2
    have x := xo l
    rw [tk] at h1 h2 ⊢
    rw [x.1] at h1
    revert h1 h2
    split <;> split <;> omega
  refine Dv_rec (P := fun l => tk V l = 1) ?_ ?_ ?_ hd
  · intro g hg hs
    refine key _ (Dv_base g hg hs) ?_
    have e : (2 * g + if bv g = true then 0 else 1) / 2 = g := by split <;> omega
    rw [e, (h g hg).2.2.2 hs]
    split <;> decide
  · intro g fl hg hfl hs ha ih
    refine key _ (Dv_all g fl hg hfl hs ha) ?_
    have e : (2 * g + fl) / 2 = g := by omega
    rw [e]
    intro q
    have hq := hf g hg
    rw [agN, if_pos ⟨by omega, q⟩, q, sgN, m0N] at hq
    rcases (by omega : fl = 0 ∨ fl = 1) with c | c
    · subst c
      rw [if_pos hs, if_pos hs] at hq
      rcases mkG_cases (V := V) (st := 0) (by decide) (fOf fs g) 1 with ⟨a, _⟩ | ⟨_, _, b, _⟩ | ⟨a, _⟩
      · omega
      · rcases b with b | ⟨l, hl, b⟩
        · exact absurd b (by decide)
        · have := ih l hl; rw [Nat.xor_zero] at this; omega
      · omega
    · subst c
      rw [if_neg (by omega), if_neg (by omega)] at hq
      rcases mkG_cases (V := V) (st := 1) (by decide) (fOf fs g) 0 with ⟨a, _⟩ | ⟨_, _, b, _⟩ | ⟨a, _⟩
      · omega
      · rcases b with b | ⟨l, hl, b⟩
        · exact absurd b (by decide)
        · have := tk1 l (ih l hl) (by omega); omega
      · omega
  · intro g fl l hg hfl hs hl hd2 ih
    refine key _ (Dv_one g fl l hg hfl hs hl hd2) ?_
    have e : ((2 * g + fl) ^^^ 1) / 2 = g := by have := xo (2 * g + fl); omega
    rw [e]
    intro q
    have hq := hf g hg
    rw [agN, if_pos ⟨by omega, q⟩, q, sgN, m0N] at hq
    rcases (by omega : fl = 0 ∨ fl = 1) with c | c
    · subst c
      rw [if_pos hs, if_pos hs] at hq
      have t0 := tk1 l (by rw [Nat.xor_zero] at ih; exact ih) (tk_Dv h (fOf_lt hw hl)).1
      rcases mkG_cases (V := V) (st := 0) (by decide) (fOf fs g) 1 with ⟨a, _⟩ | ⟨_, _, _, b⟩ | ⟨a, _⟩
      · omega
      · exact b l hl t0
      · omega
    · subst c
      rw [if_neg (by omega), if_neg (by omega)] at hq
      rw [xx] at ih
      rcases mkG_cases (V := V) (st := 1) (by decide) (fOf fs g) 0 with ⟨a, _⟩ | ⟨_, _, _, b⟩ | ⟨a, _⟩
      · omega
      · exact b l hl ih
      · omega
theorem SV_is (hw : WF gs fs os) (h : SV gs fs bv V) (hf : ∀ g, g < gs.length → agN gs fs V g = V g) {g : Nat} (hg : g < gs.length) : (V g = 1 ↔ Dv gs fs bv (2 * g)) ∧ (V g = 0 ↔ Dv gs fs bv (2 * g + 1)) ∧ (V g = 2 ↔ ¬ (Dv gs fs bv (2 * g) ∨ Dv gs fs bv (2 * g + 1))) := by
  obtain ⟨a, b, c, _⟩ := h g hg
  have e1 : (2 * g) / 2 = g := by omega
  have e2 : (2 * g + 1) / 2 = g := by omega
  have d1 : Dv gs fs bv (2 * g) → V g = 1 := fun q => by
    have := SV_fix hw h hf q
    rw [tk, if_pos (by omega), e1] at this; exact this
  have d2 : Dv gs fs bv (2 * g + 1) → V g = 0 := fun q => by
    have := SV_fix hw h hf q
    rw [tk, e2] at this
    revert this; split <;> omega
  refine ⟨⟨b, d1⟩, ⟨c, d2⟩, fun q w => ?_, fun q => ?_⟩
  · rcases w with w | w
    · have := d1 w; omega
    · have := d2 w; omega
  · rcases (by omega : V g = 0 ∨ V g = 1 ∨ V g = 2) with z | z | z
    · exact absurd (Or.inr (c z)) q
    · exact absurd (Or.inl (b z)) q
    · exact z
/-- the unknown gates get fewer -/
def unN (gs : List Nat) (V : Nat → Nat) : Nat := (List.range' 0 gs.length).countP (fun g => decide (V g = 2))
theorem unN_ag (hn : ¬ ∀ g, g < gs.length → agN gs fs V g = V g) : unN gs (agN gs fs V) < unN gs V := by
  obtain ⟨g, hg, hne⟩ : ∃ g, g < gs.length ∧ agN gs fs V g ≠ V g := Classical.byContradiction fun q => hn fun g hg => Classical.byContradiction fun w => q ⟨g, hg, w⟩
  refine cnt_lt (fun x _ hx => ?_) ⟨g, List.mem_range'_1.mpr ⟨by omega, by omega⟩, ?_, ?_⟩
  · have h1 : agN gs fs V x = 2 := of_decide_eq_true hx
    rw [agN] at h1
    split at h1
    · rename_i q; exact decide_eq_true q.2
    · exact decide_eq_true h1
  · rw [agN] at hne ⊢
    split at hne
    · rename_i q
      rw [if_pos q]
      rw [q.2] at hne
      exact decide_eq_false hne
    · exact absurd rfl hne
  · rw [agN] at hne
    split at hne
    · rename_i q; exact decide_eq_true q.2
    · exact absurd rfl hne
end REFV
end
section
/-! THE REFERENCE'S CELLS hold the net; a turn of its settling -/
def RM (ga fe inp la ou : Int32) (so nu to fr oo ne : Nat → Int32) (gs : List Nat) (fs : List (Nat × Nat)) (os : List Nat) : Prop :=
  ga = nI gs.length ∧ fe = nI fs.length ∧ inp = nI (gs.count 0) ∧ la = nI (gs.count 1) ∧ ou = nI os.length ∧
  (∀ g, g < gs.length → so g = nI (gs.getD g 9) ∧ (gs.getD g 9 ≤ 1 → nu g = nI (rk gs g))) ∧
  (∀ k, k < fs.length → to k = nI (fs.getD k (0, 0)).1 ∧ fr k = nI ((fs.getD k (0, 0)).2 / 2) ∧ ne k = nI ((fs.getD k (0, 0)).2 % 2)) ∧
  (∀ o, o < os.length → oo o = nI (os.getD o 0))
theorem q0 {q : Nat} (h : q < 2 ^ 31) : (nI q = (0 : Int32)) ↔ q = 0 := by rw [i0]; exact nI_eq h (by decide)
theorem q1 {q : Nat} (h : q < 2 ^ 31) : (nI q = (1 : Int32)) ↔ q = 1 := by rw [i1]; exact nI_eq h (by decide)
theorem q2 {q : Nat} (h : q < 2 ^ 31) : (nI q = (2 : Int32)) ↔ q = 2 := by rw [i2]; exact nI_eq h (by decide)
section REFA
variable {so to fr ne : Nat → Int32} {gs : List Nat} {fs : List (Nat × Nat)} {os : List Nat} {V : Nat → Nat} {v : Nat → Int32}
theorem p_ag4 (hw : WF gs fs os) (hso : ∀ g, g < gs.length → so g = nI (gs.getD g 9)) : ∀ (k n i : Nat) (ma : Nat → Int32), i + k = gs.length → k < n → ∃ r, L_Mod_again_4 (nI gs.length) so n (nI i) ma = some r ∧ (∀ g, i ≤ g → g < gs.length → r g = nI (m0N gs g)) ∧ ∀ g, g < i → r g = ma g := by
  have hG := hw.1
  intro k
  induction k with
  | zero =>
    intro n i ma h1 h2
    obtain ⟨n, rfl⟩ : ∃ z, n = z + 1 := ⟨n - 1, by omega⟩
    rw [L_Mod_again_4, if_pos ((nI_leI (by omega) (by omega)).mpr (by omega))]
    exact ⟨_, rfl, fun s a b => absurd b (by omega), fun _ _ => rfl⟩
  | succ k ih =>
    intro n i ma h1 h2
    obtain ⟨n, rfl⟩ : ∃ z, n = z + 1 := ⟨n - 1, by omega⟩
    have h3 := so_le hw (show i < gs.length by omega)
    have key : ∀ x : Int32, x = nI (m0N gs i) → ∃ r, L_Mod_again_4 (nI gs.length) so n (nI (i + 1)) (upd ma i x) = some r ∧ (∀ g, i ≤ g → g < gs.length → r g = nI (m0N gs g)) ∧ ∀ g, g < i → r g = ma g := by
      intro x hx
      obtain ⟨r, r1, r2, r3⟩ := ih n (i + 1) (upd ma i x) (by omega) (by omega)
      refine ⟨r, r1, fun s a b => ?_, fun s a => by rw [r3 s (by omega), upd_eq, if_neg (by omega)]⟩
      rcases Nat.lt_or_ge i s with e | e
      · exact r2 s (by omega) b
      · have : s = i := by omega
        subst this
        rw [r3 s (by omega), upd_eq, if_pos rfl, hx]
    rw [L_Mod_again_4, if_neg (by rw [nI_leI (by omega) (by omega)]; omega), gd_nI (by omega) (by decide), gd_nI (by omega) (by decide), gd_nI (by omega) (by decide), nI_clamp (by omega), nI_1, hso i (by omega)]
    simp only [q2 (show gs.getD i 9 < 2 ^ 31 by omega)]
    by_cases c : gs.getD i 9 = 2
    · rw [if_pos c]; exact key _ (by rw [m0N, if_pos c]; rfl)
    · rw [if_neg c]; exact key _ (by rw [m0N, if_neg c]; rfl)
theorem one_sub {x : Nat} (h : x < 2) : (1 : Int32) - nI x = nI (1 - x) := by
  have key : ∀ x : Fin 2, (1 : Int32) - nI x.val = nI (1 - x.val) := by decide +kernel
  exact key ⟨x, h⟩
theorem p_taken (hG : gs.length ≤ 60) (hv : ∀ g, g < gs.length → v g = nI (V g) ∧ V g ≤ 2) {k l : Nat} (hk : k < 240) (hl : l < 2 * gs.length) (hf : fr k = nI (l / 2)) (hn : ne k = nI (l % 2)) : m_Mod_taken v fr ne (nI k) = some (nI (tk V l)) := by
  obtain ⟨a, b⟩ := hv (l / 2) (by omega)
  rw [m_Mod_taken, gd_nI hk (by decide), gd_nI hk (by decide), nI_clamp (by omega), hf, hn, gd_nI (by omega) (by decide), nI_clamp (by omega), a, tk]
  simp only [q2 (show V (l / 2) < 2 ^ 31 by omega), q0 (show l % 2 < 2 ^ 31 by omega)]
  by_cases c1 : V (l / 2) = 2
  · rw [if_pos c1, if_pos (Or.inl c1)]
  · rw [if_neg c1]
    by_cases c2 : l % 2 = 0
    · rw [if_pos c2, if_pos (Or.inr c2)]
    · rw [if_neg c2, if_neg (by omega), one_sub (by omega)]
theorem tk_le (hv : ∀ g, g < gs.length → V g ≤ 2) {l : Nat} (hl : l < 2 * gs.length) : tk V l ≤ 2 := by
  have := hv (l / 2) (by omega)
  rw [tk]; split <;> omega
theorem mkG_le {st m : Nat} {ls : List Nat} (hst : st ≤ 1) (hm : m ≤ 2) : mkG V st m ls ≤ 2 := by
  rcases mkG_cases (V := V) hst ls m with ⟨a, _⟩ | ⟨a, _⟩ | ⟨a, _⟩ <;> omega
theorem sg_le {g : Nat} : sgN gs g ≤ 1 := by rw [sgN]; split <;> decide
theorem m0_le {g : Nat} : m0N gs g ≤ 2 := by rw [m0N]; split <;> decide
theorem p_ag41 (hw : WF gs fs os) (hso : ∀ g, g < gs.length → so g = nI (gs.getD g 9)) (hfs : ∀ k, k < fs.length → to k = nI (fs.getD k (0, 0)).1 ∧ fr k = nI ((fs.getD k (0, 0)).2 / 2) ∧ ne k = nI ((fs.getD k (0, 0)).2 % 2)) (hv : ∀ g, g < gs.length → v g = nI (V g) ∧ V g ≤ 2) :
    ∀ (k n i : Nat) (ma : Nat → Int32), i + k = fs.length → k < n → (∀ g, g < gs.length → ma g = nI (mkG V (sgN gs g) (m0N gs g) (fOf (fs.take i) g))) →
      ∃ r, L_Mod_again_41 (nI fs.length) so v to fr ne n (nI i) ma = some r ∧ ∀ g, g < gs.length → r g = nI (mkG V (sgN gs g) (m0N gs g) (fOf fs g)) := by
  have hG := hw.1
  have hF : fs.length ≤ 240 := hw.2.2.2.2.1
  intro k
  induction k with
  | zero =>
    intro n i ma h1 h2 hm
    obtain ⟨n, rfl⟩ : ∃ z, n = z + 1 := ⟨n - 1, by omega⟩
    rw [L_Mod_again_41, if_pos ((nI_leI (by omega) (by omega)).mpr (by omega))]
    rw [List.take_of_length_le (by omega)] at hm
    exact ⟨_, rfl, hm⟩
  | succ k ih =>
    intro n i ma h1 h2 hm
    obtain ⟨n, rfl⟩ : ∃ z, n = z + 1 := ⟨n - 1, by omega⟩
    obtain ⟨f1, f2, f3⟩ := hfs i (by omega)
    have eg : fs.getD i (0, 0) = fs[i]'(by omega) := by rw [List.getD_eq_getElem?_getD, List.getElem?_eq_getElem (by omega)]; rfl
    have hmem : fs.getD i (0, 0) ∈ fs := by rw [eg]; exact List.getElem_mem _
    have ht : fs.take (i + 1) = fs.take i ++ [fs.getD i (0, 0)] := by rw [eg, List.take_succ_eq_append_getElem (by omega)]
    generalize fs.getD i (0, 0) = f at *
    obtain ⟨t, l⟩ := f
    obtain ⟨w1, w2, _⟩ := hw.2.2.2.2.2.1 _ hmem
    dsimp only at *
    have h3 := so_le hw w1
    have htk := tk_le (fun g hg => (hv g hg).2) w2
    have hsg := sg_le (gs := gs) (g := t)
    have hmt := hm t w1
    have hmle := mkG_le (V := V) (ls := fOf (fs.take i) t) hsg (m0_le (gs := gs) (g := t))
    generalize hmv : mkG V (sgN gs t) (m0N gs t) (fOf (fs.take i) t) = m at *
    have key : ∀ ma2 : Nat → Int32, (∀ g, g < gs.length → g ≠ t → ma2 g = ma g) → ma2 t = nI (mkS V (sgN gs t) m l) → ∃ r, L_Mod_again_41 (nI fs.length) so v to fr ne n (nI (i + 1)) ma2 = some r ∧ ∀ g, g < gs.length → r g = nI (mkG V (sgN gs g) (m0N gs g) (fOf fs g)) := by
      intro ma2 a1 a2
      refine ih n (i + 1) ma2 (by omega) (by omega) (fun g hg => ?_)
      rw [ht, fOf_app]
      by_cases c : t = g
      · subst c
        rw [if_pos rfl, a2, mkG, List.foldl_append]
        rw [mkG] at hmv
        rw [hmv]; rfl
      · rw [if_neg c, a1 g hg (fun z => c z.symm)]; exact hm g hg
    have est : (if gs.getD t 9 = 2 then (0 : Int32) else 1) = nI (sgN gs t) := by
      rw [sgN]; split <;> rfl
    rw [L_Mod_again_41, if_neg (by rw [nI_leI (by omega) (by omega)]; omega)]
    simp only [sx_let]
    rw [gd_nI (by omega) (by decide), nI_clamp (by omega), f1, gd_nI (by omega) (by decide), nI_clamp (by omega), hso t w1, p_taken hG hv (by omega) w2 f2 f3]
    simp only [Option.bind_some, q2 (show gs.getD t 9 < 2 ^ 31 by omega), q2 (show tk V l < 2 ^ 31 by omega), gd_nI (show t < 60 by omega) (show 60 < 2 ^ 31 by decide), nI_1]
    have body : ∀ z : Int32, z = nI (sgN gs t) → ∃ r, (if nI (tk V l) = z then (if tk V l = 2 then (if upd ma t z t = z then L_Mod_again_41 (nI fs.length) so v to fr ne n (nI (i + 1)) (upd ma t z) else L_Mod_again_41 (nI fs.length) so v to fr ne n (nI (i + 1)) (upd (upd ma t z) t (2 : Int32))) else L_Mod_again_41 (nI fs.length) so v to fr ne n (nI (i + 1)) (upd ma t z)) else (if tk V l = 2 then (if ma t = z then L_Mod_again_41 (nI fs.length) so v to fr ne n (nI (i + 1)) ma else L_Mod_again_41 (nI fs.length) so v to fr ne n (nI (i + 1)) (upd ma t (2 : Int32))) else L_Mod_again_41 (nI fs.length) so v to fr ne n (nI (i + 1)) ma)) = some r ∧ ∀ g, g < gs.length → r g = nI (mkG V (sgN gs g) (m0N gs g) (fOf fs g)) := by
      intro z hz
      subst hz
      rw [hmt]
      simp only [nI_eq (show tk V l < 2 ^ 31 by omega) (show sgN gs t < 2 ^ 31 by omega), nI_eq (show m < 2 ^ 31 by omega) (show sgN gs t < 2 ^ 31 by omega)]
      by_cases c1 : tk V l = sgN gs t
      · rw [if_pos c1, if_neg (by omega)]
        exact key _ (fun g _ hg => by rw [upd_eq, if_neg hg]) (by rw [upd_eq, if_pos rfl, mkS, if_pos c1])
      · rw [if_neg c1]
        by_cases c2 : tk V l = 2
        · rw [if_pos c2]
          by_cases c3 : m = sgN gs t
          · rw [if_pos c3]
            exact key _ (fun _ _ _ => rfl) (by rw [hmt, mkS, if_neg c1, if_neg (by omega)])
          · rw [if_neg c3]
            exact key _ (fun g _ hg => by rw [upd_eq, if_neg hg]) (by rw [upd_eq, if_pos rfl, mkS, if_neg c1, if_pos ⟨c2, c3⟩]; rfl)
        · rw [if_neg c2]
          exact key _ (fun _ _ _ => rfl) (by rw [hmt, mkS, if_neg c1, if_neg (by omega)])
    by_cases c : gs.getD t 9 = 2
    · rw [if_pos c] at est ⊢
      exact body _ est
    · rw [if_neg c] at est ⊢
      exact body _ est
theorem p_ag127 (hw : WF gs fs os) (hso : ∀ g, g < gs.length → so g = nI (gs.getD g 9)) {ma : Nat → Int32} (hma : ∀ g, g < gs.length → ma g = nI (mkG V (sgN gs g) (m0N gs g) (fOf fs g))) (hV : ∀ g, g < gs.length → V g ≤ 2) :
    ∀ (k n i : Nat) (x : Int32) (va : Nat → Int32), i + k = gs.length → k < n → (∀ g, g < i → va g = nI (agN gs fs V g)) → (∀ g, i ≤ g → g < gs.length → va g = nI (V g)) → ((x = 0 ∧ ∀ g, g < i → agN gs fs V g = V g) ∨ (x = 1 ∧ ∃ g, g < gs.length ∧ agN gs fs V g ≠ V g)) →
      ∃ r, L_Mod_again_127 (nI gs.length) so ma n x (nI i) va = some r ∧ (∀ g, g < gs.length → r.2 g = nI (agN gs fs V g)) ∧ ((r.1 = 0 ∧ ∀ g, g < gs.length → agN gs fs V g = V g) ∨ (r.1 = 1 ∧ ∃ g, g < gs.length ∧ agN gs fs V g ≠ V g)) := by
  have hG := hw.1
  intro k
  induction k with
  | zero =>
    intro n i x va h1 h2 ha hb hx
    obtain ⟨n, rfl⟩ : ∃ z, n = z + 1 := ⟨n - 1, by omega⟩
    rw [L_Mod_again_127, if_pos ((nI_leI (by omega) (by omega)).mpr (by omega))]
    have e : i = gs.length := by omega
    subst e
    exact ⟨_, rfl, ha, hx⟩
  | succ k ih =>
    intro n i x va h1 h2 ha hb hx
    obtain ⟨n, rfl⟩ : ∃ z, n = z + 1 := ⟨n - 1, by omega⟩
    have hi : i < gs.length := by omega
    have h3 := so_le hw hi
    have hvi := hb i (Nat.le_refl _) hi
    have hVi := hV i hi
    have hmi := hma i hi
    have hmle := mkG_le (V := V) (ls := fOf fs i) (sg_le (gs := gs) (g := i)) (m0_le (gs := gs) (g := i))
    have e2 : (nI (gs.getD i 9) < (2 : Int32)) ↔ gs.getD i 9 < 2 := by rw [i2]; exact nI_ltI (by omega) (by omega)
    -- nothing changes here
    have stay : agN gs fs V i = V i → ∃ r, (if x = (0 : Int32) then L_Mod_again_127 (nI gs.length) so ma n (0 : Int32) (nI (i + 1)) (upd va i (nI (V i))) else L_Mod_again_127 (nI gs.length) so ma n (1 : Int32) (nI (i + 1)) (upd va i (nI (V i)))) = some r ∧ (∀ g, g < gs.length → r.2 g = nI (agN gs fs V g)) ∧ ((r.1 = 0 ∧ ∀ g, g < gs.length → agN gs fs V g = V g) ∨ (r.1 = 1 ∧ ∃ g, g < gs.length ∧ agN gs fs V g ≠ V g)) := by
      intro e
      have f1 : ∀ g, g < i + 1 → upd va i (nI (V i)) g = nI (agN gs fs V g) := fun g hg => by
        rw [upd_eq]
        by_cases c : g = i
        · rw [if_pos c, c, e]
        · rw [if_neg c]; exact ha g (by omega)
      have f2 : ∀ g, i + 1 ≤ g → g < gs.length → upd va i (nI (V i)) g = nI (V g) := fun g hg hg2 => by
        rw [upd_eq, if_neg (by omega)]; exact hb g (by omega) hg2
      rcases hx with ⟨hx, hx2⟩ | ⟨hx, hx2⟩
      · rw [if_pos hx]
        refine ih n (i + 1) _ _ (by omega) (by omega) f1 f2 (Or.inl ⟨rfl, fun g hg => ?_⟩)
        by_cases c : g = i
        · rw [c, e]
        · exact hx2 g (by omega)
      · rw [if_neg (by rw [hx]; decide)]
        exact ih n (i + 1) _ _ (by omega) (by omega) f1 f2 (Or.inr ⟨rfl, hx2⟩)
    rw [L_Mod_again_127, if_neg (by rw [nI_leI (by omega) (by omega)]; omega)]
    simp only [sx_let, gd_nI (show i < 60 by omega) (show 60 < 2 ^ 31 by decide), nI_clamp (show i < 2 ^ 31 by omega), hso i hi, hvi, hmi, e2, q2 (show V i < 2 ^ 31 by omega), q2 (show mkG V (sgN gs i) (m0N gs i) (fOf fs i) < 2 ^ 31 by omega), nI_1]
    by_cases c1 : gs.getD i 9 < 2
    · rw [if_pos c1]
      simp only [if_true]
      exact stay (by rw [agN, if_neg (by omega)])
    · rw [if_neg c1]
      by_cases c2 : V i = 2
      · rw [if_pos c2]
        by_cases c3 : mkG V (sgN gs i) (m0N gs i) (fOf fs i) = 2
        · rw [if_pos c3]
          simp only [if_true]
          exact stay (by rw [agN, if_pos ⟨by omega, c2⟩, c3, c2])
        · rw [if_neg c3]
          have hne : agN gs fs V i ≠ V i := by rw [agN, if_pos ⟨by omega, c2⟩, c2]; exact c3
          have f1 : ∀ g, g < i + 1 → upd va i (nI (mkG V (sgN gs i) (m0N gs i) (fOf fs i))) g = nI (agN gs fs V g) := fun g hg => by
            rw [upd_eq]
            by_cases c : g = i
            · rw [if_pos c, c, agN, if_pos ⟨by omega, c2⟩]
            · rw [if_neg c]; exact ha g (by omega)
          have f2 : ∀ g, i + 1 ≤ g → g < gs.length → upd va i (nI (mkG V (sgN gs i) (m0N gs i) (fOf fs i))) g = nI (V g) := fun g hg hg2 => by
            rw [upd_eq, if_neg (by omega)]; exact hb g (by omega) hg2
          have := ih n (i + 1) 1 _ (by omega) (by omega) f1 f2 (Or.inr ⟨rfl, i, hi, hne⟩)
          simp only [if_neg (show ¬ (1 : Int32) = 0 by decide), ite_self]
          exact this
      · rw [if_neg c2]
        simp only [if_true]
        exact stay (by rw [agN, if_neg (by omega)])
/-- a turn of the reference -/
theorem p_again (hw : WF gs fs os) (hso : ∀ g, g < gs.length → so g = nI (gs.getD g 9)) (hfs : ∀ k, k < fs.length → to k = nI (fs.getD k (0, 0)).1 ∧ fr k = nI ((fs.getD k (0, 0)).2 / 2) ∧ ne k = nI ((fs.getD k (0, 0)).2 % 2)) (hv : ∀ g, g < gs.length → v g = nI (V g) ∧ V g ≤ 2) (ma : Nat → Int32) :
    ∃ r, m_Mod_again (nI gs.length) (nI fs.length) so v ma to fr ne = some r ∧ (∀ g, g < gs.length → r.2.1 g = nI (agN gs fs V g)) ∧ ((r.1 = 0 ∧ ∀ g, g < gs.length → agN gs fs V g = V g) ∨ (r.1 = 1 ∧ ∃ g, g < gs.length ∧ agN gs fs V g ≠ V g)) := by
  have hG := hw.1
  have hF : fs.length ≤ 240 := hw.2.2.2.2.1
  obtain ⟨r1, a1, a2, _⟩ := p_ag4 hw hso gs.length fu 0 ma (by omega) (by rw [fu]; omega)
  obtain ⟨r2, b1, b2⟩ := p_ag41 hw hso hfs hv fs.length fu 0 r1 (by omega) (by rw [fu]; omega) (fun g hg => by rw [a2 g (Nat.zero_le _) hg]; rfl)
  obtain ⟨r3, c1, c2, c3⟩ := p_ag127 hw hso b2 (fun g hg => (hv g hg).2) gs.length fu 0 0 v (by omega) (by rw [fu]; omega) (fun g hg => absurd hg (by omega)) (fun g _ hg => (hv g hg).1) (Or.inl ⟨rfl, fun g hg => absurd hg (by omega)⟩)
  have a1' : L_Mod_again_4 (nI gs.length) so fu (0 : Int32) ma = some r1 := a1
  have b1' : L_Mod_again_41 (nI fs.length) so v to fr ne fu (0 : Int32) r1 = some r2 := b1
  have c1' : L_Mod_again_127 (nI gs.length) so r2 fu (0 : Int32) (0 : Int32) v = some r3 := c1
  rw [m_Mod_again, a1', Option.bind_some, b1', Option.bind_some, c1', Option.bind_some]
  refine ⟨(r3.1, r3.2, r2), ?_, c2, c3⟩
  rcases c3 with ⟨z, _⟩ | ⟨z, _⟩
  · rw [z, gd_z0]
  · rw [z, gd_z1]
end REFA
end
section
/-! the reference's work at a pair -/
theorem nar0 : vp_nar .boolean (0 : Int32) = 0 := by decide
theorem nar1 : vp_nar .boolean (1 : Int32) = 1 := by decide
theorem sh_bit {x r : Nat} (hx : x < 256) (hr : r < 8) : (nI x >>> (nI r &&& 31)) &&& (1 : Int32) = nI (if x.testBit r = true then 1 else 0) := by
  have key : ∀ x : Fin 256, ∀ r : Fin 8, (nI x.val >>> (nI r.val &&& 31)) &&& (1 : Int32) = nI (if x.val.testBit r.val = true then 1 else 0) := by decide +kernel
  exact key ⟨x, hx⟩ ⟨r, hr⟩
/-- a bit of a number below 256 is put -/
def stb (x r t : Nat) : Nat := x % 2 ^ r + t * 2 ^ r + x / 2 ^ (r + 1) * 2 ^ (r + 1)
theorem stb_I {x r t : Nat} (hx : x < 256) (hr : r < 8) (ht : t < 2) : (nI x &&& (((1 : Int32) <<< (nI r &&& 31)) ^^^ (-1 : Int32))) ||| (nI t <<< (nI r &&& 31)) = nI (stb x r t) ∧ stb x r t < 256 := by
  have key : ∀ x : Fin 256, ∀ r : Fin 8, ∀ t : Fin 2, (nI x.val &&& (((1 : Int32) <<< (nI r.val &&& 31)) ^^^ (-1 : Int32))) ||| (nI t.val <<< (nI r.val &&& 31)) = nI (stb x.val r.val t.val) ∧ stb x.val r.val t.val < 256 := by decide +kernel
  exact key ⟨x, hx⟩ ⟨r, hr⟩ ⟨t, ht⟩
theorem stb_bit {x r t k : Nat} (hx : x < 256) (hr : r < 8) (ht : t < 2) (hk : k < 8) : (stb x r t).testBit k = if k = r then decide (t = 1) else x.testBit k := by
  have key : ∀ x : Fin 256, ∀ r : Fin 8, ∀ t : Fin 2, ∀ k : Fin 8, (stb x.val r.val t.val).testBit k.val = if k.val = r.val then decide (t.val = 1) else x.val.testBit k.val := by decide +kernel
  exact key ⟨x, hx⟩ ⟨r, hr⟩ ⟨t, ht⟩ ⟨k, hk⟩
theorem shl1_bit {g j : Nat} (hg : g < 60) (hj : j < 64) : bL ((1 : Int64) <<< ((nI g).toInt64 &&& 63)) j = decide (j = g) := by
  have key : ∀ g : Fin 60, ∀ j : Fin 64, bL ((1 : Int64) <<< ((nI g.val).toInt64 &&& 63)) j.val = decide (j.val = g.val) := by decide +kernel
  exact key ⟨g, hg⟩ ⟨j, hj⟩
/-- what the gates begin with -/
def V0N (gs : List Nat) (s c g : Nat) : Nat := if gs.getD g 9 ≤ 1 then (if bvS gs s c g = true then 1 else 0) else 2
section REFW
variable {so nu to fr ne : Nat → Int32} {gs : List Nat} {fs : List (Nat × Nat)} {os : List Nat} {V : Nat → Nat} {v : Nat → Int32}
theorem p_w10 (hw : WF gs fs os) (hso : ∀ g, g < gs.length → so g = nI (gs.getD g 9) ∧ (gs.getD g 9 ≤ 1 → nu g = nI (rk gs g))) {s c : Nat} (hs : s < 256) (hc : c < 256) : ∀ (k n i : Nat) (va : Nat → Int32), i + k = gs.length → k < n → ∃ r, L_Mod_work_10 (nI gs.length) so nu (nI s) (nI c) n (nI i) va = some r ∧ (∀ g, i ≤ g → g < gs.length → r g = nI (V0N gs s c g)) ∧ ∀ g, g < i → r g = va g := by
  have hG := hw.1
  intro k
  induction k with
  | zero =>
    intro n i ma h1 h2
    obtain ⟨n, rfl⟩ : ∃ z, n = z + 1 := ⟨n - 1, by omega⟩
    rw [L_Mod_work_10, if_pos ((nI_leI (by omega) (by omega)).mpr (by omega))]
    exact ⟨_, rfl, fun s a b => absurd b (by omega), fun _ _ => rfl⟩
  | succ k ih =>
    intro n i ma h1 h2
    obtain ⟨n, rfl⟩ : ∃ z, n = z + 1 := ⟨n - 1, by omega⟩
    have hi : i < gs.length := by omega
    have h3 := so_le hw hi
    have hr := rk_lt hi
    obtain ⟨s1, s2⟩ := hso i hi
    have key : ∀ x : Int32, x = nI (V0N gs s c i) → ∃ r, L_Mod_work_10 (nI gs.length) so nu (nI s) (nI c) n (nI (i + 1)) (upd ma i x) = some r ∧ (∀ g, i ≤ g → g < gs.length → r g = nI (V0N gs s c g)) ∧ ∀ g, g < i → r g = ma g := by
      intro x hx
      obtain ⟨r, r1, r2, r3⟩ := ih n (i + 1) (upd ma i x) (by omega) (by omega)
      refine ⟨r, r1, fun s a b => ?_, fun s a => by rw [r3 s (by omega), upd_eq, if_neg (by omega)]⟩
      rcases Nat.lt_or_ge i s with e | e
      · exact r2 s (by omega) b
      · have : s = i := by omega
        subst this
        rw [r3 s (by omega), upd_eq, if_pos rfl, hx]
    rw [L_Mod_work_10, if_neg (by rw [nI_leI (by omega) (by omega)]; omega)]
    simp only [gd_nI (show i < 60 by omega) (show 60 < 2 ^ 31 by decide), nI_clamp (show i < 2 ^ 31 by omega), nI_1, s1, q0 (show gs.getD i 9 < 2 ^ 31 by omega), q1 (show gs.getD i 9 < 2 ^ 31 by omega)]
    by_cases c0 : gs.getD i 9 = 0
    · rw [if_pos c0, s2 (by omega)]
      rw [c0] at hr
      have := hw.2.1
      exact key _ (by rw [sh_bit hc (by omega), V0N, if_pos (show gs.getD i 9 ≤ 1 by omega), bvS, if_pos c0])
    · rw [if_neg c0]
      by_cases c1 : gs.getD i 9 = 1
      · rw [if_pos c1, s2 (by omega)]
        rw [c1] at hr
        have := hw.2.2.1
        exact key _ (by rw [sh_bit hs (by omega), V0N, if_pos (show gs.getD i 9 ≤ 1 by omega), bvS, if_neg c0])
      · rw [if_neg c1]
        exact key _ (by rw [V0N, if_neg (by omega)]; rfl)
theorem SV_0 {s c : Nat} : SV gs fs (bvS gs s c) (V0N gs s c) := by
  intro g hg
  rw [V0N]
  by_cases h : gs.getD g 9 ≤ 1
  · rw [if_pos h]
    have hb := Dv_base (fs := fs) (bv := bvS gs s c) g hg h
    cases e : bvS gs s c g with
    | true =>
      rw [e, if_pos rfl] at hb
      rw [if_pos rfl]
      exact ⟨by decide, fun _ => hb, fun q => absurd q (by decide), fun _ => rfl⟩
    | false =>
      rw [e, if_neg (by decide)] at hb
      rw [if_neg (by decide)]
      exact ⟨by decide, fun q => absurd q (by decide), fun _ => hb, fun _ => rfl⟩
  · rw [if_neg h]
    exact ⟨by decide, fun q => absurd q (by decide), fun q => absurd q (by decide), fun q => absurd q h⟩
theorem p_w85 (hw : WF gs fs os) (hso : ∀ g, g < gs.length → so g = nI (gs.getD g 9)) (hfs : ∀ k, k < fs.length → to k = nI (fs.getD k (0, 0)).1 ∧ fr k = nI ((fs.getD k (0, 0)).2 / 2) ∧ ne k = nI ((fs.getD k (0, 0)).2 % 2)) {bv : Nat → Bool} :
    ∀ (u n : Nat) (V : Nat → Nat) (v ma : Nat → Int32), SV gs fs bv V → (∀ g, g < gs.length → v g = nI (V g)) → unN gs V ≤ u → u + 2 ≤ n → ∃ r V2, L_Mod_work_85 (nI gs.length) (nI fs.length) so to fr ne n (1 : Int32) v ma = some r ∧ (∀ g, g < gs.length → r.1 g = nI (V2 g)) ∧ SV gs fs bv V2 ∧ ∀ g, g < gs.length → agN gs fs V2 g = V2 g := by
  intro u
  induction u with
  | zero =>
    intro n V v ma hS hv hu hn
    obtain ⟨n, rfl⟩ : ∃ z, n = z + 2 := ⟨n - 2, by omega⟩
    obtain ⟨r, r1, r2, r3⟩ := p_again hw hso hfs (fun g hg => ⟨hv g hg, (hS g hg).1⟩) ma
    rw [L_Mod_work_85, if_neg (by decide), r1, Option.bind_some]
    have hf : ∀ g, g < gs.length → agN gs fs V g = V g := Classical.byContradiction fun q => by have := unN_ag q; omega
    have hz : r.1 = 0 := by
      rcases r3 with ⟨z, _⟩ | ⟨_, g, hg, z⟩
      · exact z
      · exact absurd (hf g hg) z
    rw [hz, L_Mod_work_85, if_pos rfl]
    exact ⟨_, V, rfl, fun g hg => by rw [r2 g hg, hf g hg], hS, hf⟩
  | succ u ih =>
    intro n V v ma hS hv hu hn
    obtain ⟨n, rfl⟩ : ∃ z, n = z + 2 := ⟨n - 2, by omega⟩
    obtain ⟨r, r1, r2, r3⟩ := p_again hw hso hfs (fun g hg => ⟨hv g hg, (hS g hg).1⟩) ma
    rw [L_Mod_work_85, if_neg (by decide), r1, Option.bind_some]
    rcases r3 with ⟨z, hf⟩ | ⟨z, g, hg, hne⟩
    · rw [z, L_Mod_work_85, if_pos rfl]
      exact ⟨_, V, rfl, fun g hg => by rw [r2 g hg, hf g hg], hS, hf⟩
    · rw [z]
      have hlt := unN_ag (gs := gs) (fs := fs) (V := V) (fun q => hne (q g hg))
      exact ih (n + 1) (agN gs fs V) r.2.1 r.2.2 (SV_ag hw hS) r2 (by omega) (by omega)
/-- settles and ones of a pair -/
theorem p_w116 (hw : WF gs fs os) (hv : ∀ g, g < gs.length → v g = nI (V g) ∧ V g ≤ 2) {a : Nat} (ha : a < 4096) :
    ∀ (k n i : Nat) (se : Nat → Int32) (on : Nat → Int64), i + k = gs.length → k < n → ((se a = 1 ∧ ∀ g, g < i → V g ≠ 2) ∨ (se a = 0 ∧ ∃ g, g < gs.length ∧ V g = 2)) → (∀ g, g < i → bL (on a) g = decide (V g = 1)) → (∀ g, i ≤ g → g < 64 → bL (on a) g = false) →
      ∃ r, L_Mod_work_116 (nI gs.length) v (nI a) n (nI i) se on = some r ∧ ((r.1 a = 1 ∧ ∀ g, g < gs.length → V g ≠ 2) ∨ (r.1 a = 0 ∧ ∃ g, g < gs.length ∧ V g = 2)) ∧ (∀ g, g < gs.length → bL (r.2 a) g = decide (V g = 1)) ∧ (∀ j, j ≠ a → r.1 j = se j ∧ r.2 j = on j) := by
  have hG := hw.1
  intro k
  induction k with
  | zero =>
    intro n i se on h1 h2 hs ho hz
    obtain ⟨n, rfl⟩ : ∃ z, n = z + 1 := ⟨n - 1, by omega⟩
    rw [L_Mod_work_116, if_pos ((nI_leI (by omega) (by omega)).mpr (by omega))]
    have e : i = gs.length := by omega
    subst e
    exact ⟨_, rfl, hs, ho, fun _ _ => ⟨rfl, rfl⟩⟩
  | succ k ih =>
    intro n i se on h1 h2 hs ho hz
    obtain ⟨n, rfl⟩ : ∃ z, n = z + 1 := ⟨n - 1, by omega⟩
    have hi : i < gs.length := by omega
    obtain ⟨v1, v2⟩ := hv i hi
    have key : ∀ (x : Int32) (y : Int64), ((x = 1 ∧ ∀ g, g < i + 1 → V g ≠ 2) ∨ (x = 0 ∧ ∃ g, g < gs.length ∧ V g = 2)) → (∀ g, g < i + 1 → bL y g = decide (V g = 1)) → (∀ g, i + 1 ≤ g → g < 64 → bL y g = false) →
        ∃ r, L_Mod_work_116 (nI gs.length) v (nI a) n (nI (i + 1)) (upd se a x) (vp_updL on a y) = some r ∧ ((r.1 a = 1 ∧ ∀ g, g < gs.length → V g ≠ 2) ∨ (r.1 a = 0 ∧ ∃ g, g < gs.length ∧ V g = 2)) ∧ (∀ g, g < gs.length → bL (r.2 a) g = decide (V g = 1)) ∧ (∀ j, j ≠ a → r.1 j = se j ∧ r.2 j = on j) := by
      intro x y h3 h4 h5
      obtain ⟨r, r1, r2, r3, r4⟩ := ih n (i + 1) (upd se a x) (vp_updL on a y) (by omega) (by omega) (by rw [upd_eq, if_pos rfl]; exact h3) (by rw [updL_eq, if_pos rfl]; exact h4) (by rw [updL_eq, if_pos rfl]; exact h5)
      refine ⟨r, r1, r2, r3, fun j hj => ?_⟩
      obtain ⟨b1, b2⟩ := r4 j hj
      rw [b1, b2, upd_eq, updL_eq, if_neg hj, if_neg hj]
      exact ⟨rfl, rfl⟩
    have ones1 : V i = 1 → (∀ g, g < i + 1 → bL (on a ||| ((1 : Int64) <<< ((nI i).toInt64 &&& 63))) g = decide (V g = 1)) ∧ (∀ g, i + 1 ≤ g → g < 64 → bL (on a ||| ((1 : Int64) <<< ((nI i).toInt64 &&& 63))) g = false) := by
      intro h
      refine ⟨fun g hg => ?_, fun g hg hg2 => ?_⟩
      · rw [bL_or, shl1_bit (by omega) (by omega)]
        by_cases c : g = i
        · rw [c, h, hz i (Nat.le_refl _) (by omega)]; simp
        · rw [ho g (by omega), decide_eq_false c, Bool.or_false]
      · rw [bL_or, shl1_bit (by omega) (by omega), hz g (by omega) hg2, decide_eq_false (by omega)]; rfl
    have ones0 : V i ≠ 1 → (∀ g, g < i + 1 → bL (on a) g = decide (V g = 1)) ∧ (∀ g, i + 1 ≤ g → g < 64 → bL (on a) g = false) := by
      intro h
      refine ⟨fun g hg => ?_, fun g hg hg2 => hz g (by omega) hg2⟩
      by_cases c : g = i
      · rw [c, hz i (Nat.le_refl _) (by omega), decide_eq_false h]
      · exact ho g (by omega)
    have fin : ∀ x : Int32, ((x = 1 ∧ ∀ g, g < i + 1 → V g ≠ 2) ∨ (x = 0 ∧ ∃ g, g < gs.length ∧ V g = 2)) → ∃ r, (if V i = 1 then L_Mod_work_116 (nI gs.length) v (nI a) n (nI (i + 1)) (upd se a x) (vp_updL on a (on a ||| ((1 : Int64) <<< ((nI i).toInt64 &&& 63)))) else L_Mod_work_116 (nI gs.length) v (nI a) n (nI (i + 1)) (upd se a x) (vp_updL on a (on a))) = some r ∧ ((r.1 a = 1 ∧ ∀ g, g < gs.length → V g ≠ 2) ∨ (r.1 a = 0 ∧ ∃ g, g < gs.length ∧ V g = 2)) ∧ (∀ g, g < gs.length → bL (r.2 a) g = decide (V g = 1)) ∧ (∀ j, j ≠ a → r.1 j = se j ∧ r.2 j = on j) := by
      intro x hx
      by_cases c : V i = 1
      · rw [if_pos c]; exact key _ _ hx (ones1 c).1 (ones1 c).2
      · rw [if_neg c]; exact key _ _ hx (ones0 c).1 (ones0 c).2
    rw [L_Mod_work_116, if_neg (by rw [nI_leI (by omega) (by omega)]; omega)]
    simp only [sx_let, gd_nI ha (show 4096 < 2 ^ 31 by decide), gd_nI (show i < 60 by omega) (show 60 < 2 ^ 31 by decide), nI_clamp (show i < 2 ^ 31 by omega), nI_clamp (show a < 2 ^ 31 by omega), v1, q1 (show V i < 2 ^ 31 by omega), q2 (show V i < 2 ^ 31 by omega), nI_1, nar0, nar1]
    rcases hs with ⟨e, hs⟩ | ⟨e, hs⟩
    · rw [if_neg (by rw [e]; decide)]
      by_cases c : V i = 2
      · rw [if_pos c]
        exact fin 0 (Or.inr ⟨rfl, i, hi, c⟩)
      · rw [if_neg c]
        refine fin 1 (Or.inl ⟨rfl, fun g hg => ?_⟩)
        by_cases z : g = i
        · rw [z]; exact c
        · exact hs g (by omega)
    · rw [if_pos e]
      exact fin 0 (Or.inr ⟨rfl, hs⟩)
end REFW
end
section
/-! the reference's work, whole -/
def nbN (V : Nat → Nat) (s : Nat) (ls : List Nat) (k : Nat) : Bool := match ls.getLast? with
  | none => s.testBit k
  | some l => decide (tk V l = 1)
theorem i16m {s c : Nat} : ((16 : Int32) * nI s) + nI c = nI (16 * s + c) := by rw [i16, pk_mul, nI_add]
section REFN
variable {so nu to fr ne : Nat → Int32} {gs : List Nat} {fs : List (Nat × Nat)} {os : List Nat} {V : Nat → Nat} {v : Nat → Int32}
theorem p_w209 (hw : WF gs fs os) (hso : ∀ g, g < gs.length → so g = nI (gs.getD g 9) ∧ (gs.getD g 9 ≤ 1 → nu g = nI (rk gs g))) (hfs : ∀ k, k < fs.length → to k = nI (fs.getD k (0, 0)).1 ∧ fr k = nI ((fs.getD k (0, 0)).2 / 2) ∧ ne k = nI ((fs.getD k (0, 0)).2 % 2))
    (hv : ∀ g, g < gs.length → v g = nI (V g) ∧ V g ≤ 2) (hset : ∀ g, g < gs.length → V g ≠ 2) {a s : Nat} (ha : a < 4096) {se : Nat → Int32} (hse : se a = 1) :
    ∀ (k n i : Nat) (nx : Nat → Int32), i + k = fs.length → k < n → (∃ x, nx a = nI x ∧ x < 2 ^ gs.count 1 ∧ ∀ j, j < gs.count 1 → x.testBit j = nbN V s (fOf (fs.take i) (gk gs j)) j) →
      ∃ r, L_Mod_work_209 (nI fs.length) so nu v to fr ne se (nI a) n (nI i) nx = some r ∧ (∃ x, r a = nI x ∧ x < 2 ^ gs.count 1 ∧ ∀ j, j < gs.count 1 → x.testBit j = nbN V s (fOf fs (gk gs j)) j) ∧ ∀ j, j ≠ a → r j = nx j := by
  have hG := hw.1
  have hK := hw.2.2.1
  have hF : fs.length ≤ 240 := hw.2.2.2.2.1
  have hp := pow8 hK
  intro k
  induction k with
  | zero =>
    intro n i nx h1 h2 hx
    obtain ⟨n, rfl⟩ : ∃ z, n = z + 1 := ⟨n - 1, by omega⟩
    rw [L_Mod_work_209, if_pos ((nI_leI (by omega) (by omega)).mpr (by omega))]
    rw [List.take_of_length_le (by omega)] at hx
    exact ⟨_, rfl, hx, fun _ _ => rfl⟩
  | succ k ih =>
    intro n i nx h1 h2 hx
    obtain ⟨n, rfl⟩ : ∃ z, n = z + 1 := ⟨n - 1, by omega⟩
    obtain ⟨f1, f2, f3⟩ := hfs i (by omega)
    have eg : fs.getD i (0, 0) = fs[i]'(by omega) := by rw [List.getD_eq_getElem?_getD, List.getElem?_eq_getElem (by omega)]; rfl
    have hmem : fs.getD i (0, 0) ∈ fs := by rw [eg]; exact List.getElem_mem _
    have ht : fs.take (i + 1) = fs.take i ++ [fs.getD i (0, 0)] := by rw [eg, List.take_succ_eq_append_getElem (by omega)]
    generalize fs.getD i (0, 0) = f at *
    obtain ⟨t, l⟩ := f
    obtain ⟨w1, w2, _⟩ := hw.2.2.2.2.2.1 _ hmem
    dsimp only at *
    have h3 := so_le hw w1
    have htk : tk V l < 2 := by
      have a1 := hset (l / 2) (by omega)
      have a2 := (hv (l / 2) (by omega)).2
      rw [tk]; split <;> omega
    obtain ⟨s1, s2⟩ := hso t w1
    obtain ⟨x, x1, x2, x3⟩ := hx
    rw [L_Mod_work_209, if_neg (by rw [nI_leI (by omega) (by omega)]; omega)]
    simp only [gd_nI ha (show 4096 < 2 ^ 31 by decide), gd_nI (show i < 240 by omega) (show 240 < 2 ^ 31 by decide), nI_clamp (show a < 2 ^ 31 by omega), nI_clamp (show i < 2 ^ 31 by omega), f1, gd_nI (show t < 60 by omega) (show 60 < 2 ^ 31 by decide), nI_clamp (show t < 2 ^ 31 by omega), s1, hse, q1 (show gs.getD t 9 < 2 ^ 31 by omega), p_taken hG hv (show i < 240 by omega) w2 f2 f3, Option.bind_some, nI_1, if_neg (show ¬ (1 : Int32) = 0 by decide)]
    by_cases c : gs.getD t 9 = 1
    · have hr := rk_lt w1
      rw [c] at hr
      have hr8 : rk gs t < 8 := by omega
      rw [if_pos c, s2 (by omega), x1, (stb_I (by omega) hr8 htk).1]
      have hb := (stb_I (x := x) (by omega) hr8 htk).2
      have hx2 : ∃ y, upd nx a (nI (stb x (rk gs t) (tk V l))) a = nI y ∧ y < 2 ^ gs.count 1 ∧ ∀ j, j < gs.count 1 → y.testBit j = nbN V s (fOf (fs.take (i + 1)) (gk gs j)) j := by
        refine ⟨stb x (rk gs t) (tk V l), by rw [upd_eq, if_pos rfl], ?_, fun j hj => ?_⟩
        · refine Nat.lt_pow_two_of_testBit _ (fun j hj => ?_)
          by_cases c8 : j < 8
          · rw [stb_bit (by omega) hr8 htk c8, if_neg (by omega)]
            exact Nat.testBit_lt_two_pow (Nat.lt_of_lt_of_le x2 (Nat.pow_le_pow_right (by decide) hj))
          · refine Nat.testBit_lt_two_pow (Nat.lt_of_lt_of_le hb ?_)
            have : 2 ^ 8 ≤ 2 ^ j := Nat.pow_le_pow_right (by decide) (by omega)
            omega
        · rw [stb_bit (by omega) hr8 htk (by omega), ht, fOf_app]
          by_cases z : j = rk gs t
          · rw [if_pos z, z, if_pos (gk_rk w1 c).symm, nbN, List.getLast?_concat]
          · have : ¬ t = gk gs j := fun q => z (by rw [q]; exact (gk_of hj).2.2.symm)
            rw [if_neg z, if_neg this]
            exact x3 j hj
      obtain ⟨r, r1, r2, r3⟩ := ih n (i + 1) (upd nx a (nI (stb x (rk gs t) (tk V l)))) (by omega) (by omega) hx2
      refine ⟨r, r1, r2, fun j hj => ?_⟩
      rw [r3 j hj, upd_eq, if_neg hj]
    · rw [if_neg c]
      refine ih n (i + 1) nx (by omega) (by omega) ⟨x, x1, x2, fun j hj => ?_⟩
      have : ¬ t = gk gs j := fun q => c (by rw [q]; exact (gk_of hj).2.1)
      rw [ht, fOf_app, if_neg this]
      exact x3 j hj
theorem eq_bits {x y K : Nat} (hx : x < 2 ^ K) (hy : y < 2 ^ K) (h : ∀ j, j < K → x.testBit j = y.testBit j) : x = y := by
  apply Nat.eq_of_testBit_eq
  intro j
  rcases Nat.lt_or_ge j K with c | c
  · exact h j c
  · rw [Nat.testBit_lt_two_pow (Nat.lt_of_lt_of_le hx (Nat.pow_le_pow_right (by decide) c)), Nat.testBit_lt_two_pow (Nat.lt_of_lt_of_le hy (Nat.pow_le_pow_right (by decide) c))]
theorem unN_le {V : Nat → Nat} : unN gs V ≤ gs.length := by
  have := List.countP_le_length (p := fun g => decide (V g = 2)) (l := List.range' 0 gs.length)
  rw [List.length_range'] at this
  exact this
theorem p_work {ga fe inp la ou : Int32} {oo : Nat → Int32} (hw : WF gs fs os) (hR : RM ga fe inp la ou so nu to fr oo ne gs fs os) {s c : Nat} (hs : s < 2 ^ gs.count 1) (hc : c < 16) (v ma se nx : Nat → Int32) (on : Nat → Int64) :
    ∃ r, m_Mod_work ga fe so nu v ma to fr ne se nx on (nI s) (nI c) = some r ∧ r.2.2.1 (16 * s + c) = (if stN gs fs s c = true then 1 else 0) ∧ (∀ t, nxA gs fs (nvF gs fs) s c = some t → r.2.2.2.1 (16 * s + c) = nI t) ∧
      (∀ g, g < gs.length → bL (r.2.2.2.2 (16 * s + c)) g = vaN gs fs g s c) ∧ ∀ j, j ≠ 16 * s + c → r.2.2.1 j = se j ∧ r.2.2.2.1 j = nx j ∧ r.2.2.2.2 j = on j := by
  have hG := hw.1
  have hK := hw.2.2.1
  have hF : fs.length ≤ 240 := hw.2.2.2.2.1
  have hp := pow8 hK
  obtain ⟨rfl, rfl, rfl, rfl, rfl, hso, hfs, -⟩ := hR
  have hs256 : s < 256 := by omega
  have ha : 16 * s + c < 4096 := by omega
  obtain ⟨v1, a1, a2, -⟩ := p_w10 hw hso hs256 (show c < 256 by omega) gs.length fu 0 v (by omega) (by rw [fu]; omega)
  obtain ⟨v2, V, b1, b2, b3, b4⟩ := p_w85 hw (fun g hg => (hso g hg).1) hfs gs.length fu (V0N gs s c) v1 ma SV_0 (fun g hg => a2 g (Nat.zero_le _) hg) unN_le (by rw [fu]; omega)
  have hv : ∀ g, g < gs.length → v2.1 g = nI (V g) ∧ V g ≤ 2 := fun g hg => ⟨b2 g hg, (b3 g hg).1⟩
  have is := fun g (hg : g < gs.length) => SV_is hw b3 b4 hg
  obtain ⟨v3, c1, c2, c3, c4⟩ := p_w116 hw hv ha gs.length fu 0 (upd se (16 * s + c) 1) (vp_updL on (16 * s + c) 0) (by omega) (by rw [fu]; omega) (Or.inl ⟨by rw [upd_eq, if_pos rfl], fun g hg => absurd hg (by omega)⟩) (fun g hg => absurd hg (by omega)) (fun g _ _ => by rw [updL_eq, if_pos rfl, bL_0])
  have a1' : L_Mod_work_10 (nI gs.length) so nu (nI s) (nI c) fu (0 : Int32) v = some v1 := a1
  have c1' : L_Mod_work_116 (nI gs.length) v2.1 (nI (16 * s + c)) fu (0 : Int32) (upd se (16 * s + c) 1) (vp_updL on (16 * s + c) 0) = some v3 := c1
  have hst : v3.1 (16 * s + c) = (if stN gs fs s c = true then 1 else 0) := by
    rcases c2 with ⟨z, h⟩ | ⟨z, g, hg, h⟩
    · rw [z, if_pos]
      rw [stN_iff hw hs256 hc]
      intro g hg
      have := h g hg
      exact Classical.byContradiction fun q => this ((is g hg).2.2.mpr q)
    · rw [z, if_neg]
      rw [stN_iff hw hs256 hc]
      intro q
      exact (is g hg).2.2.mp h (q g hg)
  have hon : ∀ g, g < gs.length → bL (v3.2 (16 * s + c)) g = vaN gs fs g s c := by
    intro g hg
    rw [c3 g hg]
    apply Bool.eq_iff_iff.mpr
    rw [vaN_iff hw hs256 hc, decide_eq_true_eq]
    exact (is g hg).1
  rw [m_Mod_work, a1', Option.bind_some, b1, Option.bind_some]
  simp only [i16m, gd_nI ha (show 4096 < 2 ^ 31 by decide), nI_clamp (show 16 * s + c < 2 ^ 31 by omega), nar1]
  rw [c1', Option.bind_some]
  cases e : stN gs fs s c with
  | false =>
    rw [e] at hst
    have hst0 : v3.1 (16 * s + c) = 0 := hst
    have z : L_Mod_work_209 (nI fs.length) so nu v2.1 to fr ne v3.1 (nI (16 * s + c)) fu (0 : Int32) (upd nx (16 * s + c) (nI s)) = some (upd nx (16 * s + c) (nI s)) := by
      rw [show fu = (fu - 1) + 1 by rw [fu], L_Mod_work_209, nI_clamp (by omega), hst0, gd_nI ha (by decide), if_pos rfl]
      split <;> rfl
    rw [z, Option.bind_some]
    refine ⟨_, rfl, by rw [hst], fun t ht => ?_, hon, fun j hj => ?_⟩
    · rw [nxA_none.mpr e] at ht; cases ht
    · obtain ⟨d1, d2⟩ := c4 j hj
      dsimp only
      rw [d1, d2, upd_eq, upd_eq, updL_eq, if_neg hj, if_neg hj, if_neg hj]
      exact ⟨rfl, rfl, rfl⟩
  | true =>
    rw [e] at hst
    have hst1 : v3.1 (16 * s + c) = 1 := hst
    have hset : ∀ g, g < gs.length → V g ≠ 2 := fun g hg q => (is g hg).2.2.mp q ((stN_iff hw hs256 hc).mp e g hg)
    obtain ⟨r, d1, ⟨x, d2, d3, d4⟩, d5⟩ := p_w209 (s := s) hw hso hfs hv hset ha hst1 fs.length fu 0 (upd nx (16 * s + c) (nI s)) (by omega) (by rw [fu]; omega) ⟨s, by rw [upd_eq, if_pos rfl], hs, fun j _ => rfl⟩
    have d1' : L_Mod_work_209 (nI fs.length) so nu v2.1 to fr ne v3.1 (nI (16 * s + c)) fu (0 : Int32) (upd nx (16 * s + c) (nI s)) = some r := d1
    rw [d1', Option.bind_some]
    refine ⟨_, rfl, by rw [hst], fun t ht => ?_, hon, fun j hj => ?_⟩
    · dsimp only
      rw [d2]
      congr 1
      refine eq_bits d3 (nxA_lt ht) (fun j hj => ?_)
      apply Bool.eq_iff_iff.mpr
      rw [nxA_bit hw hs256 hc ht hj, d4 j hj, nvF]
      obtain ⟨g1, g2, g3⟩ := gk_of hj
      have hlen : (fOf fs (gk gs j)).length ≤ 1 := by
        cases q : fOf fs (gk gs j) with
        | nil => simp
        | cons l ls =>
          have := (hw.2.2.2.2.2.1 _ (fOf_mem (show l ∈ fOf fs (gk gs j) by rw [q]; exact List.mem_cons_self))).2.2.2 g2
          rw [q] at this; exact this
      have tkD : ∀ l, l < 2 * gs.length → (tk V l = 1 ↔ Dv gs fs (bvS gs s c) l) := fun l hl => ⟨(tk_Dv b3 hl).2.1, fun q => SV_fix hw b3 b4 q⟩
      cases q : fOf fs (gk gs j) with
      | nil =>
        rw [nbN]
        dsimp only [List.getLast?_nil]
        rw [List.getD_nil, ← (is _ g1).1, (b3 _ g1).2.2.2 (by omega), bvS, if_neg (show ¬ gs.getD (gk gs j) 9 = 0 by omega), g3]
        cases s.testBit j <;> simp
      | cons l ls =>
        rw [q] at hlen
        have hnil : ls = [] := by
          cases ls with
          | nil => rfl
          | cons _ _ => simp at hlen
        subst hnil
        rw [nbN]
        dsimp only [List.getLast?_singleton]
        rw [decide_eq_true_eq, List.getD_cons_zero]
        exact tkD l (fOf_lt hw (show l ∈ fOf fs (gk gs j) by rw [q]; exact List.mem_cons_self))
    · obtain ⟨k1, k2⟩ := c4 j hj
      dsimp only
      rw [k1, k2, d5 j hj, upd_eq, upd_eq, updL_eq, if_neg hj, if_neg hj, if_neg hj]
      exact ⟨rfl, rfl, rfl⟩
end REFN
end
section
/-! the walk's distances are the least -/
def Pth (nx : Nat → Nat → Option Nat) (C : Nat) : Nat → Nat → Prop
  | 0, s => s = 0
  | n + 1, s => ∃ q, Pth nx C n q ∧ ∃ c, c < C ∧ nx q c = some s
section WDS
variable {nx : Nat → Nat → Option Nat} {C : Nat}
def QB (nx : Nat → Nat → Option Nat) (C s : Nat) (A : WA) : Prop :=
  (∀ x, x ∈ A.1 → Pth nx C (A.2.1 x) x) ∧ A.1.Pairwise (fun a b => A.2.1 a ≤ A.2.1 b) ∧ (∀ x, x ∈ A.1 → A.2.1 x ≤ A.2.1 s + 1) ∧ s ∈ A.1
theorem QB_step {s c : Nat} {A : WA} (hc : c < C) (h : QB nx C s A) : QB nx C s (stepA nx s A c) ∧ (∀ x, x ∈ A.1 → x ∈ (stepA nx s A c).1 ∧ (stepA nx s A c).2.1 x = A.2.1 x) ∧ ∀ t, nx s c = some t → t ∈ (stepA nx s A c).1 ∧ (stepA nx s A c).2.1 t ≤ (stepA nx s A c).2.1 s + 1 := by
  obtain ⟨h1, h2, h3, h4⟩ := h
  cases e : nx s c with
  | none =>
    rw [stepA, e]
    exact ⟨⟨h1, h2, h3, h4⟩, fun x hx => ⟨hx, rfl⟩, fun t ht => by cases ht⟩
  | some t =>
    rw [stepA, e]
    dsimp only
    by_cases c1 : t ∈ A.1
    · rw [if_pos c1]
      exact ⟨⟨h1, h2, h3, h4⟩, fun x hx => ⟨hx, rfl⟩, fun t' ht => by cases ht; exact ⟨c1, h3 t c1⟩⟩
    · rw [if_neg c1]
      have hold : ∀ x, x ∈ A.1 → upN A.2.1 t (A.2.1 s + 1) x = A.2.1 x := fun x hx => by
        rw [upN, if_neg (fun z => c1 (by rw [← z]; exact hx))]
      have hnew : upN A.2.1 t (A.2.1 s + 1) t = A.2.1 s + 1 := by rw [upN, if_pos rfl]
      refine ⟨⟨fun x hx => ?_, ?_, fun x hx => ?_, List.mem_append_left _ h4⟩, fun x hx => ⟨List.mem_append_left _ hx, hold x hx⟩, fun t' ht => ?_⟩
      · dsimp only at hx ⊢
        rcases List.mem_append.mp hx with z | z
        · rw [hold x z]; exact h1 x z
        · rw [List.mem_singleton.mp z, hnew]
          exact ⟨s, h1 s h4, c, hc, e⟩
      · dsimp only
        rw [List.pairwise_append]
        refine ⟨List.Pairwise.imp_of_mem (fun {a b} ha hb hab => by rw [hold a ha, hold b hb]; exact hab) h2, List.pairwise_singleton _ _, fun a ha b hb => ?_⟩
        rw [List.mem_singleton.mp hb, hnew, hold a ha]
        exact h3 a ha
      · dsimp only at hx ⊢
        rw [hold s h4]
        rcases List.mem_append.mp hx with z | z
        · rw [hold x z]; exact h3 x z
        · rw [List.mem_singleton.mp z, hnew]; exact Nat.le_refl _
      · cases ht
        dsimp only
        rw [hnew, hold s h4]
        exact ⟨List.mem_append_right _ (List.mem_singleton_self _), Nat.le_refl _⟩
theorem QB_fold {s : Nat} : ∀ {l : List Nat} {A : WA}, (∀ c, c ∈ l → c < C) → QB nx C s A → QB nx C s (l.foldl (stepA nx s) A) ∧ (∀ x, x ∈ A.1 → x ∈ (l.foldl (stepA nx s) A).1 ∧ (l.foldl (stepA nx s) A).2.1 x = A.2.1 x) ∧ ∀ c, c ∈ l → ∀ t, nx s c = some t → t ∈ (l.foldl (stepA nx s) A).1 ∧ (l.foldl (stepA nx s) A).2.1 t ≤ (l.foldl (stepA nx s) A).2.1 s + 1
  | [], A, _, h => ⟨h, fun x hx => ⟨hx, rfl⟩, fun c hc => absurd hc (by simp)⟩
  | d :: l, A, hl, h => by
    obtain ⟨a1, a2, a3⟩ := QB_step (hl d List.mem_cons_self) h
    obtain ⟨b1, b2, b3⟩ := QB_fold (l := l) (fun c hc => hl c (List.mem_cons_of_mem _ hc)) a1
    rw [List.foldl_cons]
    refine ⟨b1, fun x hx => ?_, fun c hc t ht => ?_⟩
    · obtain ⟨c1, c2⟩ := a2 x hx
      obtain ⟨d1, d2⟩ := b2 x c1
      exact ⟨d1, d2.trans c2⟩
    · rcases List.mem_cons.mp hc with z | z
      · rw [z] at ht
        obtain ⟨c1, c2⟩ := a3 t ht
        obtain ⟨d1, d2⟩ := b2 t c1
        rw [d2, (b2 s a1.2.2.2).2]
        exact ⟨d1, c2⟩
      · exact b3 c z t ht
def QA (nx : Nat → Nat → Option Nat) (C i : Nat) (A : WA) : Prop :=
  (∀ x, x ∈ A.1 → Pth nx C (A.2.1 x) x) ∧ A.1.Pairwise (fun a b => A.2.1 a ≤ A.2.1 b) ∧ (i < A.1.length → ∀ x, x ∈ A.1 → A.2.1 x ≤ A.2.1 (A.1.getD i 0) + 1) ∧ (∀ x, x ∈ A.1.take i → ∀ c, c < C → ∀ t, nx x c = some t → t ∈ A.1 ∧ A.2.1 t ≤ A.2.1 x + 1)
theorem getD_at {l : List Nat} {i : Nat} (h : i < l.length) : l.getD i 0 = l[i]'h := by rw [List.getD_eq_getElem?_getD, List.getElem?_eq_getElem h]; rfl
theorem walk_QA {S : Nat} (hS : S ≤ 256) (hn : ∀ s, s < S → ∀ c, c < C → ∀ t, nx s c = some t → t < S) : ∀ (k i : Nat) (A : WA), i + k = 256 → IA S A → QA nx C i A → QA nx C 256 (walkA nx C k i A) ∧ (walkA nx C k i A).1.length ≤ 256
  | 0, i, A, h1, hI, hq => by
    have hlen := nodup_le hI.1 (fun q hq => (hI.2.1 q hq).1)
    rw [walkA]
    have : i = 256 := by omega
    rw [← this]
    exact ⟨hq, by omega⟩
  | k + 1, i, A, h1, hI, hq => by
    have hlen := nodup_le hI.1 (fun q hq => (hI.2.1 q hq).1)
    rw [walkA]
    by_cases c : A.1.length ≤ i
    · rw [if_pos c]
      obtain ⟨a1, a2, a3, a4⟩ := hq
      rw [List.take_of_length_le c] at a4
      refine ⟨⟨a1, a2, fun z => absurd z (by omega), ?_⟩, by omega⟩
      rw [List.take_of_length_le (by omega)]
      exact a4
    · rw [if_neg c]
      have hil : i < A.1.length := by omega
      have eg := getD_at hil
      have hm : A.1.getD i 0 ∈ A.1 := by rw [eg]; exact List.getElem_mem _
      have hmS := (hI.2.1 _ hm).1
      obtain ⟨u, hu⟩ := leave_pre (nx := nx) (C := C) (s := A.1.getD i 0) A
      have hI2 : IA S (leaveA nx C A (A.1.getD i 0)) := IA_fold hI hm (fun d hd => hn _ hmS d (by have := List.mem_range'_1.mp hd; omega))
      refine walk_QA hS hn k (i + 1) _ (by omega) hI2 ?_
      obtain ⟨a1, a2, a3, a4⟩ := hq
      obtain ⟨⟨b1, b2, b3, b4⟩, b5, b6⟩ := QB_fold (nx := nx) (C := C) (s := A.1.getD i 0) (l := List.range' 0 C) (A := A) (fun d hd => by have := List.mem_range'_1.mp hd; omega) ⟨a1, a2, a3 hil, hm⟩
      have eL : (List.range' 0 C).foldl (stepA nx (A.1.getD i 0)) A = leaveA nx C A (A.1.getD i 0) := rfl
      rw [eL] at b1 b2 b3 b4 b5 b6
      have ht : (leaveA nx C A (A.1.getD i 0)).1.take (i + 1) = A.1.take i ++ [A.1.getD i 0] := by
        rw [hu, List.take_append_of_le_length (by omega), eg, List.take_succ_eq_append_getElem (by omega)]
      refine ⟨b1, b2, fun z x hx => ?_, ?_⟩
      · have hp := (List.pairwise_iff_getElem.mp b2) i (i + 1) (by omega) z (by omega)
        rw [getD_at z]
        have e2 : (leaveA nx C A (A.1.getD i 0)).1[i]'(by omega) = A.1.getD i 0 := by
          rw [← getD_at (show i < (leaveA nx C A (A.1.getD i 0)).1.length by omega), hu]
          simp [List.getD_eq_getElem?_getD, List.getElem?_append_left hil]
        rw [e2] at hp
        have := b3 x hx
        omega
      · rw [ht]
        intro x hx d hd t e
        rcases List.mem_append.mp hx with z | z
        · have hxA : x ∈ A.1 := List.mem_of_mem_take z
          obtain ⟨c1, c2⟩ := a4 x z d hd t e
          obtain ⟨d1, d2⟩ := b5 t c1
          rw [d2, (b5 x hxA).2]
          exact ⟨d1, c2⟩
        · rw [List.mem_singleton.mp z] at e ⊢
          exact b6 d (List.mem_range'_1.mpr ⟨Nat.zero_le _, by omega⟩) t e
theorem QA_beg : QA nx C 0 begA := by
  refine ⟨fun x hx => ?_, ?_, fun _ x hx => ?_, fun x hx => absurd hx (by simp)⟩
  · have : x = 0 := by simpa [begA] using hx
    subst this; rfl
  · simp [begA]
  · have : x = 0 := by simpa [begA] using hx
    subst this
    simp [begA]
/-- all that is reached, and how soon -/
theorem walk_least {S : Nat} (hS : S ≤ 256) (h1 : 1 ≤ S) (hn : ∀ s, s < S → ∀ c, c < C → ∀ t, nx s c = some t → t < S) : (∀ x, x ∈ (walkA nx C 256 0 begA).1 → Pth nx C ((walkA nx C 256 0 begA).2.1 x) x) ∧ (walkA nx C 256 0 begA).1.Pairwise (fun a b => (walkA nx C 256 0 begA).2.1 a ≤ (walkA nx C 256 0 begA).2.1 b) ∧
    ∀ m x, Pth nx C m x → x ∈ (walkA nx C 256 0 begA).1 ∧ (walkA nx C 256 0 begA).2.1 x ≤ m := by
  obtain ⟨⟨a1, a2, _, a4⟩, hl⟩ := walk_QA (nx := nx) (C := C) hS hn 256 0 begA (by omega) (IA_beg h1) QA_beg
  rw [List.take_of_length_le hl] at a4
  refine ⟨a1, a2, ?_⟩
  have h0 : (walkA nx C 256 0 begA).2.1 0 = 0 := by
    have key : ∀ (k i : Nat) (A : WA), 0 ∈ A.1 → A.2.1 0 = 0 → (walkA nx C k i A).2.1 0 = 0 := by
      have kf : ∀ (l : List Nat) (s : Nat) (A : WA), 0 ∈ A.1 → A.2.1 0 = 0 → 0 ∈ (l.foldl (stepA nx s) A).1 ∧ (l.foldl (stepA nx s) A).2.1 0 = 0 := by
        intro l s
        induction l with
        | nil => intro A h1 h2; exact ⟨h1, h2⟩
        | cons d l ih =>
          intro A h1 h2
          rw [List.foldl_cons]
          apply ih
          · rw [stepA]
            split
            · exact h1
            · split
              · exact h1
              · exact List.mem_append_left _ h1
          · rw [stepA]
            split
            · exact h2
            · split
              · exact h2
              · rename_i t _ ht
                dsimp only
                rw [upN, if_neg (fun z => ht (by rw [← z]; exact h1))]
                exact h2
      intro k
      induction k with
      | zero => intro i A h1 h2; exact h2
      | succ k ih =>
        intro i A h1 h2
        rw [walkA]
        split
        · exact h2
        · obtain ⟨x1, x2⟩ := kf (List.range' 0 C) (A.1.getD i 0) A h1 h2
          exact ih (i + 1) _ x1 x2
    exact key 256 0 begA (by simp [begA]) rfl
  intro m
  induction m with
  | zero =>
    intro x hx
    have : x = 0 := hx
    subst this
    exact ⟨walk_0, by omega⟩
  | succ m ih =>
    intro x ⟨q, hq, c, hc, e⟩
    obtain ⟨b1, b2⟩ := ih q hq
    obtain ⟨c1, c2⟩ := a4 q b1 c hc x e
    exact ⟨c1, by omega⟩
end WDS
end
section
/-! the reference's table and its levels -/
theorem p_mstates {K : Nat} (h : K ≤ 8) : m_Mod_states (nI K) = some (nI (2 ^ K)) := by
  have key : ∀ k : Fin 9, (1 : Int32) <<< (nI k.val &&& 31) = nI (2 ^ k.val) := by decide +kernel
  rw [m_Mod_states, key ⟨K, by omega⟩]
theorem p_mchoices {I : Nat} (h : I ≤ 8) : m_Mod_choices (nI I) = some (nI (2 ^ I)) := by
  have key : ∀ k : Fin 9, (1 : Int32) <<< (nI k.val &&& 31) = nI (2 ^ k.val) := by decide +kernel
  rw [m_Mod_choices, key ⟨I, by omega⟩]
def TMa (gs : List Nat) (fs : List (Nat × Nat)) (se nx : Nat → Int32) (on : Nat → Int64) (s c : Nat) : Prop :=
  se (16 * s + c) = (if stN gs fs s c = true then 1 else 0) ∧ (∀ t, nxA gs fs (nvF gs fs) s c = some t → nx (16 * s + c) = nI t) ∧ ∀ g, g < gs.length → bL (on (16 * s + c)) g = vaN gs fs g s c
section REFE
variable {ga fe inp la ou : Int32} {so nu to fr oo ne : Nat → Int32} {gs : List Nat} {fs : List (Nat × Nat)} {os : List Nat}
theorem p_e32 (hw : WF gs fs os) (hR : RM ga fe inp la ou so nu to fr oo ne gs fs os) {s : Nat} (hs : s < 2 ^ gs.count 1) :
    ∀ (k n c : Nat) (v ma se nx : Nat → Int32) (on : Nat → Int64), c + k = 2 ^ gs.count 0 → k < n → (∀ d, d < c → TMa gs fs se nx on s d) →
      ∃ r, L_Mod_explore_32 ga fe inp so nu to fr ne (nI s) n (nI c) v ma se nx on = some r ∧ (∀ d, d < 2 ^ gs.count 0 → TMa gs fs r.2.2.1 r.2.2.2.1 r.2.2.2.2 s d) ∧ ∀ j, j / 16 ≠ s → r.2.2.1 j = se j ∧ r.2.2.2.1 j = nx j ∧ r.2.2.2.2 j = on j := by
  have hI := hw.2.1
  have hp := pow4 hI
  have hin : inp = nI (gs.count 0) := hR.2.2.1
  intro k
  induction k with
  | zero =>
    intro n c v ma se nx on h1 h2 hd
    obtain ⟨n, rfl⟩ : ∃ z, n = z + 1 := ⟨n - 1, by omega⟩
    rw [L_Mod_explore_32, hin, p_mchoices (by omega), Option.bind_some, if_pos ((nI_leI (by omega) (by omega)).mpr (by omega))]
    exact ⟨_, rfl, fun d hd2 => hd d (by omega), fun _ _ => ⟨rfl, rfl, rfl⟩⟩
  | succ k ih =>
    intro n c v ma se nx on h1 h2 hd
    obtain ⟨n, rfl⟩ : ∃ z, n = z + 1 := ⟨n - 1, by omega⟩
    obtain ⟨r, r1, r2, r3, r4, r5⟩ := p_work hw hR hs (show c < 16 by omega) v ma se nx on
    obtain ⟨q, q1, q2, q3⟩ := ih n (c + 1) r.1 r.2.1 r.2.2.1 r.2.2.2.1 r.2.2.2.2 (by omega) (by omega) (fun d hd2 => by
      by_cases z : d = c
      · rw [z]; exact ⟨r2, r3, r4⟩
      · obtain ⟨e1, e2, e3⟩ := r5 (16 * s + d) (by omega)
        obtain ⟨f1, f2, f3⟩ := hd d (by omega)
        refine ⟨by rw [e1]; exact f1, fun t ht => by rw [e2]; exact f2 t ht, fun g hg => by rw [e3]; exact f3 g hg⟩)
    rw [L_Mod_explore_32, hin, p_mchoices (by omega), Option.bind_some, if_neg (by rw [nI_leI (by omega) (by omega)]; omega), r1, Option.bind_some, nI_1, ← hin]
    refine ⟨q, q1, q2, fun j hj => ?_⟩
    obtain ⟨e1, e2, e3⟩ := r5 j (by omega)
    obtain ⟨f1, f2, f3⟩ := q3 j hj
    rw [f1, f2, f3, e1, e2, e3]
    exact ⟨rfl, rfl, rfl⟩
theorem p_e7 (hw : WF gs fs os) (hR : RM ga fe inp la ou so nu to fr oo ne gs fs os) :
    ∀ (k n i : Nat) (v ma se nx : Nat → Int32) (on : Nat → Int64) (di : Nat → Int32), i + k = 2 ^ gs.count 1 → k < n → (∀ s, s < i → (∀ d, d < 2 ^ gs.count 0 → TMa gs fs se nx on s d) ∧ di s = if s = 0 then 0 else -1) →
      ∃ r, L_Mod_explore_7 ga fe inp la so nu to fr ne n (nI i) v ma se nx on di = some r ∧ ∀ s, s < 2 ^ gs.count 1 → (∀ d, d < 2 ^ gs.count 0 → TMa gs fs r.2.2.1 r.2.2.2.1 r.2.2.2.2.1 s d) ∧ r.2.2.2.2.2 s = if s = 0 then 0 else -1 := by
  have hI := hw.2.1
  have hK := hw.2.2.1
  have hp := pow4 hI
  have hp8 := pow8 hK
  have hla : la = nI (gs.count 1) := hR.2.2.2.1
  intro k
  induction k with
  | zero =>
    intro n i v ma se nx on di h1 h2 hd
    obtain ⟨n, rfl⟩ : ∃ z, n = z + 1 := ⟨n - 1, by omega⟩
    rw [L_Mod_explore_7, hla, p_mstates hK, Option.bind_some, if_pos ((nI_leI (by omega) (by omega)).mpr (by omega))]
    exact ⟨_, rfl, fun s hs => hd s (by omega)⟩
  | succ k ih =>
    intro n i v ma se nx on di h1 h2 hd
    obtain ⟨n, rfl⟩ : ∃ z, n = z + 1 := ⟨n - 1, by omega⟩
    obtain ⟨r, r1, r2, r3⟩ := p_e32 hw hR (show i < 2 ^ gs.count 1 by omega) (2 ^ gs.count 0) fu 0 v ma se nx on (by omega) (by rw [fu]; omega) (fun d hd => absurd hd (by omega))
    have r1' : L_Mod_explore_32 ga fe inp so nu to fr ne (nI i) fu (0 : Int32) v ma se nx on = some r := r1
    have key : ∀ x : Int32, x = (if i = 0 then 0 else -1) → ∃ q, L_Mod_explore_7 ga fe inp la so nu to fr ne n (nI (i + 1)) r.1 r.2.1 r.2.2.1 r.2.2.2.1 r.2.2.2.2 (upd di i x) = some q ∧ ∀ s, s < 2 ^ gs.count 1 → (∀ d, d < 2 ^ gs.count 0 → TMa gs fs q.2.2.1 q.2.2.2.1 q.2.2.2.2.1 s d) ∧ q.2.2.2.2.2 s = if s = 0 then 0 else -1 := by
      intro x hx
      refine ih n (i + 1) _ _ _ _ _ _ (by omega) (by omega) (fun s hs => ?_)
      by_cases z : s = i
      · rw [z, upd_eq, if_pos rfl]
        exact ⟨r2, hx⟩
      · rw [upd_eq, if_neg z]
        obtain ⟨a, b⟩ := hd s (by omega)
        refine ⟨fun d hd2 => ?_, b⟩
        obtain ⟨e1, e2, e3⟩ := r3 (16 * s + d) (by omega)
        obtain ⟨f1, f2, f3⟩ := a d hd2
        exact ⟨by rw [e1]; exact f1, fun t ht => by rw [e2]; exact f2 t ht, fun g hg => by rw [e3]; exact f3 g hg⟩
    rw [L_Mod_explore_7]
    have hst := p_mstates hK
    rw [← hla] at hst
    rw [hst, Option.bind_some, if_neg (by rw [nI_leI (by omega) (by omega)]; omega)]
    simp only [sx_let, gd_nI (show i < 256 by omega) (show 256 < 2 ^ 31 by decide), nI_clamp (show i < 2 ^ 31 by omega), q0 (show i < 2 ^ 31 by omega), r1', Option.bind_some, nI_1]
    by_cases c : i = 0
    · rw [if_pos c]; exact key _ (by rw [if_pos c])
    · rw [if_neg c]; exact key _ (by rw [if_neg c])
end REFE
/-- a table of next states -/
def TB (nx : Nat → Nat → Option Nat) (S C : Nat) (se ne : Nat → Int32) : Prop := ∀ s, s < S → ∀ c, c < C → (nx s c = none → se (16 * s + c) = 0) ∧ ∀ t, nx s c = some t → se (16 * s + c) = 1 ∧ ne (16 * s + c) = nI t ∧ t < S
section REFL
variable {nx : Nat → Nat → Option Nat} {I K : Nat} {se ne : Nat → Int32}
def MB (nx : Nat → Nat → Option Nat) (C S d : Nat) (d0 di : Nat → Int32) : Prop := ∀ t, t < S → di t = d0 t ∨ (d0 t = -1 ∧ di t = nI (d + 1) ∧ Pth nx C (d + 1) t)
def FL (S : Nat) (x : Int32) (d0 di : Nat → Int32) : Prop := (x = 0 ∧ ∀ t, t < S → di t = d0 t) ∨ (x = 1 ∧ ∃ t, t < S ∧ d0 t = -1 ∧ di t ≠ -1)
theorem p_e81 (hI : I ≤ 4) (hK : K ≤ 8) (hT : TB nx (2 ^ K) (2 ^ I) se ne) {d s : Nat} (hd : d < 1000) (hs : s < 2 ^ K) {d0 : Nat → Int32} (hP : d0 s = nI d → Pth nx (2 ^ I) d s) :
    ∀ (k n c : Nat) (x : Int32) (di : Nat → Int32), c + k = 2 ^ I → k < n → MB nx (2 ^ I) (2 ^ K) d d0 di → FL (2 ^ K) x d0 di → (∀ e, e < c → ∀ t, nx s e = some t → di t ≠ -1) →
      ∃ r, L_Mod_explore_81 (nI I) se ne (nI d) (nI s) n x (nI c) di = some r ∧ MB nx (2 ^ I) (2 ^ K) d d0 r.2 ∧ FL (2 ^ K) r.1 d0 r.2 ∧ (∀ t, t < 2 ^ K → di t ≠ -1 → r.2 t ≠ -1) ∧ (d0 s = nI d → ∀ e, e < 2 ^ I → ∀ t, nx s e = some t → r.2 t ≠ -1) := by
  have hp := pow4 hI
  have hp8 := pow8 hK
  intro k
  induction k with
  | zero =>
    intro n c x di h1 h2 hM hF hc
    obtain ⟨n, rfl⟩ : ∃ z, n = z + 1 := ⟨n - 1, by omega⟩
    rw [L_Mod_explore_81, p_mchoices (by omega), Option.bind_some, if_pos ((nI_leI (by omega) (by omega)).mpr (by omega))]
    exact ⟨_, rfl, hM, hF, fun _ _ h => h, fun _ e he => hc e (by omega)⟩
  | succ k ih =>
    intro n c x di h1 h2 hM hF hc
    obtain ⟨n, rfl⟩ : ∃ z, n = z + 1 := ⟨n - 1, by omega⟩
    have hsd : di s = nI d ↔ d0 s = nI d := by
      rcases hM s hs with z | ⟨z1, z2, _⟩
      · rw [z]
      · rw [z1, z2]
        constructor
        · intro q; rw [nI_eq (by omega) (by omega)] at q; omega
        · intro q; exact absurd q.symm (m1_ne (by omega))
    have ha : 16 * s + c < 4096 := by omega
    rw [L_Mod_explore_81, p_mchoices (by omega), Option.bind_some, if_neg (by rw [nI_leI (by omega) (by omega)]; omega), gd_nI (show s < 256 by omega) (by decide), nI_clamp (show s < 2 ^ 31 by omega)]
    simp only [i16m, gd_nI ha (show 4096 < 2 ^ 31 by decide), nI_clamp (show 16 * s + c < 2 ^ 31 by omega), nI_1]
    by_cases c1 : d0 s = nI d
    · rw [if_pos (hsd.mpr c1)]
      cases e : nx s c with
      | none =>
        rw [if_pos ((hT s hs c (by omega)).1 e)]
        refine ih n (c + 1) x di (by omega) (by omega) hM hF (fun e' he t ht => ?_)
        by_cases z : e' = c
        · rw [z, e] at ht; cases ht
        · exact hc e' (by omega) t ht
      | some t =>
        obtain ⟨t1, t2, t3⟩ := (hT s hs c (by omega)).2 t e
        rw [if_neg (by rw [t1]; decide), t2, gd_nI (show t < 256 by omega) (by decide), gd_nI (show t < 256 by omega) (by decide), nI_clamp (show t < 2 ^ 31 by omega)]
        by_cases c2 : di t = -1
        · rw [if_pos c2]
          have d0t : d0 t = -1 := by
            rcases hM t t3 with z | ⟨z1, _, _⟩
            · rw [← z]; exact c2
            · exact z1
          have hne : nI (d + 1) ≠ (-1 : Int32) := m1_ne (by omega)
          obtain ⟨r, r1, r2, r3, r4, r5⟩ := ih n (c + 1) 1 (upd di t (nI (d + 1))) (by omega) (by omega) (fun q hq => by
              rw [upd_eq]
              by_cases z : q = t
              · rw [if_pos z, z]; exact Or.inr ⟨d0t, rfl, s, hP c1, c, by omega, e⟩
              · rw [if_neg z]; exact hM q hq) (Or.inr ⟨rfl, t, t3, d0t, by rw [upd_eq, if_pos rfl]; exact hne⟩) (fun e' he q hq => by
              rw [upd_eq]
              by_cases z : q = t
              · rw [if_pos z]; exact hne
              · rw [if_neg z]
                by_cases z2 : e' = c
                · rw [z2, e] at hq; cases hq; exact absurd rfl z
                · exact hc e' (by omega) q hq)
          refine ⟨r, r1, r2, r3, fun q hq hq2 => r4 q hq ?_, r5⟩
          rw [upd_eq]
          by_cases z : q = t
          · rw [if_pos z]; exact hne
          · rw [if_neg z]; exact hq2
        · rw [if_neg c2]
          refine ih n (c + 1) x di (by omega) (by omega) hM hF (fun e' he q hq => ?_)
          by_cases z : e' = c
          · rw [z, e] at hq; cases hq; exact c2
          · exact hc e' (by omega) q hq
    · rw [if_neg (fun q => c1 (hsd.mp q))]
      exact ⟨_, rfl, hM, hF, fun _ _ h => h, fun q => absurd q c1⟩
theorem p_e70 (hI : I ≤ 4) (hK : K ≤ 8) (hT : TB nx (2 ^ K) (2 ^ I) se ne) {d : Nat} (hd : d < 1000) {d0 : Nat → Int32} (hP : ∀ s, s < 2 ^ K → d0 s = nI d → Pth nx (2 ^ I) d s) :
    ∀ (k n i : Nat) (x : Int32) (di : Nat → Int32), i + k = 2 ^ K → k < n → MB nx (2 ^ I) (2 ^ K) d d0 di → FL (2 ^ K) x d0 di → (∀ s, s < i → d0 s = nI d → ∀ e, e < 2 ^ I → ∀ t, nx s e = some t → di t ≠ -1) →
      ∃ r, L_Mod_explore_70 (nI I) (nI K) se ne (nI d) n x (nI i) di = some r ∧ MB nx (2 ^ I) (2 ^ K) d d0 r.2 ∧ FL (2 ^ K) r.1 d0 r.2 ∧ (∀ s, s < 2 ^ K → d0 s = nI d → ∀ e, e < 2 ^ I → ∀ t, nx s e = some t → r.2 t ≠ -1) := by
  have hp := pow4 hI
  have hp8 := pow8 hK
  intro k
  induction k with
  | zero =>
    intro n i x di h1 h2 hM hF hc
    obtain ⟨n, rfl⟩ : ∃ z, n = z + 1 := ⟨n - 1, by omega⟩
    rw [L_Mod_explore_70, p_mstates hK, Option.bind_some, if_pos ((nI_leI (by omega) (by omega)).mpr (by omega))]
    exact ⟨_, rfl, hM, hF, fun s hs => hc s (by omega)⟩
  | succ k ih =>
    intro n i x di h1 h2 hM hF hc
    obtain ⟨n, rfl⟩ : ∃ z, n = z + 1 := ⟨n - 1, by omega⟩
    obtain ⟨r, r1, r2, r3, r4, r5⟩ := p_e81 hI hK hT hd (show i < 2 ^ K by omega) (hP i (by omega)) (2 ^ I) fu 0 x di (by omega) (by rw [fu]; omega) hM hF (fun e he => absurd he (by omega))
    have r1' : L_Mod_explore_81 (nI I) se ne (nI d) (nI i) fu x (0 : Int32) di = some r := r1
    rw [L_Mod_explore_70, p_mstates hK, Option.bind_some, if_neg (by rw [nI_leI (by omega) (by omega)]; omega), r1', Option.bind_some, nI_1]
    refine ih n (i + 1) r.1 r.2 (by omega) (by omega) r2 r3 (fun s hs hs2 e he t ht => ?_)
    by_cases z : s = i
    · rw [z] at hs2 ht; exact r5 hs2 e he t ht
    · exact r4 t ((hT s (by omega) e he).2 t ht).2.2 (hc s (by omega) hs2 e he t ht)
/-- the levels so far -/
def LV (nx : Nat → Nat → Option Nat) (C S d : Nat) (di : Nat → Int32) : Prop := ∀ s, s < S → (∃ n, n ≤ d ∧ di s = nI n ∧ Pth nx C n s ∧ ∀ m, m < n → ¬ Pth nx C m s) ∨ (di s = -1 ∧ ∀ m, m ≤ d → ¬ Pth nx C m s)
def DS (nx : Nat → Nat → Option Nat) (C S : Nat) (di : Nat → Int32) : Prop := ∀ s, s < S → (∃ n, n < 1000 ∧ di s = nI n ∧ Pth nx C n s ∧ ∀ m, m < n → ¬ Pth nx C m s) ∨ (di s = -1 ∧ ∀ m, ¬ Pth nx C m s)
def cM (S : Nat) (di : Nat → Int32) : Nat := (List.range' 0 S).countP (fun t => decide (di t = -1))
theorem Pth_lt {S C : Nat} (h1 : 1 ≤ S) (hn : ∀ s, s < S → ∀ c, c < C → ∀ t, nx s c = some t → t < S) : ∀ {m s : Nat}, Pth nx C m s → s < S
  | 0, s, h => by rw [show s = 0 from h]; omega
  | m + 1, s, ⟨q, hq, c, hc, e⟩ => hn q (Pth_lt h1 hn hq) c hc s e
theorem LV_next {S C d : Nat} (hd : d < 1000) (h1 : 1 ≤ S) (hn : ∀ s, s < S → ∀ c, c < C → ∀ t, nx s c = some t → t < S) {d0 di : Nat → Int32} (hL : LV nx C S d d0) (hM : MB nx C S d d0 di) (hc : ∀ s, s < S → d0 s = nI d → ∀ e, e < C → ∀ t, nx s e = some t → di t ≠ -1) : LV nx C S (d + 1) di := by
  intro s hs
  have hno : (∀ m, m ≤ d → ¬ Pth nx C m s) → di s = -1 → ¬ Pth nx C (d + 1) s := by
    intro h2 h3 ⟨q, hq, c, hc2, e⟩
    have hqS := Pth_lt h1 hn hq
    rcases hL q hqS with ⟨n, n1, n2, n3, n4⟩ | ⟨_, n2⟩
    · by_cases z : n = d
      · rw [z] at n2; exact hc q hqS n2 c hc2 s e h3
      · exact h2 (n + 1) (by omega) ⟨q, n3, c, hc2, e⟩
    · exact n2 d (Nat.le_refl _) hq
  rcases hM s hs with z | ⟨z1, z2, z3⟩
  · rcases hL s hs with ⟨n, n1, n2, n3, n4⟩ | ⟨n1, n2⟩
    · exact Or.inl ⟨n, by omega, by rw [z]; exact n2, n3, n4⟩
    · refine Or.inr ⟨by rw [z]; exact n1, fun m hm => ?_⟩
      rcases Nat.lt_or_ge d m with q | q
      · rw [show m = d + 1 by omega]
        exact hno n2 (by rw [z]; exact n1)
      · exact n2 m q
  · rcases hL s hs with ⟨n, n1, n2, n3, n4⟩ | ⟨n1, n2⟩
    · rw [z1] at n2; exact absurd n2.symm (m1_ne (by omega))
    · exact Or.inl ⟨d + 1, Nat.le_refl _, z2, z3, fun m hm => n2 m (by omega)⟩
theorem p_e62 (hI : I ≤ 4) (hK : K ≤ 8) (hT : TB nx (2 ^ K) (2 ^ I) se ne) : ∀ (u n d : Nat) (di : Nat → Int32), cM (2 ^ K) di ≤ u → u + 2 ≤ n → d + u < 900 → LV nx (2 ^ I) (2 ^ K) d di →
      ∃ r, L_Mod_explore_62 (nI I) (nI K) se ne n (1 : Int32) (nI d) di = some r ∧ DS nx (2 ^ I) (2 ^ K) r := by
  have hp := pow4 hI
  have hp8 := pow8 hK
  have hn : ∀ s, s < 2 ^ K → ∀ c, c < 2 ^ I → ∀ t, nx s c = some t → t < 2 ^ K := fun s hs c hc t ht => ((hT s hs c hc).2 t ht).2.2
  intro u
  induction u with
  | zero =>
    intro n d di h1 h2 h3 hL
    obtain ⟨n, rfl⟩ : ∃ z, n = z + 2 := ⟨n - 2, by omega⟩
    have hP : ∀ s, s < 2 ^ K → di s = nI d → Pth nx (2 ^ I) d s := fun s hs e => by
      rcases hL s hs with ⟨m, m1, m2, m3, _⟩ | ⟨m1, _⟩
      · rw [m2, nI_eq (by omega) (by omega)] at e; rw [← e]; exact m3
      · rw [m1] at e; exact absurd e.symm (m1_ne (by omega))
    obtain ⟨r, r1, r2, r3, r4⟩ := p_e70 hI hK hT (show d < 1000 by omega) hP (2 ^ K) fu 0 0 di (by omega) (by rw [fu]; omega) (fun t _ => Or.inl rfl) (Or.inl ⟨rfl, fun _ _ => rfl⟩) (fun s hs => absurd hs (by omega))
    have r1' : L_Mod_explore_70 (nI I) (nI K) se ne (nI d) fu (0 : Int32) (0 : Int32) di = some r := r1
    rw [L_Mod_explore_62, if_neg (by decide), r1', Option.bind_some]
    have hz : r.1 = 0 ∧ ∀ t, t < 2 ^ K → r.2 t = di t := by
      rcases r3 with z | ⟨_, t, t1, t2, _⟩
      · exact z
      · have hc : cM (2 ^ K) di = 0 := by omega
        have := List.countP_eq_zero.mp hc t (List.mem_range'_1.mpr ⟨by omega, by omega⟩)
        exact absurd (decide_eq_true t2) this
    rw [hz.1, L_Mod_explore_62, if_pos rfl]
    refine ⟨_, rfl, fun s hs => ?_⟩
    rw [hz.2 s hs]
    rcases hL s hs with ⟨m, m1, m2, m3, m4⟩ | ⟨m1, m2⟩
    · exact Or.inl ⟨m, by omega, m2, m3, m4⟩
    · have hc : cM (2 ^ K) di = 0 := by omega
      have := List.countP_eq_zero.mp hc s (List.mem_range'_1.mpr ⟨by omega, by omega⟩)
      exact absurd (decide_eq_true m1) this
  | succ u ih =>
    intro n d di h1 h2 h3 hL
    obtain ⟨n, rfl⟩ : ∃ z, n = z + 2 := ⟨n - 2, by omega⟩
    have hP : ∀ s, s < 2 ^ K → di s = nI d → Pth nx (2 ^ I) d s := fun s hs e => by
      rcases hL s hs with ⟨m, m1, m2, m3, _⟩ | ⟨m1, _⟩
      · rw [m2, nI_eq (by omega) (by omega)] at e; rw [← e]; exact m3
      · rw [m1] at e; exact absurd e.symm (m1_ne (by omega))
    obtain ⟨r, r1, r2, r3, r4⟩ := p_e70 hI hK hT (show d < 1000 by omega) hP (2 ^ K) fu 0 0 di (by omega) (by rw [fu]; omega) (fun t _ => Or.inl rfl) (Or.inl ⟨rfl, fun _ _ => rfl⟩) (fun s hs => absurd hs (by omega))
    have r1' : L_Mod_explore_70 (nI I) (nI K) se ne (nI d) fu (0 : Int32) (0 : Int32) di = some r := r1
    rw [L_Mod_explore_62, if_neg (by decide), r1', Option.bind_some]
    have hL2 := LV_next (show d < 1000 by omega) hp8.1 hn hL r2 r4
    rcases r3 with ⟨z1, z2⟩ | ⟨z1, t, t1, t2, t3⟩
    · rw [z1, L_Mod_explore_62, if_pos rfl]
      refine ⟨_, rfl, ?_⟩
      have hall : ∀ m s, Pth nx (2 ^ I) m s → ∃ j, j ≤ d ∧ Pth nx (2 ^ I) j s := by
        intro m
        induction m with
        | zero => intro s hs; exact ⟨0, by omega, hs⟩
        | succ m ihm =>
          intro s hs
          have hsS := Pth_lt hp8.1 hn hs
          obtain ⟨q, hq, c, hc, e⟩ := hs
          obtain ⟨j, j1, j2⟩ := ihm q hq
          rcases hL s hsS with ⟨m, m1, _, m3, _⟩ | ⟨m1, _⟩
          · exact ⟨m, m1, m3⟩
          · rcases hL2 s hsS with ⟨x, x1, x2, x3, x4⟩ | ⟨_, x2⟩
            · rw [z2 s hsS, m1] at x2; exact absurd x2.symm (m1_ne (by omega))
            · exact absurd ⟨q, j2, c, hc, e⟩ (x2 (j + 1) (by omega))
      intro s hs
      rw [z2 s hs]
      rcases hL s hs with ⟨m, m1, m2, m3, m4⟩ | ⟨m1, m2⟩
      · exact Or.inl ⟨m, by omega, m2, m3, m4⟩
      · refine Or.inr ⟨m1, fun m hm => ?_⟩
        obtain ⟨j, j1, j2⟩ := hall m s hm
        exact m2 j j1 j2
    · rw [z1, nI_1]
      have hlt : cM (2 ^ K) r.2 < cM (2 ^ K) di := by
        refine cnt_lt (fun x hx h => ?_) ⟨t, List.mem_range'_1.mpr ⟨by omega, by omega⟩, decide_eq_false t3, decide_eq_true t2⟩
        have hx2 := List.mem_range'_1.mp hx
        have h' : r.2 x = -1 := of_decide_eq_true h
        rcases r2 x (by omega) with y | ⟨y1, y2, _⟩
        · exact decide_eq_true (by rw [← y]; exact h')
        · exact decide_eq_true y1
      exact ih (n + 1) (d + 1) r.2 (by omega) (by omega) (by omega) hL2
/-- the reference's distances are the walk's -/
theorem DS_walk {S C : Nat} (hS : S ≤ 256) (h1 : 1 ≤ S) (hn : ∀ s, s < S → ∀ c, c < C → ∀ t, nx s c = some t → t < S) {di : Nat → Int32} (h : DS nx C S di) {s : Nat} (hs : s < S) : di s = if s ∈ (walkA nx C 256 0 begA).1 then nI ((walkA nx C 256 0 begA).2.1 s) else -1 := by
  obtain ⟨a1, _, a3⟩ := walk_least (nx := nx) (C := C) hS h1 hn
  rcases h s hs with ⟨n, _, n2, n3, n4⟩ | ⟨n1, n2⟩
  · obtain ⟨b1, b2⟩ := a3 n s n3
    rw [if_pos b1, n2]
    congr 1
    have := a1 s b1
    rcases Nat.lt_or_ge ((walkA nx C 256 0 begA).2.1 s) n with z | z
    · exact absurd this (n4 _ z)
    · omega
  · rw [if_neg (fun q => n2 _ (a1 s q)), n1]
end REFL
end
section
/-! told apart; the reference's shows and differ -/
def DFc (nx : Nat → Nat → Option Nat) (sh : Nat → Nat → Nat → Prop) (R : Nat → Nat → Prop) (s t c : Nat) : Prop :=
  (nx s c = none ∧ nx t c ≠ none) ∨ (nx s c ≠ none ∧ nx t c = none) ∨ ∃ a b, nx s c = some a ∧ nx t c = some b ∧ (¬ sh s t c ∨ R a b)
def DF (nx : Nat → Nat → Option Nat) (C : Nat) (sh : Nat → Nat → Nat → Prop) (R : Nat → Nat → Prop) (s t : Nat) : Prop := ∃ c, c < C ∧ DFc nx sh R s t c
/-- the least such relation -/
def TA (nx : Nat → Nat → Option Nat) (C : Nat) (sh : Nat → Nat → Nat → Prop) (s t : Nat) : Prop := ∀ R : Nat → Nat → Prop, (∀ a b, DF nx C sh R a b → R a b) → R s t
section TOLD
variable {nx : Nat → Nat → Option Nat} {C : Nat} {sh : Nat → Nat → Nat → Prop}
theorem DF_mono {R Q : Nat → Nat → Prop} (h : ∀ a b, R a b → Q a b) {s t : Nat} (hd : DF nx C sh R s t) : DF nx C sh Q s t := by
  obtain ⟨c, hc, hd⟩ := hd
  refine ⟨c, hc, ?_⟩
  rcases hd with hd | hd | ⟨a, b, h1, h2, h3⟩
  · exact Or.inl hd
  · exact Or.inr (Or.inl hd)
  · refine Or.inr (Or.inr ⟨a, b, h1, h2, ?_⟩)
    rcases h3 with h3 | h3
    · exact Or.inl h3
    · exact Or.inr (h _ _ h3)
theorem TA_in {s t : Nat} (h : DF nx C sh (TA nx C sh) s t) : TA nx C sh s t := fun R hR => hR s t (DF_mono (fun _ _ q => q R hR) h)
theorem TA_sym (hsh : ∀ s t c, sh s t c → sh t s c) {s t : Nat} (h : TA nx C sh s t) : TA nx C sh t s := by
  refine h (fun a b => TA nx C sh b a) (fun a b hd => TA_in ?_)
  obtain ⟨c, hc, hd⟩ := hd
  refine ⟨c, hc, ?_⟩
  rcases hd with ⟨h1, h2⟩ | ⟨h1, h2⟩ | ⟨x, y, h1, h2, h3⟩
  · exact Or.inr (Or.inl ⟨h2, h1⟩)
  · exact Or.inl ⟨h2, h1⟩
  · refine Or.inr (Or.inr ⟨y, x, h2, h1, ?_⟩)
    rcases h3 with h3 | h3
    · exact Or.inl (fun q => h3 (hsh _ _ _ q))
    · exact Or.inr h3
theorem TA_ne (hsh : ∀ s c, sh s s c) {s t : Nat} (h : TA nx C sh s t) : s ≠ t := by
  refine h (fun a b => a ≠ b) (fun a b hd e => ?_)
  subst e
  obtain ⟨c, hc, hd⟩ := hd
  rcases hd with ⟨h1, h2⟩ | ⟨h1, h2⟩ | ⟨x, y, h1, h2, h3⟩
  · exact h2 h1
  · exact h1 h2
  · rw [h1] at h2
    cases h2
    rcases h3 with h3 | h3
    · exact h3 (hsh _ _)
    · exact h3 rfl
end TOLD
/-- the outputs are the same -/
def shN (gs : List Nat) (fs : List (Nat × Nat)) (os : List Nat) (s t c : Nat) : Prop := ∀ i, i < os.length → vaN gs fs (os.getD i 0) s c = vaN gs fs (os.getD i 0) t c
theorem shN_sym {gs : List Nat} {fs : List (Nat × Nat)} {os : List Nat} (s t c : Nat) (h : shN gs fs os s t c) : shN gs fs os t s c := fun i hi => (h i hi).symm
theorem shN_rfl {gs : List Nat} {fs : List (Nat × Nat)} {os : List Nat} (s c : Nat) : shN gs fs os s s c := fun _ _ => rfl
theorem sar_bit {x : Int64} {g : Nat} (hg : g < 60) : (x >>> ((nI g).toInt64 &&& 63)) &&& (1 : Int64) = if bL x g = true then 1 else 0 := by
  have key : ∀ g : Fin 60, (((nI g.val).toInt64 &&& 63).toBitVec.smod 64).toNat = g.val := by decide +kernel
  have hs := key ⟨g, hg⟩
  rw [← Int64.toBitVec_inj, Int64.toBitVec_and]
  have e1 : (x >>> ((nI g).toInt64 &&& 63)).toBitVec = x.toBitVec.sshiftRight g := by
    show x.toBitVec.sshiftRight' (((nI g).toInt64 &&& 63).toBitVec.smod 64) = _
    rw [BitVec.sshiftRight', hs]
  rw [e1]
  apply BitVec.eq_of_getLsbD_eq
  intro i hi
  have e2 : (1 : Int64).toBitVec = 1#64 := rfl
  rw [BitVec.getLsbD_and, e2, BitVec.getLsbD_one, BitVec.getLsbD_sshiftRight]
  by_cases c : i = 0
  · subst c
    rw [if_pos (by omega), Nat.add_zero]
    have e3 : x.toBitVec.getLsbD g = bL x g := rfl
    rw [e3]
    cases bL x g <;> rfl
  · have h0 : (if bL x g = true then (1 : Int64) else 0).toBitVec.getLsbD i = false := by
      split
      · rw [e2, BitVec.getLsbD_one]; simp [c]
      · show (0#64).getLsbD i = false
        simp
    rw [h0]
    simp [c]
theorem i256m {s c : Nat} : ((256 : Int32) * nI s) + nI c = nI (256 * s + c) := by rw [i256, pk_mul, nI_add]
section REFD
variable {se ne oo ap : Nat → Int32} {on : Nat → Int64} {gs : List Nat} {fs : List (Nat × Nat)} {os : List Nat}
theorem p_shL (hw : WF gs fs os) (hoo : ∀ o, o < os.length → oo o = nI (os.getD o 0)) {s t c : Nat} (hs : s < 256) (ht : t < 256) (hc : c < 16) (h1 : ∀ g, g < gs.length → bL (on (16 * s + c)) g = vaN gs fs g s c) (h2 : ∀ g, g < gs.length → bL (on (16 * t + c)) g = vaN gs fs g t c) :
    ∀ (k n i : Nat) (x : Int32), i + k = os.length → k < n → ((x = 1 ∧ ∀ j, j < i → vaN gs fs (os.getD j 0) s c = vaN gs fs (os.getD j 0) t c) ∨ (x = 0 ∧ ¬ shN gs fs os s t c)) →
      (L_Mod_shows_6 (nI os.length) oo on (nI s) (nI t) (nI c) n x (nI i) = some 1 ∧ shN gs fs os s t c) ∨ (L_Mod_shows_6 (nI os.length) oo on (nI s) (nI t) (nI c) n x (nI i) = some 0 ∧ ¬ shN gs fs os s t c) := by
  have hG := hw.1
  have hO : os.length ≤ 6 := hw.2.2.2.2.2.2.1
  have hos := hw.2.2.2.2.2.2.2
  intro k
  induction k with
  | zero =>
    intro n i x a1 a2 hx
    obtain ⟨n, rfl⟩ : ∃ z, n = z + 1 := ⟨n - 1, by omega⟩
    rw [L_Mod_shows_6, if_pos ((nI_leI (by omega) (by omega)).mpr (by omega))]
    have e : i = os.length := by omega
    subst e
    rcases hx with ⟨z, h⟩ | ⟨z, h⟩
    · exact Or.inl ⟨by rw [z], h⟩
    · exact Or.inr ⟨by rw [z], h⟩
  | succ k ih =>
    intro n i x a1 a2 hx
    obtain ⟨n, rfl⟩ : ∃ z, n = z + 1 := ⟨n - 1, by omega⟩
    have hi : i < os.length := by omega
    have ho : os.getD i 0 < gs.length := hos _ (by simp [List.getD_eq_getElem?_getD, hi])
    rw [L_Mod_shows_6, if_neg (by rw [nI_leI (by omega) (by omega)]; omega)]
    simp only [i16m, gd_nI (show 16 * s + c < 4096 by omega) (show 4096 < 2 ^ 31 by decide), gd_nI (show 16 * t + c < 4096 by omega) (show 4096 < 2 ^ 31 by decide), gd_nI (show i < 6 by omega) (show 6 < 2 ^ 31 by decide), nI_clamp (show 16 * s + c < 2 ^ 31 by omega), nI_clamp (show 16 * t + c < 2 ^ 31 by omega), nI_clamp (show i < 2 ^ 31 by omega), hoo i hi, lg_cmp0, nI_1]
    rw [sar_bit (show os.getD i 0 < 60 by omega), sar_bit (show os.getD i 0 < 60 by omega), h1 _ ho, h2 _ ho]
    rcases hx with ⟨z, h⟩ | ⟨z, h⟩
    · rw [if_neg (by rw [z]; decide)]
      by_cases c1 : vaN gs fs (os.getD i 0) s c = vaN gs fs (os.getD i 0) t c
      · rw [c1, if_pos rfl]
        refine ih n (i + 1) 1 (by omega) (by omega) (Or.inl ⟨rfl, fun j hj => ?_⟩)
        by_cases q : j = i
        · rw [q]; exact c1
        · exact h j (by omega)
      · rw [if_neg]
        · exact ih n (i + 1) 0 (by omega) (by omega) (Or.inr ⟨rfl, fun q => c1 (q i hi)⟩)
        · intro q
          apply c1
          revert q
          cases vaN gs fs (os.getD i 0) s c <;> cases vaN gs fs (os.getD i 0) t c <;> decide
    · rw [if_pos z]
      exact ih n (i + 1) 0 (by omega) (by omega) (Or.inr ⟨rfl, h⟩)
theorem p_shows (hw : WF gs fs os) (hoo : ∀ o, o < os.length → oo o = nI (os.getD o 0)) {s t c : Nat} (hs : s < 256) (ht : t < 256) (hc : c < 16) (h1 : ∀ g, g < gs.length → bL (on (16 * s + c)) g = vaN gs fs g s c) (h2 : ∀ g, g < gs.length → bL (on (16 * t + c)) g = vaN gs fs g t c) :
    (m_Mod_shows (nI os.length) oo on (nI s) (nI t) (nI c) = some 1 ∧ shN gs fs os s t c) ∨ (m_Mod_shows (nI os.length) oo on (nI s) (nI t) (nI c) = some 0 ∧ ¬ shN gs fs os s t c) := by
  have hO : os.length ≤ 6 := hw.2.2.2.2.2.2.1
  rw [m_Mod_shows]
  rcases p_shL hw hoo hs ht hc h1 h2 os.length fu 0 1 (by omega) (by rw [fu]; omega) (Or.inl ⟨rfl, fun j hj => absurd hj (by omega)⟩) with ⟨a, b⟩ | ⟨a, b⟩
  · have a' : L_Mod_shows_6 (nI os.length) oo on (nI s) (nI t) (nI c) fu (1 : Int32) (0 : Int32) = some 1 := a
    rw [a', Option.bind_some, gd_z1]; exact Or.inl ⟨rfl, b⟩
  · have a' : L_Mod_shows_6 (nI os.length) oo on (nI s) (nI t) (nI c) fu (1 : Int32) (0 : Int32) = some 0 := a
    rw [a', Option.bind_some, gd_z0]; exact Or.inr ⟨rfl, b⟩
/-- what the reference's table holds of the net -/
def TM (gs : List Nat) (fs : List (Nat × Nat)) (se ne : Nat → Int32) (on : Nat → Int64) : Prop := ∀ s, s < 2 ^ gs.count 1 → ∀ c, c < 2 ^ gs.count 0 → TMa gs fs se ne on s c
def nxG (gs : List Nat) (fs : List (Nat × Nat)) : Nat → Nat → Option Nat := nxA gs fs (nvF gs fs)
theorem TM_TB (h : TM gs fs se ne on) : TB (nxG gs fs) (2 ^ gs.count 1) (2 ^ gs.count 0) se ne := by
  intro s hs c hc
  obtain ⟨a, b, _⟩ := h s hs c hc
  refine ⟨fun e => ?_, fun t e => ?_⟩
  · rw [a, nxA_none.mp e]; rfl
  · refine ⟨?_, b t e, nxA_lt e⟩
    have : stN gs fs s c = true := by
      cases q : stN gs fs s c with
      | true => rfl
      | false => rw [nxG, nxA_none.mpr q] at e; cases e
    rw [a, this]; rfl
def apR (ap : Nat → Int32) (a b : Nat) : Prop := ap (256 * a + b) ≠ 0
theorem p_dfL (hw : WF gs fs os) (hoo : ∀ o, o < os.length → oo o = nI (os.getD o 0)) (hT : TM gs fs se ne on) {s t : Nat} (hs : s < 2 ^ gs.count 1) (ht : t < 2 ^ gs.count 1) :
    ∀ (k n c : Nat) (x : Int32), c + k = 2 ^ gs.count 0 → k < n → ((x = 1 ∧ DF (nxG gs fs) (2 ^ gs.count 0) (shN gs fs os) (apR ap) s t) ∨ (x = 0 ∧ ∀ d, d < c → ¬ DFc (nxG gs fs) (shN gs fs os) (apR ap) s t d)) →
      (L_Mod_differ_5 (nI (gs.count 0)) (nI os.length) oo se ne on ap (nI s) (nI t) n x (nI c) = some 1 ∧ DF (nxG gs fs) (2 ^ gs.count 0) (shN gs fs os) (apR ap) s t) ∨ (L_Mod_differ_5 (nI (gs.count 0)) (nI os.length) oo se ne on ap (nI s) (nI t) n x (nI c) = some 0 ∧ ¬ DF (nxG gs fs) (2 ^ gs.count 0) (shN gs fs os) (apR ap) s t) := by
  have hI := hw.2.1
  have hK := hw.2.2.1
  have hp := pow4 hI
  have hp8 := pow8 hK
  have hB := TM_TB hT
  intro k
  induction k with
  | zero =>
    intro n c x a1 a2 hx
    obtain ⟨n, rfl⟩ : ∃ z, n = z + 1 := ⟨n - 1, by omega⟩
    rw [L_Mod_differ_5, p_mchoices (by omega), Option.bind_some, if_pos ((nI_leI (by omega) (by omega)).mpr (by omega))]
    rcases hx with ⟨z, h⟩ | ⟨z, h⟩
    · exact Or.inl ⟨by rw [z], h⟩
    · refine Or.inr ⟨by rw [z], fun ⟨d, hd, q⟩ => h d (by omega) q⟩
  | succ k ih =>
    intro n c x a1 a2 hx
    obtain ⟨n, rfl⟩ : ∃ z, n = z + 1 := ⟨n - 1, by omega⟩
    have hc : c < 2 ^ gs.count 0 := by omega
    have yes : DFc (nxG gs fs) (shN gs fs os) (apR ap) s t c → (L_Mod_differ_5 (nI (gs.count 0)) (nI os.length) oo se ne on ap (nI s) (nI t) n (1 : Int32) (nI (c + 1)) = some 1 ∧ DF (nxG gs fs) (2 ^ gs.count 0) (shN gs fs os) (apR ap) s t) ∨ (L_Mod_differ_5 (nI (gs.count 0)) (nI os.length) oo se ne on ap (nI s) (nI t) n (1 : Int32) (nI (c + 1)) = some 0 ∧ ¬ DF (nxG gs fs) (2 ^ gs.count 0) (shN gs fs os) (apR ap) s t) :=
      fun q => ih n (c + 1) 1 (by omega) (by omega) (Or.inl ⟨rfl, c, hc, q⟩)
    have no : (∀ d, d < c → ¬ DFc (nxG gs fs) (shN gs fs os) (apR ap) s t d) → ¬ DFc (nxG gs fs) (shN gs fs os) (apR ap) s t c → (L_Mod_differ_5 (nI (gs.count 0)) (nI os.length) oo se ne on ap (nI s) (nI t) n (0 : Int32) (nI (c + 1)) = some 1 ∧ DF (nxG gs fs) (2 ^ gs.count 0) (shN gs fs os) (apR ap) s t) ∨ (L_Mod_differ_5 (nI (gs.count 0)) (nI os.length) oo se ne on ap (nI s) (nI t) n (0 : Int32) (nI (c + 1)) = some 0 ∧ ¬ DF (nxG gs fs) (2 ^ gs.count 0) (shN gs fs os) (apR ap) s t) :=
      fun h q => ih n (c + 1) 0 (by omega) (by omega) (Or.inr ⟨rfl, fun d hd => by
        by_cases z : d = c
        · rw [z]; exact q
        · exact h d (by omega)⟩)
    rw [L_Mod_differ_5, p_mchoices (by omega), Option.bind_some, if_neg (by rw [nI_leI (by omega) (by omega)]; omega)]
    rcases hx with ⟨z, h⟩ | ⟨z, h⟩
    · rw [if_neg (by rw [z]; decide), nI_1]
      exact ih n (c + 1) 1 (by omega) (by omega) (Or.inl ⟨rfl, h⟩)
    · rw [if_pos z]
      simp only [i16m, gd_nI (show 16 * s + c < 4096 by omega) (show 4096 < 2 ^ 31 by decide), gd_nI (show 16 * t + c < 4096 by omega) (show 4096 < 2 ^ 31 by decide), nI_clamp (show 16 * s + c < 2 ^ 31 by omega), nI_clamp (show 16 * t + c < 2 ^ 31 by omega), nI_1]
      cases es : nxG gs fs s c with
      | none =>
        have e1 := (hB s hs c hc).1 es
        cases et : nxG gs fs t c with
        | none =>
          have e2 := (hB t ht c hc).1 et
          rw [e1, e2, if_pos rfl, if_pos rfl]
          refine no h (fun q => ?_)
          rcases q with ⟨_, q⟩ | ⟨q, _⟩ | ⟨a, b, q, _⟩
          · exact q et
          · exact q es
          · rw [es] at q; cases q
        | some b =>
          have e2 := ((hB t ht c hc).2 b et).1
          rw [e1, e2, if_neg (by decide)]
          exact yes (Or.inl ⟨es, by rw [et]; exact fun q => by cases q⟩)
      | some a =>
        obtain ⟨e1, n1, l1⟩ := (hB s hs c hc).2 a es
        cases et : nxG gs fs t c with
        | none =>
          have e2 := (hB t ht c hc).1 et
          rw [e1, e2, if_neg (by decide)]
          exact yes (Or.inr (Or.inl ⟨by rw [es]; exact fun q => (nomatch q), et⟩))
        | some b =>
          obtain ⟨e2, n2, l2⟩ := (hB t ht c hc).2 b et
          rw [e1, e2, if_pos rfl, if_neg (by decide)]
          rcases p_shows hw hoo (show s < 256 by omega) (show t < 256 by omega) (show c < 16 by omega) (hT s hs c hc).2.2 (hT t ht c hc).2.2 with ⟨p1, p2⟩ | ⟨p1, p2⟩
          · rw [p1, Option.bind_some, if_neg (by decide), n1, n2, i256m, gd_nI (show 256 * a + b < 65536 by omega) (by decide), nI_clamp (by omega)]
            by_cases c1 : ap (256 * a + b) = 0
            · rw [if_pos c1]
              refine no h (fun q => ?_)
              rcases q with ⟨q, _⟩ | ⟨_, q⟩ | ⟨x, y, q1, q2, q⟩
              · rw [es] at q; cases q
              · rw [et] at q; cases q
              · rw [es] at q1; rw [et] at q2; cases q1; cases q2
                rcases q with q | q
                · exact q p2
                · exact q c1
            · rw [if_neg c1]
              exact yes (Or.inr (Or.inr ⟨a, b, es, et, Or.inr c1⟩))
          · rw [p1, Option.bind_some, if_pos rfl]
            exact yes (Or.inr (Or.inr ⟨a, b, es, et, Or.inl p2⟩))
theorem p_differ (hw : WF gs fs os) (hoo : ∀ o, o < os.length → oo o = nI (os.getD o 0)) (hT : TM gs fs se ne on) {s t : Nat} (hs : s < 2 ^ gs.count 1) (ht : t < 2 ^ gs.count 1) :
    (m_Mod_differ (nI (gs.count 0)) (nI os.length) oo se ne on ap (nI s) (nI t) = some 1 ∧ DF (nxG gs fs) (2 ^ gs.count 0) (shN gs fs os) (apR ap) s t) ∨ (m_Mod_differ (nI (gs.count 0)) (nI os.length) oo se ne on ap (nI s) (nI t) = some 0 ∧ ¬ DF (nxG gs fs) (2 ^ gs.count 0) (shN gs fs os) (apR ap) s t) := by
  have hp := pow4 hw.2.1
  rw [m_Mod_differ]
  rcases p_dfL (ap := ap) hw hoo hT hs ht (2 ^ gs.count 0) fu 0 0 (by omega) (by rw [fu]; omega) (Or.inr ⟨rfl, fun d hd => absurd hd (by omega)⟩) with ⟨a, b⟩ | ⟨a, b⟩
  · have a' : L_Mod_differ_5 (nI (gs.count 0)) (nI os.length) oo se ne on ap (nI s) (nI t) fu (0 : Int32) (0 : Int32) = some 1 := a
    rw [a', Option.bind_some, gd_z1]; exact Or.inl ⟨rfl, b⟩
  · have a' : L_Mod_differ_5 (nI (gs.count 0)) (nI os.length) oo se ne on ap (nI s) (nI t) fu (0 : Int32) (0 : Int32) = some 0 := a
    rw [a', Option.bind_some, gd_z0]; exact Or.inr ⟨rfl, b⟩
end REFD
end
section
/-! the reference's tell -/
section REFT
variable {se ne oo di : Nat → Int32} {on : Nat → Int64} {gs : List Nat} {fs : List (Nat × Nat)} {os : List Nat} {rd : Nat → Bool}
theorem p_t2 : ∀ (k n i : Nat) (ap : Nat → Int32), i + k = 65536 → k < n → ∃ r, L_Mod_tell_2 n (nI i) ap = some r ∧ (∀ j, i ≤ j → j < 65536 → r j = 0) ∧ ∀ j, j < i → r j = ap j := by
  intro k
  induction k with
  | zero =>
    intro n i ap h1 h2
    obtain ⟨n, rfl⟩ : ∃ z, n = z + 1 := ⟨n - 1, by omega⟩
    have e : (65536 : Int32) = nI 65536 := rfl
    rw [L_Mod_tell_2, e, if_pos ((nI_leI (by omega) (by omega)).mpr (by omega))]
    exact ⟨_, rfl, fun s a b => absurd b (by omega), fun _ _ => rfl⟩
  | succ k ih =>
    intro n i ap h1 h2
    obtain ⟨n, rfl⟩ : ∃ z, n = z + 1 := ⟨n - 1, by omega⟩
    have e : (65536 : Int32) = nI 65536 := rfl
    rw [L_Mod_tell_2, e, if_neg (by rw [nI_leI (by omega) (by omega)]; omega), gd_nI (by omega) (by decide), nI_clamp (by omega), nI_1, nar0]
    obtain ⟨r, r1, r2, r3⟩ := ih n (i + 1) (upd ap i 0) (by omega) (by omega)
    refine ⟨r, r1, fun s a b => ?_, fun s a => by rw [r3 s (by omega), upd_eq, if_neg (by omega)]⟩
    rcases Nat.lt_or_ge i s with e | e
    · exact r2 s (by omega) b
    · rw [r3 s (by omega), upd_eq, if_pos (by omega)]
/-- what the marks hold -/
def AP (gs : List Nat) (fs : List (Nat × Nat)) (os : List Nat) (ap : Nat → Int32) : Prop :=
  (∀ j, j < 65536 → ap j = 0 ∨ ap j = 1) ∧ (∀ a b, a < 256 → b < 256 → ap (256 * a + b) ≠ 0 → TA (nxG gs fs) (2 ^ gs.count 0) (shN gs fs os) a b) ∧ ∀ a b, a < 256 → b < 256 → ap (256 * a + b) = ap (256 * b + a)
def FG (gs : List Nat) (fs : List (Nat × Nat)) (os : List Nat) (rd : Nat → Bool) (a0 ap : Nat → Int32) (x : Int32) (D : Nat → Nat → Prop) : Prop :=
  (x = 0 ∧ ap = a0 ∧ ∀ a b, D a b → rd a = true → rd b = true → a0 (256 * a + b) = 0 → ¬ DF (nxG gs fs) (2 ^ gs.count 0) (shN gs fs os) (apR a0) a b) ∨ (x = 1 ∧ (∀ j, a0 j ≠ 0 → ap j ≠ 0) ∧ ∃ j, j < 65536 ∧ a0 j = 0 ∧ ap j ≠ 0)
theorem AP_lt (hw : WF gs fs os) {s t : Nat} {ap : Nat → Int32} (hA : AP gs fs os ap) (hs : s < 2 ^ gs.count 1) (ht : t < 2 ^ gs.count 1) (hd : DF (nxG gs fs) (2 ^ gs.count 0) (shN gs fs os) (apR ap) s t) : TA (nxG gs fs) (2 ^ gs.count 0) (shN gs fs os) s t := by
  have hp8 := pow8 hw.2.2.1
  apply TA_in
  obtain ⟨c, hc, hd⟩ := hd
  refine ⟨c, hc, ?_⟩
  rcases hd with hd | hd | ⟨a, b, h1, h2, h3⟩
  · exact Or.inl hd
  · exact Or.inr (Or.inl hd)
  · refine Or.inr (Or.inr ⟨a, b, h1, h2, ?_⟩)
    have l1 := nxA_lt h1
    have l2 := nxA_lt h2
    rcases h3 with h3 | h3
    · exact Or.inl h3
    · exact Or.inr (hA.2.1 a b (by omega) (by omega) h3)
theorem p_t41 (hw : WF gs fs os) (hoo : ∀ o, o < os.length → oo o = nI (os.getD o 0)) (hT : TM gs fs se ne on) (hdi : ∀ q, q < 2 ^ gs.count 1 → (di q < 0 ↔ rd q = false)) {s : Nat} (hs : s < 2 ^ gs.count 1) {a0 : Nat → Int32} :
    ∀ (k n t : Nat) (x : Int32) (ap : Nat → Int32), t + k = s → k < n → AP gs fs os ap → FG gs fs os rd a0 ap x (fun a b => b < a ∧ (a < s ∨ (a = s ∧ b < t))) →
      ∃ r, L_Mod_tell_41 (nI (gs.count 0)) (nI os.length) oo se ne on di (nI s) n x (nI t) ap = some r ∧ AP gs fs os r.2 ∧ FG gs fs os rd a0 r.2 r.1 (fun a b => b < a ∧ a < s + 1) := by
  have hp8 := pow8 hw.2.2.1
  intro k
  induction k with
  | zero =>
    intro n t x ap h1 h2 hA hF
    obtain ⟨n, rfl⟩ : ∃ z, n = z + 1 := ⟨n - 1, by omega⟩
    rw [L_Mod_tell_41, if_pos ((nI_leI (by omega) (by omega)).mpr (by omega))]
    refine ⟨_, rfl, hA, ?_⟩
    rcases hF with ⟨z1, z2, z3⟩ | z
    · exact Or.inl ⟨z1, z2, fun a b hab => z3 a b ⟨hab.1, by omega⟩⟩
    · exact Or.inr z
  | succ k ih =>
    intro n t x ap h1 h2 hA hF
    obtain ⟨n, rfl⟩ : ∃ z, n = z + 1 := ⟨n - 1, by omega⟩
    have ht : t < 2 ^ gs.count 1 := by omega
    have skip : (∀ a0', ap = a0' → rd s = true → rd t = true → a0' (256 * s + t) = 0 → ¬ DF (nxG gs fs) (2 ^ gs.count 0) (shN gs fs os) (apR a0') s t) → ∃ r, L_Mod_tell_41 (nI (gs.count 0)) (nI os.length) oo se ne on di (nI s) n x (nI (t + 1)) ap = some r ∧ AP gs fs os r.2 ∧ FG gs fs os rd a0 r.2 r.1 (fun a b => b < a ∧ a < s + 1) := by
      intro hq
      refine ih n (t + 1) x ap (by omega) (by omega) hA ?_
      rcases hF with ⟨z1, z2, z3⟩ | z
      · refine Or.inl ⟨z1, z2, fun a b hab => ?_⟩
        by_cases e : a = s ∧ b = t
        · rw [e.1, e.2]; exact hq a0 z2
        · exact z3 a b ⟨hab.1, by omega⟩
      · exact Or.inr z
    rw [L_Mod_tell_41, if_neg (by rw [nI_leI (by omega) (by omega)]; omega)]
    simp only [i256m, gd_nI (show s < 256 by omega) (show 256 < 2 ^ 31 by decide), gd_nI (show t < 256 by omega) (show 256 < 2 ^ 31 by decide), gd_nI (show 256 * s + t < 65536 by omega) (show 65536 < 2 ^ 31 by decide), gd_nI (show 256 * t + s < 65536 by omega) (show 65536 < 2 ^ 31 by decide), nI_clamp (show s < 2 ^ 31 by omega), nI_clamp (show t < 2 ^ 31 by omega), nI_clamp (show 256 * s + t < 2 ^ 31 by omega), nI_clamp (show 256 * t + s < 2 ^ 31 by omega), nI_1, nar1]
    by_cases c1 : di s < 0
    · rw [if_pos c1]
      exact skip (fun _ _ q => by rw [(hdi s hs).mp c1] at q; cases q)
    · rw [if_neg c1]
      by_cases c2 : di t < 0
      · rw [if_pos c2]
        exact skip (fun _ _ _ q => by rw [(hdi t ht).mp c2] at q; cases q)
      · rw [if_neg c2]
        by_cases c3 : ap (256 * s + t) = 0
        · rw [if_pos c3]
          rcases p_differ (ap := ap) hw hoo hT hs ht with ⟨p1, p2⟩ | ⟨p1, p2⟩
          · rw [p1, Option.bind_some, if_neg (by decide)]
            have hta := AP_lt hw hA hs ht p2
            have hat : ∀ j, upd (upd ap (256 * s + t) 1) (256 * t + s) 1 j = if j = 256 * t + s then 1 else if j = 256 * s + t then 1 else ap j := fun j => by rw [upd_eq, upd_eq]
            refine ih n (t + 1) 1 _ (by omega) (by omega) ⟨fun j hj => ?_, fun a b ha hb => ?_, fun a b ha hb => ?_⟩ ?_
            · rw [hat]
              split
              · exact Or.inr rfl
              · split
                · exact Or.inr rfl
                · exact hA.1 j hj
            · rw [hat]
              intro q
              by_cases e1 : 256 * a + b = 256 * t + s
              · have e2 : a = t := by omega
                have e3 : b = s := by omega
                rw [e2, e3]; exact TA_sym shN_sym hta
              · rw [if_neg e1] at q
                by_cases e4 : 256 * a + b = 256 * s + t
                · have e2 : a = s := by omega
                  have e3 : b = t := by omega
                  rw [e2, e3]; exact hta
                · rw [if_neg e4] at q
                  exact hA.2.1 a b ha hb q
            · rw [hat, hat]
              by_cases e1 : a = t ∧ b = s
              · rw [e1.1, e1.2]
                simp
              · by_cases e2 : a = s ∧ b = t
                · rw [e2.1, e2.2]
                  simp
                · rw [if_neg (by omega), if_neg (by omega), if_neg (by omega), if_neg (by omega)]
                  exact hA.2.2 a b ha hb
            · refine Or.inr ⟨rfl, fun j hj => ?_, 256 * s + t, by omega, ?_, ?_⟩
              · rw [hat]
                split
                · decide
                · split
                  · decide
                  · rcases hF with ⟨_, z2, _⟩ | ⟨_, z, _⟩
                    · rw [z2]; exact hj
                    · exact z j hj
              · rcases hF with ⟨_, z2, _⟩ | ⟨_, z, _⟩
                · rw [← z2]; exact c3
                · exact Classical.byContradiction fun q => z _ q c3
              · rw [hat]
                split
                · decide
                · rw [if_pos rfl]; decide
          · rw [p1, Option.bind_some, if_pos rfl]
            exact skip (fun b e _ _ _ => by rw [← e]; exact p2)
        · rw [if_neg c3]
          exact skip (fun b e _ _ q => absurd (by rw [e]; exact q) c3)
theorem p_t31 (hw : WF gs fs os) (hoo : ∀ o, o < os.length → oo o = nI (os.getD o 0)) (hT : TM gs fs se ne on) (hdi : ∀ q, q < 2 ^ gs.count 1 → (di q < 0 ↔ rd q = false)) {a0 : Nat → Int32} :
    ∀ (k n s : Nat) (x : Int32) (ap : Nat → Int32), s + k = 2 ^ gs.count 1 → k < n → AP gs fs os ap → FG gs fs os rd a0 ap x (fun a b => b < a ∧ a < s) →
      ∃ r, L_Mod_tell_31 (nI (gs.count 0)) (nI (gs.count 1)) (nI os.length) oo se ne on di n x (nI s) ap = some r ∧ AP gs fs os r.2 ∧ FG gs fs os rd a0 r.2 r.1 (fun a b => b < a ∧ a < 2 ^ gs.count 1) := by
  have hK := hw.2.2.1
  have hp8 := pow8 hK
  intro k
  induction k with
  | zero =>
    intro n s x ap h1 h2 hA hF
    obtain ⟨n, rfl⟩ : ∃ z, n = z + 1 := ⟨n - 1, by omega⟩
    rw [L_Mod_tell_31, p_mstates hK, Option.bind_some, if_pos ((nI_leI (by omega) (by omega)).mpr (by omega))]
    rw [show s = 2 ^ gs.count 1 by omega] at hF
    exact ⟨_, rfl, hA, hF⟩
  | succ k ih =>
    intro n s x ap h1 h2 hA hF
    obtain ⟨n, rfl⟩ : ∃ z, n = z + 1 := ⟨n - 1, by omega⟩
    have hF2 : FG gs fs os rd a0 ap x (fun a b => b < a ∧ (a < s ∨ (a = s ∧ b < 0))) := by
      rcases hF with ⟨z1, z2, z3⟩ | z
      · exact Or.inl ⟨z1, z2, fun a b hab => z3 a b ⟨hab.1, by omega⟩⟩
      · exact Or.inr z
    obtain ⟨r, r1, r2, r3⟩ := p_t41 hw hoo hT hdi (show s < 2 ^ gs.count 1 by omega) s fu 0 x ap (by omega) (by rw [fu]; omega) hA hF2
    have r1' : L_Mod_tell_41 (nI (gs.count 0)) (nI os.length) oo se ne on di (nI s) fu x (0 : Int32) ap = some r := r1
    rw [L_Mod_tell_31, p_mstates hK, Option.bind_some, if_neg (by rw [nI_leI (by omega) (by omega)]; omega), r1', Option.bind_some, nI_1]
    exact ih n (s + 1) r.1 r.2 (by omega) (by omega) r2 r3
def cA (ap : Nat → Int32) : Nat := (List.range' 0 65536).countP (fun j => decide (ap j = 0))
theorem p_t23 (hw : WF gs fs os) (hoo : ∀ o, o < os.length → oo o = nI (os.getD o 0)) (hT : TM gs fs se ne on) (hdi : ∀ q, q < 2 ^ gs.count 1 → (di q < 0 ↔ rd q = false)) :
    ∀ (u n : Nat) (ap : Nat → Int32), cA ap ≤ u → u + 2 ≤ n → AP gs fs os ap → ∃ r, L_Mod_tell_23 (nI (gs.count 0)) (nI (gs.count 1)) (nI os.length) oo se ne on di n (1 : Int32) ap = some r ∧ AP gs fs os r ∧
      ∀ a b, b < a → a < 2 ^ gs.count 1 → rd a = true → rd b = true → r (256 * a + b) = 0 → ¬ DF (nxG gs fs) (2 ^ gs.count 0) (shN gs fs os) (apR r) a b := by
  have hp8 := pow8 hw.2.2.1
  intro u
  induction u with
  | zero =>
    intro n ap h1 h2 hA
    obtain ⟨n, rfl⟩ : ∃ z, n = z + 2 := ⟨n - 2, by omega⟩
    obtain ⟨r, r1, r2, r3⟩ := p_t31 (a0 := ap) hw hoo hT hdi (2 ^ gs.count 1) fu 0 0 ap (by omega) (by rw [fu]; omega) hA (Or.inl ⟨rfl, rfl, fun a b hab => absurd hab.2 (by omega)⟩)
    have r1' : L_Mod_tell_31 (nI (gs.count 0)) (nI (gs.count 1)) (nI os.length) oo se ne on di fu (0 : Int32) (0 : Int32) ap = some r := r1
    rw [L_Mod_tell_23, if_neg (by decide), r1', Option.bind_some]
    rcases r3 with ⟨z1, z2, z3⟩ | ⟨z1, _, j, j1, j2, _⟩
    · rw [z1, L_Mod_tell_23, if_pos rfl]
      refine ⟨_, rfl, r2, ?_⟩
      rw [z2]
      exact fun a b h1 h2 => z3 a b ⟨h1, h2⟩
    · have hc : cA ap = 0 := by omega
      have := List.countP_eq_zero.mp hc j (List.mem_range'_1.mpr ⟨by omega, by omega⟩)
      exact absurd (decide_eq_true j2) this
  | succ u ih =>
    intro n ap h1 h2 hA
    obtain ⟨n, rfl⟩ : ∃ z, n = z + 2 := ⟨n - 2, by omega⟩
    obtain ⟨r, r1, r2, r3⟩ := p_t31 (a0 := ap) hw hoo hT hdi (2 ^ gs.count 1) fu 0 0 ap (by omega) (by rw [fu]; omega) hA (Or.inl ⟨rfl, rfl, fun a b hab => absurd hab.2 (by omega)⟩)
    have r1' : L_Mod_tell_31 (nI (gs.count 0)) (nI (gs.count 1)) (nI os.length) oo se ne on di fu (0 : Int32) (0 : Int32) ap = some r := r1
    rw [L_Mod_tell_23, if_neg (by decide), r1', Option.bind_some]
    rcases r3 with ⟨z1, z2, z3⟩ | ⟨z1, z2, j, j1, j2, j3⟩
    · rw [z1, L_Mod_tell_23, if_pos rfl]
      refine ⟨_, rfl, r2, ?_⟩
      rw [z2]
      exact fun a b h1 h2 => z3 a b ⟨h1, h2⟩
    · rw [z1]
      have hlt : cA r.2 < cA ap := cnt_lt (fun x _ h => decide_eq_true (Classical.byContradiction fun q => z2 x q (of_decide_eq_true h))) ⟨j, List.mem_range'_1.mpr ⟨by omega, by omega⟩, decide_eq_false j3, decide_eq_true j2⟩
      exact ih (n + 1) r.2 (by omega) (by omega) r2
/-- the marks, at the end: just what is told apart -/
theorem p_tell (hw : WF gs fs os) (hoo : ∀ o, o < os.length → oo o = nI (os.getD o 0)) (hT : TM gs fs se ne on) (hdi : ∀ q, q < 2 ^ gs.count 1 → (di q < 0 ↔ rd q = false)) (hcl : ∀ s, s < 2 ^ gs.count 1 → rd s = true → ∀ c, c < 2 ^ gs.count 0 → ∀ t, nxG gs fs s c = some t → rd t = true) (ap : Nat → Int32) :
    ∃ r, m_Mod_tell (nI (gs.count 0)) (nI (gs.count 1)) (nI os.length) oo se ne on di ap = some r ∧ (∀ j, j < 65536 → r j = 0 ∨ r j = 1) ∧ (∀ a, a < 256 → r (256 * a + a) = 0) ∧ ∀ a b, a < 2 ^ gs.count 1 → b < 2 ^ gs.count 1 → rd a = true → rd b = true → (r (256 * a + b) ≠ 0 ↔ TA (nxG gs fs) (2 ^ gs.count 0) (shN gs fs os) a b) := by
  have hp8 := pow8 hw.2.2.1
  obtain ⟨r, r1, r2, -⟩ := p_t2 65536 fu 0 ap (by omega) (by rw [fu]; omega)
  have r1' : L_Mod_tell_2 fu (0 : Int32) ap = some r := r1
  have hA : AP gs fs os r := ⟨fun j hj => Or.inl (r2 j (Nat.zero_le _) hj), fun a b ha hb q => absurd (r2 _ (Nat.zero_le _) (by omega)) q, fun a b ha hb => by rw [r2 _ (Nat.zero_le _) (by omega), r2 _ (Nat.zero_le _) (by omega)]⟩
  have hcA : cA r ≤ 65536 := by
    have := List.countP_le_length (p := fun j => decide (r j = 0)) (l := List.range' 0 65536)
    rw [List.length_range'] at this
    exact this
  obtain ⟨q, q1, q2, q3⟩ := p_t23 hw hoo hT hdi 65536 fu r hcA (by rw [fu]; omega) hA
  rw [m_Mod_tell, r1', Option.bind_some, q1, Option.bind_some]
  have hself : ∀ a, a < 256 → q (256 * a + a) = 0 := fun a ha => Classical.byContradiction fun z => TA_ne shN_rfl (q2.2.1 a a ha ha z) rfl
  refine ⟨q, rfl, q2.1, hself, fun a b ha hb hra hrb => ⟨fun z => q2.2.1 a b (by omega) (by omega) z, fun z => ?_⟩⟩
  have hsymDF : ∀ a b, a < 2 ^ gs.count 1 → b < 2 ^ gs.count 1 → DF (nxG gs fs) (2 ^ gs.count 0) (shN gs fs os) (apR q) a b → DF (nxG gs fs) (2 ^ gs.count 0) (shN gs fs os) (apR q) b a := by
    intro a b ha hb ⟨c, hc, hd⟩
    refine ⟨c, hc, ?_⟩
    rcases hd with ⟨h1, h2⟩ | ⟨h1, h2⟩ | ⟨x, y, h1, h2, h3⟩
    · exact Or.inr (Or.inl ⟨h2, h1⟩)
    · exact Or.inl ⟨h2, h1⟩
    · have l1 := nxA_lt h1
      have l2 := nxA_lt h2
      refine Or.inr (Or.inr ⟨y, x, h2, h1, ?_⟩)
      rcases h3 with h3 | h3
      · exact Or.inl (fun w => h3 (shN_sym _ _ _ w))
      · refine Or.inr ?_
        rw [apR, q2.2.2 y x (by omega) (by omega)]
        exact h3
  have := z (fun a b => a < 2 ^ gs.count 1 → b < 2 ^ gs.count 1 → rd a = true → rd b = true → q (256 * a + b) ≠ 0) (fun a b hd ha hb hra hrb hz => by
    have hd2 : DF (nxG gs fs) (2 ^ gs.count 0) (shN gs fs os) (apR q) a b := by
      obtain ⟨c, hc, hd⟩ := hd
      refine ⟨c, hc, ?_⟩
      rcases hd with hd | hd | ⟨x, y, h1, h2, h3⟩
      · exact Or.inl hd
      · exact Or.inr (Or.inl hd)
      · refine Or.inr (Or.inr ⟨x, y, h1, h2, ?_⟩)
        rcases h3 with h3 | h3
        · exact Or.inl h3
        · exact Or.inr (h3 (nxA_lt h1) (nxA_lt h2) (hcl a ha hra c hc x h1) (hcl b hb hrb c hc y h2))
    rcases Nat.lt_trichotomy a b with e | e | e
    · exact q3 b a e hb hrb hra (by rw [q2.2.2 b a (by omega) (by omega)]; exact hz) (hsymDF a b ha hb hd2)
    · subst e
      exact TA_ne shN_rfl (AP_lt hw q2 ha ha hd2) rfl
    · exact q3 a b e ha hra hrb hz hd2)
  exact this ha hb hra hrb
end REFT
end
section
/-! the reference's explore, whole -/
theorem cnt_in {S : Nat} {l : List Nat} (hn : l.Nodup) (hl : ∀ s, s ∈ l → s < S) (p : Nat → Bool) : (List.range' 0 S).countP (fun s => decide (s ∈ l) && p s) = l.countP p := by
  rw [List.countP_eq_length_filter, List.countP_eq_length_filter]
  apply Nat.le_antisymm
  · refine List.Nodup.length_le_of_subset (List.Pairwise.filter _ List.nodup_range') (fun s hs => ?_)
    have h := (List.mem_filter.mp hs).2
    rw [Bool.and_eq_true, decide_eq_true_eq] at h
    exact List.mem_filter.mpr h
  · refine List.Nodup.length_le_of_subset (List.Pairwise.filter _ hn) (fun s hs => ?_)
    have h := List.mem_filter.mp hs
    have h2 := hl s h.1
    refine List.mem_filter.mpr ⟨List.mem_range'_1.mpr ⟨by omega, by omega⟩, ?_⟩
    rw [Bool.and_eq_true, decide_eq_true_eq]
    exact h
theorem neg1_lt : (-1 : Int32) < 0 := by decide
section REFX
variable {gs : List Nat} {fs : List (Nat × Nat)} {os : List Nat}
abbrev WG (gs : List Nat) (fs : List (Nat × Nat)) : WA := WK gs fs (nvF gs fs)
/-- what the reference's cells hold of what is explored -/
def EM (gs : List Nat) (fs : List (Nat × Nat)) (os : List Nat) (se ne : Nat → Int32) (on : Nat → Int64) (di ap : Nat → Int32) : Prop :=
  TM gs fs se ne on ∧ (∀ s, s < 2 ^ gs.count 1 → di s = if s ∈ (WG gs fs).1 then nI ((WG gs fs).2.1 s) else -1) ∧ (∀ j, j < 65536 → ap j = 0 ∨ ap j = 1) ∧ (∀ a, a < 256 → ap (256 * a + a) = 0) ∧
  ∀ a b, a < 2 ^ gs.count 1 → b < 2 ^ gs.count 1 → a ∈ (WG gs fs).1 → b ∈ (WG gs fs).1 → (ap (256 * a + b) ≠ 0 ↔ TA (nxG gs fs) (2 ^ gs.count 0) (shN gs fs os) a b)
theorem WG_IA (hw : WF gs fs os) : IA (2 ^ gs.count 1) (WG gs fs) := by
  have hp8 := pow8 hw.2.2.1
  have key : ∀ (k i : Nat) (A : WA), IA (2 ^ gs.count 1) A → IA (2 ^ gs.count 1) (walkA (nxA gs fs (nvF gs fs)) (2 ^ gs.count 0) k i A) := by
    intro k
    induction k with
    | zero => intro i A h; exact h
    | succ k ih =>
      intro i A h
      rw [walkA]
      by_cases c : A.1.length ≤ i
      · rw [if_pos c]; exact h
      · rw [if_neg c]
        have hil : i < A.1.length := by omega
        have hm : A.1.getD i 0 ∈ A.1 := by rw [getD_at hil]; exact List.getElem_mem _
        exact ih (i + 1) _ (IA_fold h hm (fun d _ t ht => nxA_lt ht))
  exact key 256 0 begA (IA_beg hp8.1)
theorem WG_len (hw : WF gs fs os) : (WG gs fs).1.length ≤ 256 ∧ 1 ≤ (WG gs fs).1.length := by
  have hI := WG_IA (fs := fs) hw
  have hlen := nodup_le hI.1 (fun q hq => (hI.2.1 q hq).1)
  have hp8 := pow8 hw.2.2.1
  have h0 : 0 ∈ (WG gs fs).1 := walk_0
  exact ⟨by omega, List.length_pos_of_mem h0⟩
theorem WG_di (hw : WF gs fs os) {di : Nat → Int32} (h : ∀ s, s < 2 ^ gs.count 1 → di s = if s ∈ (WG gs fs).1 then nI ((WG gs fs).2.1 s) else -1) : ∀ q, q < 2 ^ gs.count 1 → (di q < 0 ↔ rdK gs fs (nvF gs fs) q = false) := by
  intro q hq
  have hI := WG_IA (fs := fs) hw
  have hl := WG_len (fs := fs) hw
  rw [h q hq, rdK, decide_eq_false_iff_not]
  by_cases c : q ∈ (WG gs fs).1
  · rw [if_pos c]
    have := (hI.2.1 q c).2
    exact ⟨fun z => absurd z (nI_pos (by omega)), fun z => absurd c z⟩
  · rw [if_neg c]
    exact ⟨fun _ => c, fun _ => neg1_lt⟩
theorem p_re4 (hw : WF gs fs os) {di : Nat → Int32} (h : ∀ s, s < 2 ^ gs.count 1 → di s = if s ∈ (WG gs fs).1 then nI ((WG gs fs).2.1 s) else -1) : ∀ (k n i m : Nat), i + k = 2 ^ gs.count 1 → k < n → L_Mod_reached_4 (nI (gs.count 1)) di n (nI m) (nI i) = some (nI (m + (List.range' i k).countP (fun s => decide (s ∈ (WG gs fs).1)))) := by
  have hK := hw.2.2.1
  have hp8 := pow8 hK
  intro k
  induction k with
  | zero =>
    intro n i m h1 h2
    obtain ⟨n, rfl⟩ : ∃ z, n = z + 1 := ⟨n - 1, by omega⟩
    rw [L_Mod_reached_4, p_mstates hK, Option.bind_some, if_pos ((nI_leI (by omega) (by omega)).mpr (by omega))]
    rfl
  | succ k ih =>
    intro n i m h1 h2
    obtain ⟨n, rfl⟩ : ∃ z, n = z + 1 := ⟨n - 1, by omega⟩
    rw [L_Mod_reached_4, p_mstates hK, Option.bind_some, if_neg (by rw [nI_leI (by omega) (by omega)]; omega), gd_nI (show i < 256 by omega) (by decide), nI_clamp (by omega), nI_1, nI_1, List.range'_succ, List.countP_cons]
    have hd := WG_di hw h i (by omega)
    rw [rdK, decide_eq_false_iff_not] at hd
    by_cases c : i ∈ (WG gs fs).1
    · rw [if_neg (fun z => hd.mp z c), ih n (i + 1) (m + 1) (by omega) (by omega), if_pos (decide_eq_true c), Nat.add_assoc, Nat.add_comm 1]
    · rw [if_pos (hd.mpr c), ih n (i + 1) m (by omega) (by omega), if_neg (by simpa using c)]
      rfl
theorem p_mreached (hw : WF gs fs os) {di : Nat → Int32} (h : ∀ s, s < 2 ^ gs.count 1 → di s = if s ∈ (WG gs fs).1 then nI ((WG gs fs).2.1 s) else -1) : m_Mod_reached (nI (gs.count 1)) di = some (nI (WG gs fs).1.length) := by
  have hp8 := pow8 hw.2.2.1
  have hI := WG_IA (fs := fs) hw
  have e := p_re4 hw h (2 ^ gs.count 1) fu 0 0 (by omega) (by rw [fu]; omega)
  have e' : L_Mod_reached_4 (nI (gs.count 1)) di fu (0 : Int32) (0 : Int32) = some (nI (0 + (List.range' 0 (2 ^ gs.count 1)).countP (fun s => decide (s ∈ (WG gs fs).1)))) := e
  rw [m_Mod_reached, e', Option.bind_some, Nat.zero_add]
  have c := cnt_in hI.1 (fun s hs => (hI.2.1 s hs).1) (fun _ => true)
  have c2 : (List.range' 0 (2 ^ gs.count 1)).countP (fun s => decide (s ∈ (WG gs fs).1)) = (List.range' 0 (2 ^ gs.count 1)).countP (fun s => decide (s ∈ (WG gs fs).1) && true) := by
    congr 1
    funext s
    rw [Bool.and_true]
  rw [c2, c, List.countP_true]
theorem p_mexplore {ga fe inp la ou : Int32} {so nu to fr oo ne : Nat → Int32} (hw : WF gs fs os) (hR : RM ga fe inp la ou so nu to fr oo ne gs fs os) (co : Int32) (v ma : Nat → Int32) (ex : Int32) (se nx : Nat → Int32) (on : Nat → Int64) (di ap : Nat → Int32) :
    ∃ r, m_Mod_explore co ga fe inp la ou so nu v ma to fr oo ne ex se nx on di ap = some r ∧ r.1 = nI (WG gs fs).1.length ∧ r.2.1 = 0 ∧ r.2.2.2.2.1 = 1 ∧ EM gs fs os r.2.2.2.2.2.1 r.2.2.2.2.2.2.1 r.2.2.2.2.2.2.2.1 r.2.2.2.2.2.2.2.2.1 r.2.2.2.2.2.2.2.2.2 := by
  have hI := hw.2.1
  have hK := hw.2.2.1
  have hp4 := pow4 hI
  have hp8 := pow8 hK
  have hoo : ∀ o, o < os.length → oo o = nI (os.getD o 0) := hR.2.2.2.2.2.2.2
  have hin : inp = nI (gs.count 0) := hR.2.2.1
  have hla : la = nI (gs.count 1) := hR.2.2.2.1
  have hou : ou = nI os.length := hR.2.2.2.2.1
  obtain ⟨r, r1, r2⟩ := p_e7 hw hR (2 ^ gs.count 1) fu 0 v ma se nx on di (by omega) (by rw [fu]; omega) (fun s hs => absurd hs (by omega))
  have r1' : L_Mod_explore_7 ga fe inp la so nu to fr ne fu (0 : Int32) v ma se nx on di = some r := r1
  have hT : TM gs fs r.2.2.1 r.2.2.2.1 r.2.2.2.2.1 := fun s hs c hc => (r2 s hs).1 c hc
  have hB := TM_TB hT
  have hL : LV (nxG gs fs) (2 ^ gs.count 0) (2 ^ gs.count 1) 0 r.2.2.2.2.2 := by
    intro s hs
    rw [(r2 s hs).2]
    by_cases c : s = 0
    · rw [if_pos c]; exact Or.inl ⟨0, Nat.le_refl _, rfl, c, fun m hm => absurd hm (by omega)⟩
    · rw [if_neg c]; exact Or.inr ⟨rfl, fun m hm z => by rw [show m = 0 by omega] at z; exact c z⟩
  have hcM : cM (2 ^ gs.count 1) r.2.2.2.2.2 ≤ 256 := by
    have := List.countP_le_length (p := fun t => decide (r.2.2.2.2.2 t = -1)) (l := List.range' 0 (2 ^ gs.count 1))
    rw [List.length_range'] at this
    exact Nat.le_trans this hp8.2
  obtain ⟨q, q1, q2⟩ := p_e62 hI hK hB 256 fu 0 r.2.2.2.2.2 hcM (by rw [fu]; omega) (by omega) hL
  have q1' : L_Mod_explore_62 inp la r.2.2.1 r.2.2.2.1 fu (1 : Int32) (0 : Int32) r.2.2.2.2.2 = some q := by rw [hin, hla]; exact q1
  have hn : ∀ s, s < 2 ^ gs.count 1 → ∀ c, c < 2 ^ gs.count 0 → ∀ t, nxG gs fs s c = some t → t < 2 ^ gs.count 1 := fun s _ c _ t ht => nxA_lt ht
  have hq : ∀ s, s < 2 ^ gs.count 1 → q s = if s ∈ (WG gs fs).1 then nI ((WG gs fs).2.1 s) else -1 := fun s hs => DS_walk hp8.2 hp8.1 hn q2 hs
  have hcl : ∀ s, s < 2 ^ gs.count 1 → rdK gs fs (nvF gs fs) s = true → ∀ c, c < 2 ^ gs.count 0 → ∀ t, nxG gs fs s c = some t → rdK gs fs (nvF gs fs) t = true := by
    intro s hs hr c hc t ht
    rw [rdK, decide_eq_true_eq] at hr ⊢
    exact walk_closed hp8.2 (fun s _ c _ t ht => nxA_lt ht) 256 0 begA (by omega) (IA_beg hp8.1) (fun s hs => absurd hs (by simp)) s hr c hc t ht
  obtain ⟨w, w1, w2, w3, w4⟩ := p_tell hw hoo hT (WG_di hw hq) hcl ap
  rw [← hin, ← hla, ← hou] at w1
  have h5 := p_mreached hw hq
  rw [← hla] at h5
  rw [m_Mod_explore, r1', Option.bind_some, q1', Option.bind_some, w1, Option.bind_some, h5, Option.bind_some]
  exact ⟨_, rfl, rfl, rfl, rfl, hT, hq, w2, w3, fun a b ha hb hra hrb => w4 a b ha hb (decide_eq_true hra) (decide_eq_true hrb)⟩
end REFX
end
section
/-! THE QUESTIONS: class and reference side by side -/
theorem fails_0 {co : Int32} : m_Mod_fails co 0 0 = some (0, 0) := by rw [m_Mod_fails]; rfl
theorem fails_1 {co y : Int32} : m_Mod_fails co 1 y = some (1, 1) := by
  rw [m_Mod_fails]
  simp only [sx_let]
  rw [if_neg (by decide), if_neg (by decide)]
theorem fails_2 {co : Int32} : m_Mod_fails co 0 1 = some (1, 2) := by
  rw [m_Mod_fails]
  simp only [sx_let]
  rw [if_pos trivial, if_neg (by decide), if_neg (by decide)]
theorem rs_no {K : Nat} {x : Int32} (hK : K ≤ 8) (h : x < 0 ∨ ¬ x < nI (2 ^ K)) : m_Exp_requireState (nI K) x = some (.inl 2) ∧ m_Mod_isState (nI K) x = some 0 := by
  rw [m_Exp_requireState, m_Mod_isState, p_stateTotal hK, p_mstates hK]
  by_cases c : x < 0
  · rw [if_pos c, if_pos c]; exact ⟨rfl, rfl⟩
  · have h2 : ¬ x < nI (2 ^ K) := by
      rcases h with h | h
      · exact absurd h c
      · exact h
    rw [if_neg c, if_neg c, Option.bind_some, Option.bind_some, if_neg h2, if_pos (Int32.not_lt.mp h2)]
    exact ⟨rfl, rfl⟩
theorem rs_yes {K j : Nat} (hK : K ≤ 8) (h : j < 2 ^ K) : m_Exp_requireState (nI K) (nI j) = some (.inr ()) ∧ m_Mod_isState (nI K) (nI j) = some 1 := by
  have hp := pow8 hK
  rw [m_Exp_requireState, m_Mod_isState, p_stateTotal hK, p_mstates hK, if_neg (nI_pos (by omega)), if_neg (nI_pos (by omega)), Option.bind_some, Option.bind_some, if_pos ((nI_ltI (by omega) (by omega)).mpr h), if_neg (by rw [nI_leI (by omega) (by omega)]; omega)]
  exact ⟨rfl, rfl⟩
theorem rg_no {G : Nat} {x : Int32} (h : x < 0 ∨ ¬ x < nI G) : m_Exp_requireGate (nI G) x = some (.inl 2) ∧ m_Mod_isGate (nI G) x = some 0 := by
  rw [m_Exp_requireGate, m_Mod_isGate]
  by_cases c : x < 0
  · rw [if_pos c, if_pos c]; exact ⟨rfl, rfl⟩
  · have h2 : ¬ x < nI G := by
      rcases h with h | h
      · exact absurd h c
      · exact h
    rw [if_neg c, if_neg c, if_neg h2, if_pos (Int32.not_lt.mp h2)]
    exact ⟨rfl, rfl⟩
theorem rg_yes {G j : Nat} (hG : G ≤ 60) (h : j < G) : m_Exp_requireGate (nI G) (nI j) = some (.inr ()) ∧ m_Mod_isGate (nI G) (nI j) = some 1 := by
  rw [m_Exp_requireGate, m_Mod_isGate, if_neg (nI_pos (by omega)), if_neg (nI_pos (by omega)), if_pos ((nI_ltI (by omega) (by omega)).mpr h), if_neg (by rw [nI_leI (by omega) (by omega)]; omega)]
  exact ⟨rfl, rfl⟩
theorem rx_0 : m_Exp_requireExplored 0 = some (.inl 1) := by rw [m_Exp_requireExplored, if_pos rfl]
theorem rx_1 : m_Exp_requireExplored 1 = some (.inr ()) := by rw [m_Exp_requireExplored, if_neg (by decide)]
theorem in01 {α : Type} {a : Option α} : gd (vp_in (0 : Int32) 1) a = a := gd_nI (n := 0) (N := 1) (by decide) (by decide)
theorem cl0 : (0 : Int32).toNatClampNeg = 0 := by decide
theorem out0 {o : Nat → Int64} {x : Int64} : vp_updL o 0 x 0 = x := by rw [updL_eq, if_pos rfl]
theorem se_r {α β γ : Type} {f : α → γ} {g : β → γ} {b : β} : Sum.elim f g (.inr b) = g b := rfl
theorem se_l {α β γ : Type} {f : α → γ} {g : β → γ} {a : α} : Sum.elim f g (.inl a) = f a := rfl
theorem or_yes {α : Type} {a : α} {x : Int32} (h : ¬ x = 0) : (if x = 0 then (none : Option α) else some a) = some a := if_neg h
section QU
variable {gs : List Nat} {fs : List (Nat × Nat)} {os : List Nat} {pn : Nat → Int32} {pt : Int32} {se va : Nat → Int64} {ns di od pa st : Nat → Int32} {sp : Nat → Int64} {wd re du dS dC : Int32}
  {mse mne : Nat → Int32} {mon : Nat → Int64} {mdi map : Nat → Int32}
/-- both sides are explored, or neither is -/
def XX (gs : List Nat) (fs : List (Nat × Nat)) (os : List Nat) (pn : Nat → Int32) (pt : Int32) (se va : Nat → Int64) (ns di od pa st : Nat → Int32) (sp : Nat → Int64) (wd re du dS dC : Int32) (mse mne : Nat → Int32) (mon : Nat → Int64) (mdi map : Nat → Int32) (x y : Int32) : Prop :=
  (x = 0 ∧ y = 0) ∨ (x = 1 ∧ y = 1 ∧ EX gs fs os (nvF gs fs) pn pt se va ns di od pa st sp wd re du dS dC ∧ EM gs fs os mse mne mon mdi map)
theorem EX_di (hE : EX gs fs os (nvF gs fs) pn pt se va ns di od pa st sp wd re du dS dC) (hM : EM gs fs os mse mne mon mdi map) {j : Nat} (hj : j < 2 ^ gs.count 1) : di j = mdi j := by
  rw [hE.2.1.1 j hj, hM.2.1 j hj]
theorem q_distance (hw : WF gs fs os) {x y : Int32} (hX : XX gs fs os pn pt se va ns di od pa st sp wd re du dS dC mse mne mon mdi map x y) (co : Int32) (out : Nat → Int64) (a : Int32) :
    ∃ k o b, m_Law_distance (nI (gs.count 1)) di x out a = some (k, o) ∧ m_Mod_distance co (nI (gs.count 1)) y mdi a = some (b, k) ∧ (k = 0 → o 0 = b.toInt64) := by
  have hK := hw.2.2.1
  have hp8 := pow8 hK
  rw [m_Law_distance, m_Exp_distance, m_Mod_distance]
  simp only [sx_let]
  rcases ix_cases a (n := 2 ^ gs.count 1) (by omega) with h | ⟨j, hj, rfl⟩
  · obtain ⟨e1, e2⟩ := rs_no hK h
    rcases hX with ⟨rfl, rfl⟩ | ⟨rfl, rfl, _, _⟩
    · exact ⟨1, out, 0, by rw [rx_0]; rfl, by rw [if_pos rfl, e2, Option.bind_some, if_pos rfl, fails_1]; rfl, fun q => absurd q (by decide)⟩
    · exact ⟨2, out, 0, by rw [rx_1, Option.bind_some]; rw [se_r]; rw [e1]; rfl, by rw [if_neg (by decide), e2, Option.bind_some, if_pos rfl, fails_2]; rfl, fun q => absurd q (by decide)⟩
  · obtain ⟨e1, e2⟩ := rs_yes hK hj
    rcases hX with ⟨rfl, rfl⟩ | ⟨rfl, rfl, hE, hM⟩
    · exact ⟨1, out, 0, by rw [rx_0]; rfl, by rw [if_pos rfl, e2, Option.bind_some, if_neg (by decide), fails_1]; rfl, fun q => absurd q (by decide)⟩
    · refine ⟨0, vp_updL out 0 (di j).toInt64, mdi j, ?_, ?_, fun _ => by rw [out0, EX_di hE hM hj]⟩
      · rw [rx_1, Option.bind_some]; rw [se_r]
        rw [e1, Option.bind_some]
        rw [se_r]
        rw [gd_nI (by omega) (by decide), nI_clamp (by omega), Option.bind_some]
        rw [se_r]
        rw [in01, cl0]
      · rw [if_neg (by decide), e2, Option.bind_some, if_neg (by decide), fails_0, Option.bind_some, if_pos rfl, gd_nI (by omega) (by decide), nI_clamp (by omega)]
theorem p_manyL (hw : WF gs fs os) (hd : ∀ s, s < 2 ^ gs.count 1 → mdi s = if s ∈ (WG gs fs).1 then nI ((WG gs fs).2.1 s) else -1) {a : Int32} (ha : ¬ a < 0) : ∀ (k n i m : Nat), i + k = 2 ^ gs.count 1 → k < n → L_Mod_many_26 (nI (gs.count 1)) mdi a n (nI m) (nI i) = some (nI (m + (List.range' i k).countP (fun s => decide (s ∈ (WG gs fs).1) && decide (nI ((WG gs fs).2.1 s) = a)))) := by
  have hK := hw.2.2.1
  have hp8 := pow8 hK
  intro k
  induction k with
  | zero =>
    intro n i m h1 h2
    obtain ⟨n, rfl⟩ : ∃ z, n = z + 1 := ⟨n - 1, by omega⟩
    rw [L_Mod_many_26, p_mstates hK, Option.bind_some, if_pos ((nI_leI (by omega) (by omega)).mpr (by omega))]
    rfl
  | succ k ih =>
    intro n i m h1 h2
    obtain ⟨n, rfl⟩ : ∃ z, n = z + 1 := ⟨n - 1, by omega⟩
    rw [L_Mod_many_26, p_mstates hK, Option.bind_some, if_neg (by rw [nI_leI (by omega) (by omega)]; omega), if_neg ha, gd_nI (show i < 256 by omega) (by decide), nI_clamp (by omega), nI_1, nI_1, List.range'_succ, List.countP_cons, hd i (by omega)]
    by_cases c : i ∈ (WG gs fs).1
    · rw [if_pos c]
      by_cases c2 : nI ((WG gs fs).2.1 i) = a
      · rw [if_pos c2, ih n (i + 1) (m + 1) (by omega) (by omega), if_pos (by rw [decide_eq_true c, decide_eq_true c2]; rfl), Nat.add_assoc, Nat.add_comm 1]
      · rw [if_neg c2, ih n (i + 1) m (by omega) (by omega), if_neg (by rw [decide_eq_false c2]; simp)]
        rfl
    · rw [if_neg c, if_neg (fun z => ha (by rw [← z]; exact neg1_lt)), ih n (i + 1) m (by omega) (by omega), if_neg (by rw [decide_eq_false c]; simp)]
      rfl
theorem q_many (hw : WF gs fs os) {x y : Int32} (hX : XX gs fs os pn pt se va ns di od pa st sp wd re du dS dC mse mne mon mdi map x y) (co : Int32) (out : Nat → Int64) (a : Int32) :
    ∃ k o b, m_Law_many di od re x out a = some (k, o) ∧ m_Mod_many co (nI (gs.count 1)) y mdi a = some (b, k) ∧ (k = 0 → o 0 = b.toInt64) := by
  have hK := hw.2.2.1
  have hp8 := pow8 hK
  rw [m_Law_many, m_Exp_many, m_Mod_many]
  simp only [sx_let]
  rcases hX with ⟨rfl, rfl⟩ | ⟨rfl, rfl, hE, hM⟩
  · exact ⟨1, out, 0, by rw [rx_0]; rfl, by rw [if_pos rfl, fails_1]; rfl, fun q => absurd q (by decide)⟩
  · have hI := WG_IA (fs := fs) hw
    have hlen := WG_len (fs := fs) hw
    refine ⟨0, vp_updL out 0 (nI ((WG gs fs).1.countP (fun s => decide (nI ((WG gs fs).2.1 s) = a)))).toInt64, nI ((WG gs fs).1.countP (fun s => decide (nI ((WG gs fs).2.1 s) = a))), ?_, ?_, fun _ => by rw [out0]⟩
    · rw [rx_1, Option.bind_some]; rw [se_r]
      rw [p_reachedAt hp8.2 hE.2.1 hE.2.2.1, Option.bind_some, Option.bind_some]
      rw [se_r]
      rw [in01, cl0]
    · rw [if_neg (by decide), fails_0, Option.bind_some, if_pos rfl]
      by_cases c : a < 0
      · have e : L_Mod_many_26 (nI (gs.count 1)) mdi a fu (0 : Int32) (0 : Int32) = some 0 := by
          rw [show fu = (fu - 1) + 1 by rw [fu], L_Mod_many_26, p_mstates hK, Option.bind_some]
          split
          · rfl
          · first
            | rfl
            | rw [if_pos c]
        have e2 : (WG gs fs).1.countP (fun s => decide (nI ((WG gs fs).2.1 s) = a)) = 0 := by
          apply List.countP_eq_zero.mpr
          intro s hs h
          have h2 : nI ((WG gs fs).2.1 s) = a := of_decide_eq_true h
          have := (hI.2.1 s hs).2
          rw [← h2] at c
          exact nI_pos (by omega) c
        rw [e, e2, Option.bind_some]
        rfl
      · have e := p_manyL hw hM.2.1 c (2 ^ gs.count 1) fu 0 0 (by omega) (by rw [fu]; omega)
        have e' : L_Mod_many_26 (nI (gs.count 1)) mdi a fu (0 : Int32) (0 : Int32) = _ := e
        rw [e', Option.bind_some, Nat.zero_add, cnt_in hI.1 (fun s hs => (hI.2.1 s hs).1)]
theorem and_mod {I c : Nat} (hI : I ≤ 4) (hc : c < 16) : nI c &&& (nI (2 ^ I) - (1 : Int32)) = nI (c % 2 ^ I) := by
  have key : ∀ I : Fin 5, ∀ c : Fin 16, nI c.val &&& (nI (2 ^ I.val) - (1 : Int32)) = nI (c.val % 2 ^ I.val) := by decide +kernel
  exact key ⟨I, by omega⟩ ⟨c, hc⟩
theorem q_next (hw : WF gs fs os) {x y : Int32} (hX : XX gs fs os pn pt se va ns di od pa st sp wd re du dS dC mse mne mon mdi map x y) (co : Int32) (out : Nat → Int64) (a c : Int32) :
    ∃ k o b, m_Law_next (nI (gs.count 0)) (nI (gs.count 1)) ns x out a c = some (k, o) ∧ m_Mod_next co (nI (gs.count 0)) (nI (gs.count 1)) y mse mne a c = some (b, k) ∧ (k = 0 → o 0 = b.toInt64) := by
  have hI := hw.2.1
  have hK := hw.2.2.1
  have hp4 := pow4 hI
  have hp8 := pow8 hK
  rw [m_Law_next, m_Exp_next, m_Mod_next]
  simp only [sx_let]
  have e15 : (c ≤ (15 : Int32)) ↔ c < (16 : Int32) := by
    have : (15 : Int32).toInt = 15 := by decide
    have : (16 : Int32).toInt = 16 := by decide
    rw [Int32.le_iff_toInt_le, Int32.lt_iff_toInt_lt]
    omega
  rcases hX with ⟨rfl, rfl⟩ | ⟨rfl, rfl, hE, hM⟩
  · refine ⟨1, out, 0, by rw [rx_0]; rfl, ?_, fun q => absurd q (by decide)⟩
    rw [if_pos rfl]
    rcases ix_cases a (n := 2 ^ gs.count 1) (by omega) with h | ⟨j, hj, rfl⟩
    · rw [(rs_no hK h).2, Option.bind_some, if_pos rfl, fails_1]; rfl
    · rw [(rs_yes hK hj).2, Option.bind_some, if_neg (by decide)]
      split
      · rw [fails_1]; rfl
      · split
        · rw [fails_1]; rfl
        · rw [fails_1]; rfl
  · rcases ix_cases a (n := 2 ^ gs.count 1) (by omega) with h | ⟨j, hj, rfl⟩
    · obtain ⟨e1, e2⟩ := rs_no hK h
      exact ⟨2, out, 0, by rw [rx_1, Option.bind_some]; rw [se_r]; rw [e1]; rfl, by rw [if_neg (by decide), e2, Option.bind_some, if_pos rfl, fails_2]; rfl, fun q => absurd q (by decide)⟩
    · obtain ⟨e1, e2⟩ := rs_yes hK hj
      rcases ix_cases c (n := 16) (by decide) with h | ⟨d, hd, rfl⟩
      · refine ⟨2, out, 0, ?_, ?_, fun q => absurd q (by decide)⟩
        · rw [rx_1, Option.bind_some]; rw [se_r]
          rw [e1, Option.bind_some]
          rw [se_r]
          by_cases c1 : c < 0
          · rw [if_pos c1]; rfl
          · rw [if_neg c1, if_neg (by rw [i16]; rcases h with h | h; exact absurd h c1; exact h)]; rfl
        · rw [if_neg (by decide), e2, Option.bind_some, if_neg (by decide)]
          by_cases c1 : c < 0
          · rw [if_pos c1, fails_2]; rfl
          · rw [if_neg c1, if_neg (by rw [e15, i16]; rcases h with h | h; exact absurd h c1; exact h), fails_2]; rfl
      · have hm : d % 2 ^ gs.count 0 < 2 ^ gs.count 0 := Nat.mod_lt _ (by omega)
        have hT := hM.1 j hj _ hm
        have hN := hE.1.2 j hj _ hm
        have e16 : nI j * (16 : Int32) + nI (d % 2 ^ gs.count 0) = nI (j * 16 + d % 2 ^ gs.count 0) := by rw [i16, pk_mul, nI_add]
        have eq : ns (j * 16 + d % 2 ^ gs.count 0) = if mse (16 * j + d % 2 ^ gs.count 0) = 0 then -1 else mne (16 * j + d % 2 ^ gs.count 0) := by
          have hx := nxA_of hN
          cases e : nxA gs fs (nvF gs fs) j (d % 2 ^ gs.count 0) with
          | none =>
            rw [e] at hx
            rw [hT.1, nxA_none.mp e, if_pos (by simp)]
            exact hx
          | some t =>
            rw [e] at hx
            have hst : stN gs fs j (d % 2 ^ gs.count 0) = true := by
              cases q : stN gs fs j (d % 2 ^ gs.count 0) with
              | true => rfl
              | false => rw [nxA_none.mpr q] at e; cases e
            rw [hT.1, hst, if_neg (by simp), hT.2.1 t e]
            exact hx
        refine ⟨0, vp_updL out 0 (ns (j * 16 + d % 2 ^ gs.count 0)).toInt64, ns (j * 16 + d % 2 ^ gs.count 0), ?_, ?_, fun _ => by rw [out0]⟩
        · rw [rx_1, Option.bind_some]; rw [se_r]
          rw [e1, Option.bind_some]
          rw [se_r]
          rw [if_neg (nI_pos (by omega)), if_pos (by rw [i16]; exact (nI_ltI (by omega) (by decide)).mpr hd), p_choiceTotal (by omega), Option.bind_some, and_mod hI hd, m_Tab_nextOf, e16, gd_nI (by omega) (by decide), nI_clamp (by omega), Option.bind_some, Option.bind_some]
          rw [se_r]
          rw [in01, cl0]
        · rw [if_neg (by decide), e2, Option.bind_some, if_neg (by decide), if_neg (nI_pos (by omega)), if_pos (by rw [e15, i16]; exact (nI_ltI (by omega) (by decide)).mpr hd), fails_0, Option.bind_some, if_pos rfl, p_mchoices (by omega), Option.bind_some, gd_in (nI_ne0 (by omega) (by omega)), pk_rem (by omega) (by omega) (by omega), i16m, gd_nI (by omega) (by decide), gd_nI (by omega) (by decide), nI_clamp (by omega), eq]
          split <;> rfl
end QU
end
section
/-! always and isSame -/
theorem and_full {x m : Int64} : x &&& m = m ↔ ∀ j, j < 64 → bL m j = true → bL x j = true := by
  rw [← Int64.toBitVec_inj, Int64.toBitVec_and]
  constructor
  · intro h j hj hm
    have e : (x.toBitVec &&& m.toBitVec).getLsbD j = m.toBitVec.getLsbD j := by rw [h]
    rw [BitVec.getLsbD_and] at e
    have hm' : m.toBitVec.getLsbD j = true := hm
    rw [hm', Bool.and_true] at e
    exact e
  · intro h
    apply BitVec.eq_of_getLsbD_eq
    intro j hj
    rw [BitVec.getLsbD_and]
    cases e : m.toBitVec.getLsbD j with
    | false => rw [Bool.and_false]
    | true => rw [show x.toBitVec.getLsbD j = true from h j hj e]; rfl
theorem cnt_two {R p q : Nat → Bool} : ∀ {l : List Nat}, (∀ a, a ∈ l → p a = true → q a = false) → l.countP (fun a => R a && p a) + l.countP (fun a => R a && q a) = l.countP (fun a => R a && (p a || q a))
  | [], _ => rfl
  | a :: l, h => by
    have ih := cnt_two (R := R) (p := p) (q := q) (l := l) (fun b hb => h b (List.mem_cons_of_mem _ hb))
    have ha := h a List.mem_cons_self
    rw [List.countP_cons, List.countP_cons, List.countP_cons, ← ih]
    cases e1 : R a <;> cases e2 : p a <;> cases e3 : q a <;> simp_all <;> omega
section QH
variable {gs : List Nat} {fs : List (Nat × Nat)} {os : List Nat} {pn : Nat → Int32} {pt : Int32} {se va : Nat → Int64} {ns di od pa st : Nat → Int32} {sp : Nat → Int64} {wd re du dS dC : Int32}
  {mse mne : Nat → Int32} {mon : Nat → Int64} {mdi map : Nat → Int32}
/-- the pair number a is of a reached state and a choice with which the net settles -/
def RSa (gs : List Nat) (fs : List (Nat × Nat)) (a : Nat) : Bool := decide (a / 16 ∈ (WG gs fs).1) && (decide (a % 16 < 2 ^ gs.count 0) && stN gs fs (a / 16) (a % 16))
def hcB (on : Nat → Int64) (m : Int64) (x : Int32) (a : Nat) : Bool := if x = 0 then decide (on a &&& m = 0) else decide (on a &&& m = m)
theorem p_heldL (hw : WF gs fs os) (hM : EM gs fs os mse mne mon mdi map) {m : Int64} {x : Int32} : ∀ (k n i q : Nat), i + k = 16 * 2 ^ gs.count 1 → k < n → L_Mod_held_6 (nI (gs.count 0)) (nI (gs.count 1)) mse mon mdi m x n (nI q) (nI i) = some (nI (q + (List.range' i k).countP (fun a => RSa gs fs a && hcB mon m x a))) := by
  have hI := hw.2.1
  have hK := hw.2.2.1
  have hp4 := pow4 hI
  have hp8 := pow8 hK
  intro k
  induction k with
  | zero =>
    intro n i q h1 h2
    obtain ⟨n, rfl⟩ : ∃ z, n = z + 1 := ⟨n - 1, by omega⟩
    rw [L_Mod_held_6, p_mstates hK, Option.bind_some, i16, pk_mul, if_pos ((nI_leI (by omega) (by omega)).mpr (by omega))]
    rfl
  | succ k ih =>
    intro n i q h1 h2
    obtain ⟨n, rfl⟩ : ∃ z, n = z + 1 := ⟨n - 1, by omega⟩
    have hq : i / 16 < 2 ^ gs.count 1 := by omega
    have hd := WG_di hw hM.2.1 (i / 16) hq
    rw [rdK, decide_eq_false_iff_not] at hd
    have no : RSa gs fs i = false → L_Mod_held_6 (nI (gs.count 0)) (nI (gs.count 1)) mse mon mdi m x n (nI q) (nI (i + 1)) = some (nI (q + (List.range' i (k + 1)).countP (fun a => RSa gs fs a && hcB mon m x a))) := by
      intro h
      rw [ih n (i + 1) q (by omega) (by omega), List.range'_succ, List.countP_cons, h]
      rfl
    have yes : RSa gs fs i = true → (if x = (0 : Int32) then (if lg_cmp (mon i &&& m) (0 : Int64) = (0 : Int32) then (L_Mod_held_6 (nI (gs.count 0)) (nI (gs.count 1)) mse mon mdi m x n (nI (q + 1)) (nI (i + 1))) else (L_Mod_held_6 (nI (gs.count 0)) (nI (gs.count 1)) mse mon mdi m x n (nI q) (nI (i + 1)))) else (if lg_cmp (mon i &&& m) m = (0 : Int32) then (L_Mod_held_6 (nI (gs.count 0)) (nI (gs.count 1)) mse mon mdi m x n (nI (q + 1)) (nI (i + 1))) else (L_Mod_held_6 (nI (gs.count 0)) (nI (gs.count 1)) mse mon mdi m x n (nI q) (nI (i + 1))))) = some (nI (q + (List.range' i (k + 1)).countP (fun a => RSa gs fs a && hcB mon m x a))) := by
      intro h
      simp only [lg_cmp0]
      rw [ih n (i + 1) q (by omega) (by omega), ih n (i + 1) (q + 1) (by omega) (by omega), List.range'_succ, List.countP_cons, h, hcB, Bool.true_and]
      by_cases c : x = 0
      · rw [if_pos c, if_pos c]
        by_cases c2 : mon i &&& m = 0
        · rw [if_pos c2, if_pos (decide_eq_true c2), Nat.add_assoc, Nat.add_comm 1]
        · rw [if_neg c2, if_neg (by simpa using c2)]; rfl
      · rw [if_neg c, if_neg c]
        by_cases c2 : mon i &&& m = m
        · rw [if_pos c2, if_pos (decide_eq_true c2), Nat.add_assoc, Nat.add_comm 1]
        · rw [if_neg c2, if_neg (by simpa using c2)]; rfl
    have hrem : nI i - nI (i / 16) * nI 16 = nI (i % 16) := by rw [pk_mul, pk_sub (by omega)]; congr 1; omega
    rw [L_Mod_held_6, p_mstates hK, Option.bind_some, i16, pk_mul, if_neg (by rw [nI_leI (by omega) (by omega)]; omega), ← i16, gd_in (by decide), i16, pk_div (by omega) (by omega) (by omega), gd_nI (show i / 16 < 256 by omega) (by decide)]
    simp only [sx_let, hrem, gd_nI (show i < 4096 by omega) (show 4096 < 2 ^ 31 by decide), nI_clamp (show i < 2 ^ 31 by omega), nI_clamp (show i / 16 < 2 ^ 31 by omega), p_mchoices (show gs.count 0 ≤ 8 by omega), Option.bind_some, nI_1, if_true, if_neg (show ¬ (1 : Int32) = 0 by decide), nI_leI (show 2 ^ gs.count 0 < 2 ^ 31 by omega) (show i % 16 < 2 ^ 31 by omega)]
    by_cases c1 : mdi (i / 16) < 0
    · rw [if_pos c1]
      exact no (by rw [RSa, decide_eq_false (hd.mp c1)]; rfl)
    · rw [if_neg c1, gd_in (by decide)]
      have hin : i / 16 ∈ (WG gs fs).1 := Classical.byContradiction fun z => c1 (hd.mpr z)
      by_cases c2 : 2 ^ gs.count 0 ≤ i % 16
      · rw [if_pos c2]
        exact no (by rw [RSa, decide_eq_false (show ¬ i % 16 < 2 ^ gs.count 0 by omega)]; simp)
      · rw [if_neg c2]
        have hT := (hM.1 (i / 16) hq (i % 16) (by omega)).1
        rw [show 16 * (i / 16) + i % 16 = i by omega] at hT
        rw [hT]
        cases e : stN gs fs (i / 16) (i % 16) with
        | false =>
          rw [if_pos (by simp)]
          exact no (by rw [RSa, e]; simp)
        | true =>
          rw [if_neg (by simp)]
          exact yes (by rw [RSa, e, decide_eq_true hin, decide_eq_true (show i % 16 < 2 ^ gs.count 0 by omega)]; rfl)
theorem p_held (hw : WF gs fs os) (hM : EM gs fs os mse mne mon mdi map) (m : Int64) (x : Int32) : m_Mod_held (nI (gs.count 0)) (nI (gs.count 1)) mse mon mdi m x = some (nI ((List.range' 0 (16 * 2 ^ gs.count 1)).countP (fun a => RSa gs fs a && hcB mon m x a))) := by
  have hp8 := pow8 hw.2.2.1
  have e := p_heldL hw hM (m := m) (x := x) (16 * 2 ^ gs.count 1) fu 0 0 (by omega) (by rw [fu]; omega)
  have e' : L_Mod_held_6 (nI (gs.count 0)) (nI (gs.count 1)) mse mon mdi m x fu (0 : Int32) (0 : Int32) = _ := e
  rw [m_Mod_held, e', Option.bind_some, Nat.zero_add]
theorem cnt_le16 {S : Nat} (hS : S ≤ 256) (p : Nat → Bool) : (List.range' 0 (16 * S)).countP p ≤ 4096 := by
  have := List.countP_le_length (p := p) (l := List.range' 0 (16 * S))
  rw [List.length_range'] at this
  omega
theorem cnt_pos {S : Nat} {p : Nat → Bool} : 0 < (List.range' 0 (16 * S)).countP p ↔ ∃ a, a < 16 * S ∧ p a = true := by
  rw [List.countP_pos_iff]
  constructor
  · intro ⟨a, ha, h⟩
    have := List.mem_range'_1.mp ha
    exact ⟨a, by omega, h⟩
  · intro ⟨a, ha, h⟩
    exact ⟨a, List.mem_range'_1.mpr ⟨by omega, by omega⟩, h⟩
theorem RSa_on (hw : WF gs fs os) (hM : EM gs fs os mse mne mon mdi map) {a g : Nat} (h : RSa gs fs a = true) (hg : g < gs.length) : bL (mon a) g = vaN gs fs g (a / 16) (a % 16) := by
  rw [RSa, Bool.and_eq_true, Bool.and_eq_true, decide_eq_true_eq, decide_eq_true_eq] at h
  have hs := ((WG_IA (fs := fs) hw).2.1 _ h.1).1
  have := (hM.1 (a / 16) hs (a % 16) h.2.1).2.2 g hg
  rw [show 16 * (a / 16) + a % 16 = a by omega] at this
  exact this
/-- pairs by number, and by state and choice -/
theorem RSa_ex (hw : WF gs fs os) {Q : Nat → Nat → Prop} (hQ : ∀ s c, s < 256 → c < 16 → (Q s c ↔ Q s (c % 2 ^ gs.count 0))) : (∃ a, a < 16 * 2 ^ gs.count 1 ∧ RSa gs fs a = true ∧ Q (a / 16) (a % 16)) ↔ ∃ s, s ∈ (WG gs fs).1 ∧ ∃ c, c < 16 ∧ stN gs fs s c = true ∧ Q s c := by
  have hp4 := pow4 hw.2.1
  have hp8 := pow8 hw.2.2.1
  have hI := WG_IA (fs := fs) hw
  constructor
  · intro ⟨a, _, h, q⟩
    rw [RSa, Bool.and_eq_true, Bool.and_eq_true, decide_eq_true_eq, decide_eq_true_eq] at h
    exact ⟨a / 16, h.1, a % 16, by omega, h.2.2, q⟩
  · intro ⟨s, hs, c, hc, h, q⟩
    have hsS := (hI.2.1 s hs).1
    have hm : c % 2 ^ gs.count 0 < 2 ^ gs.count 0 := Nat.mod_lt _ (by omega)
    have e1 : (16 * s + c % 2 ^ gs.count 0) / 16 = s := by omega
    have e2 : (16 * s + c % 2 ^ gs.count 0) % 16 = c % 2 ^ gs.count 0 := by omega
    refine ⟨16 * s + c % 2 ^ gs.count 0, by omega, ?_, ?_⟩
    · rw [RSa, e1, e2, decide_eq_true hs, decide_eq_true hm, ← stN_mod hw (by omega) hc, h]; rfl
    · rw [e1, e2]; exact (hQ s c (by omega) hc).mp q
theorem TI_sb (hw : WF gs fs os) (hT : TI gs fs (nvF gs fs) se va ns) {s c : Nat} (hs : s < 2 ^ gs.count 1) : sb se s c = stN gs fs s c := by
  rw [sb, stN, (hT.1 _ (wt_of hs)).1]
theorem TI_vb (hw : WF gs fs os) (hT : TI gs fs (nvF gs fs) se va ns) {s c g : Nat} (hs : s < 2 ^ gs.count 1) (hg : g < gs.length) : vb va g s c = vaN gs fs g s c := by
  rw [vb, vaN, (hT.1 _ (wt_of hs)).2 g hg]
theorem bit_iff {x : Int64} {g : Nat} (hg : g < 60) : (x &&& ((1 : Int64) <<< ((nI g).toInt64 &&& 63)) = ((1 : Int64) <<< ((nI g).toInt64 &&& 63)) ↔ bL x g = true) ∧ (x &&& ((1 : Int64) <<< ((nI g).toInt64 &&& 63)) = 0 ↔ bL x g = false) := by
  constructor
  · rw [and_full]
    constructor
    · intro h; exact h g (by omega) (by rw [shl1_bit hg (by omega)]; simp)
    · intro h j hj q
      rw [shl1_bit hg hj, decide_eq_true_eq] at q
      rw [q]; exact h
  · rw [bL_and0]
    constructor
    · intro h
      have := h g (by omega)
      rw [shl1_bit hg (by omega)] at this
      simpa using this
    · intro h j hj q
      rw [shl1_bit hg hj, decide_eq_true_eq] at q
      rw [q.2, h] at q
      exact absurd q.1 (by simp)
theorem q_always (hw : WF gs fs os) {x y : Int32} (hX : XX gs fs os pn pt se va ns di od pa st sp wd re du dS dC mse mne mon mdi map x y) (co : Int32) (out : Nat → Int64) (a : Int32) :
    ∃ k o b, m_Law_always (nI gs.length) va sp wd x out a = some (k, o) ∧ m_Mod_always co (nI gs.length) (nI (gs.count 0)) (nI (gs.count 1)) y mse mon mdi a = some (b, k) ∧ (k = 0 → o 0 = b.toInt64) := by
  have hG := hw.1
  have hp8 := pow8 hw.2.2.1
  rw [m_Law_always, m_Exp_always, m_Mod_always]
  simp only [sx_let]
  rcases ix_cases a (n := gs.length) (by omega) with h | ⟨g, hg, rfl⟩
  · obtain ⟨e1, e2⟩ := rg_no h
    rcases hX with ⟨rfl, rfl⟩ | ⟨rfl, rfl, _, _⟩
    · exact ⟨1, out, 0, by rw [rx_0]; rfl, by rw [if_pos rfl, e2, Option.bind_some, if_pos rfl, fails_1]; rfl, fun q => absurd q (by decide)⟩
    · exact ⟨2, out, 0, by rw [rx_1, Option.bind_some, se_r, e1]; rfl, by rw [if_neg (by decide), e2, Option.bind_some, if_pos rfl, fails_2]; rfl, fun q => absurd q (by decide)⟩
  · obtain ⟨e1, e2⟩ := rg_yes hG hg
    rcases hX with ⟨rfl, rfl⟩ | ⟨rfl, rfl, hE, hM⟩
    · exact ⟨1, out, 0, by rw [rx_0]; rfl, by rw [if_pos rfl, e2, Option.bind_some, if_neg (by decide), fails_1]; rfl, fun q => absurd q (by decide)⟩
    · have hI := WG_IA (fs := fs) hw
      have hg60 : g < 60 := by omega
      have hwd : wd = nI (wt (gs.count 1)) := hE.2.2.2.2.1
      have hl : ∀ s, s ∈ (WG gs fs).1 → s / 4 < wt (gs.count 1) := fun s hs => wt_of (hI.2.1 s hs).1
      have ev := fun z => p_isEver (va := va) (wt_le hw.2.2.1).2 hg60 hE.2.2.2.1 hl z
      have conv : ∀ z, (∃ s, s ∈ (WG gs fs).1 ∧ ∃ c, c < 16 ∧ sb se s c = true ∧ vb va g s c = z) ↔ ∃ q, q < 16 * 2 ^ gs.count 1 ∧ RSa gs fs q = true ∧ vaN gs fs g (q / 16) (q % 16) = z := by
        intro z
        rw [RSa_ex hw (Q := fun s c => vaN gs fs g s c = z) (fun s c hs hc => by rw [vaN_mod hw hs hc])]
        constructor
        · intro ⟨s, hs, c, hc, h1, h2⟩
          have hsS := (hI.2.1 s hs).1
          rw [TI_sb hw hE.1 hsS] at h1
          rw [TI_vb hw hE.1 hsS hg] at h2
          exact ⟨s, hs, c, hc, h1, h2⟩
        · intro ⟨s, hs, c, hc, h1, h2⟩
          have hsS := (hI.2.1 s hs).1
          rw [← TI_sb hw hE.1 hsS] at h1
          rw [← TI_vb hw hE.1 hsS hg] at h2
          exact ⟨s, hs, c, hc, h1, h2⟩
      -- the reference's two counts
      have hU : 0 < (List.range' 0 (16 * 2 ^ gs.count 1)).countP (fun a => RSa gs fs a && hcB mon ((1 : Int64) <<< ((nI g).toInt64 &&& 63)) 1 a) ↔ ∃ q, q < 16 * 2 ^ gs.count 1 ∧ RSa gs fs q = true ∧ vaN gs fs g (q / 16) (q % 16) = true := by
        rw [cnt_pos]
        constructor
        · intro ⟨q, hq, h⟩
          rw [Bool.and_eq_true, hcB, if_neg (by decide), decide_eq_true_eq, (bit_iff hg60).1] at h
          exact ⟨q, hq, h.1, by rw [← RSa_on hw hM h.1 hg]; exact h.2⟩
        · intro ⟨q, hq, h, h2⟩
          refine ⟨q, hq, ?_⟩
          rw [Bool.and_eq_true, hcB, if_neg (by decide), decide_eq_true_eq, (bit_iff hg60).1]
          exact ⟨h, by rw [RSa_on hw hM h hg]; exact h2⟩
      have hD : 0 < (List.range' 0 (16 * 2 ^ gs.count 1)).countP (fun a => RSa gs fs a && hcB mon ((1 : Int64) <<< ((nI g).toInt64 &&& 63)) 0 a) ↔ ∃ q, q < 16 * 2 ^ gs.count 1 ∧ RSa gs fs q = true ∧ vaN gs fs g (q / 16) (q % 16) = false := by
        rw [cnt_pos]
        constructor
        · intro ⟨q, hq, h⟩
          rw [Bool.and_eq_true, hcB, if_pos rfl, decide_eq_true_eq, (bit_iff hg60).2] at h
          exact ⟨q, hq, h.1, by rw [← RSa_on hw hM h.1 hg]; exact h.2⟩
        · intro ⟨q, hq, h, h2⟩
          refine ⟨q, hq, ?_⟩
          rw [Bool.and_eq_true, hcB, if_pos rfl, decide_eq_true_eq, (bit_iff hg60).2]
          exact ⟨h, by rw [RSa_on hw hM h hg]; exact h2⟩
      have b1 := cnt_le16 hp8.2 (fun a => RSa gs fs a && hcB mon ((1 : Int64) <<< ((nI g).toInt64 &&& 63)) 1 a)
      have b0 := cnt_le16 hp8.2 (fun a => RSa gs fs a && hcB mon ((1 : Int64) <<< ((nI g).toInt64 &&& 63)) 0 a)
      have h1 := p_held hw hM ((1 : Int64) <<< ((nI g).toInt64 &&& 63)) 1
      have h0 := p_held hw hM ((1 : Int64) <<< ((nI g).toInt64 &&& 63)) 0
      generalize (List.range' 0 (16 * 2 ^ gs.count 1)).countP (fun a => RSa gs fs a && hcB mon ((1 : Int64) <<< ((nI g).toInt64 &&& 63)) 1 a) = U at *
      generalize (List.range' 0 (16 * 2 ^ gs.count 1)).countP (fun a => RSa gs fs a && hcB mon ((1 : Int64) <<< ((nI g).toInt64 &&& 63)) 0 a) = D at *
      have eU : (m_Wlk_isEver va sp wd (nI g) 1 = some 1 ∧ 0 < U) ∨ (m_Wlk_isEver va sp wd (nI g) 1 = some 0 ∧ U = 0) := by
        rw [hwd]
        rcases ev true with ⟨p, q⟩ | ⟨p, q⟩
        · exact Or.inl ⟨p, hU.mpr ((conv true).mp q)⟩
        · refine Or.inr ⟨p, ?_⟩
          rcases Nat.eq_zero_or_pos U with z | z
          · exact z
          · obtain ⟨s, hs, c, hc, r1, r2⟩ := (conv true).mpr (hU.mp z)
            exact absurd r2 (q s hs c hc r1)
      have eD : (m_Wlk_isEver va sp wd (nI g) 0 = some 1 ∧ 0 < D) ∨ (m_Wlk_isEver va sp wd (nI g) 0 = some 0 ∧ D = 0) := by
        rw [hwd]
        rcases ev false with ⟨p, q⟩ | ⟨p, q⟩
        · exact Or.inl ⟨p, hD.mpr ((conv false).mp q)⟩
        · refine Or.inr ⟨p, ?_⟩
          rcases Nat.eq_zero_or_pos D with z | z
          · exact z
          · obtain ⟨s, hs, c, hc, r1, r2⟩ := (conv false).mpr (hD.mp z)
            exact absurd r2 (q s hs c hc r1)
      have le0 : ∀ n : Nat, n ≤ 4096 → ((nI n ≤ (0 : Int32)) ↔ n = 0) := fun n hn => by
        rw [i0, nI_leI (by omega) (by decide)]; omega
      rw [rx_1, Option.bind_some, se_r, e1, Option.bind_some, se_r, if_neg (by decide), e2, Option.bind_some, if_neg (by decide), fails_0, Option.bind_some, if_pos rfl, h1, Option.bind_some, h0, Option.bind_some]
      simp only [le0 U b1, le0 D b0, q0 (show U < 2 ^ 31 by omega), q0 (show D < 2 ^ 31 by omega)]
      rcases eU with ⟨u1, u2⟩ | ⟨u1, u2⟩ <;> rcases eD with ⟨d1, d2⟩ | ⟨d1, d2⟩
      · rw [u1, d1, Option.bind_some, Option.bind_some, if_pos rfl, if_neg (show ¬ U = 0 by omega), if_neg (show ¬ D = 0 by omega), if_neg (show ¬ U = 0 by omega)]
        refine ⟨0, vp_updL out 0 (Int32.toInt64 2), 2, ?_, by first | rfl | (split <;> rfl), fun _ => by rw [out0]⟩
        rw [Option.bind_some, se_r, in01, cl0]
      · rw [u1, d1, Option.bind_some, Option.bind_some, if_neg (by decide), if_neg (by decide), if_neg (show ¬ U = 0 by omega), if_pos d2]
        refine ⟨0, vp_updL out 0 (Int32.toInt64 1), 1, ?_, rfl, fun _ => by rw [out0]⟩
        rw [Option.bind_some, se_r, in01, cl0]
      · rw [u1, d1, Option.bind_some, Option.bind_some, if_neg (by decide), if_pos rfl, if_pos u2, if_neg (show ¬ D = 0 by omega), if_pos u2]
        refine ⟨0, vp_updL out 0 (Int32.toInt64 0), 0, ?_, rfl, fun _ => by rw [out0]⟩
        rw [Option.bind_some, se_r, in01, cl0]
      · rw [u1, d1, Option.bind_some, Option.bind_some, if_pos rfl, if_pos u2, if_pos d2]
        refine ⟨0, vp_updL out 0 (Int32.toInt64 2), 2, ?_, by first | rfl | (split <;> rfl), fun _ => by rw [out0]⟩
        rw [Option.bind_some, se_r, in01, cl0]
end QH
end
section
/-! isSame; the reference's doubt -/
theorem two_iff {x : Int64} {g h : Nat} (hg : g < 60) (hh : h < 60) : (x &&& (((1 : Int64) <<< ((nI g).toInt64 &&& 63)) ||| ((1 : Int64) <<< ((nI h).toInt64 &&& 63))) = (((1 : Int64) <<< ((nI g).toInt64 &&& 63)) ||| ((1 : Int64) <<< ((nI h).toInt64 &&& 63))) ↔ (bL x g = true ∧ bL x h = true)) ∧ (x &&& (((1 : Int64) <<< ((nI g).toInt64 &&& 63)) ||| ((1 : Int64) <<< ((nI h).toInt64 &&& 63))) = 0 ↔ (bL x g = false ∧ bL x h = false)) := by
  have key : ∀ j, j < 64 → (bL (((1 : Int64) <<< ((nI g).toInt64 &&& 63)) ||| ((1 : Int64) <<< ((nI h).toInt64 &&& 63))) j = true ↔ (j = g ∨ j = h)) := by
    intro j hj
    rw [bL_or, shl1_bit hg hj, shl1_bit hh hj, Bool.or_eq_true, decide_eq_true_eq, decide_eq_true_eq]
  constructor
  · rw [and_full]
    constructor
    · intro q; exact ⟨q g (by omega) ((key g (by omega)).mpr (Or.inl rfl)), q h (by omega) ((key h (by omega)).mpr (Or.inr rfl))⟩
    · intro q j hj z
      rcases (key j hj).mp z with e | e
      · rw [e]; exact q.1
      · rw [e]; exact q.2
  · rw [bL_and0]
    constructor
    · intro q
      have a := q g (by omega)
      have b := q h (by omega)
      rw [(key g (by omega)).mpr (Or.inl rfl)] at a
      rw [(key h (by omega)).mpr (Or.inr rfl)] at b
      exact ⟨by simpa using a, by simpa using b⟩
    · intro q j hj z
      rcases (key j hj).mp z.2 with e | e
      · rw [e, q.1] at z; exact absurd z.1 (by simp)
      · rw [e, q.2] at z; exact absurd z.1 (by simp)
section QS
variable {gs : List Nat} {fs : List (Nat × Nat)} {os : List Nat} {pn : Nat → Int32} {pt : Int32} {se va : Nat → Int64} {ns di od pa st : Nat → Int32} {sp : Nat → Int64} {wd re du dS dC : Int32}
  {mse mne : Nat → Int32} {mon : Nat → Int64} {mdi map : Nat → Int32}
theorem q_isSame (hw : WF gs fs os) {x y : Int32} (hX : XX gs fs os pn pt se va ns di od pa st sp wd re du dS dC mse mne mon mdi map x y) (co : Int32) (out : Nat → Int64) (a c : Int32) :
    ∃ k o b, m_Law_isSame (nI gs.length) va sp wd x out a c = some (k, o) ∧ m_Mod_isSame co (nI gs.length) (nI (gs.count 0)) (nI (gs.count 1)) y mse mon mdi a c = some (b, k) ∧ (b = 0 ∨ b = 1) ∧ (k = 0 → o 0 = b.toInt64) := by
  have hG := hw.1
  have hp8 := pow8 hw.2.2.1
  rw [m_Law_isSame, m_Exp_isSame, m_Mod_isSame]
  simp only [sx_let]
  rcases hX with ⟨rfl, rfl⟩ | ⟨rfl, rfl, hE, hM⟩
  · refine ⟨1, out, 0, by rw [rx_0]; rfl, ?_, Or.inl rfl, fun q => absurd q (by decide)⟩
    rw [if_pos rfl]
    rcases ix_cases a (n := gs.length) (by omega) with h | ⟨g, hg, rfl⟩
    · rw [(rg_no h).2, Option.bind_some, if_pos rfl, fails_1]; rfl
    · rw [(rg_yes hG hg).2, Option.bind_some, if_neg (by decide)]
      rcases ix_cases c (n := gs.length) (by omega) with h | ⟨j, hj, rfl⟩
      · rw [(rg_no h).2, Option.bind_some, if_pos rfl, fails_1]; rfl
      · rw [(rg_yes hG hj).2, Option.bind_some, if_neg (by decide), fails_1]; rfl
  · rcases ix_cases a (n := gs.length) (by omega) with h | ⟨g, hg, rfl⟩
    · obtain ⟨e1, e2⟩ := rg_no h
      exact ⟨2, out, 0, by rw [rx_1, Option.bind_some, se_r, e1]; rfl, by rw [if_neg (by decide), e2, Option.bind_some, if_pos rfl, fails_2]; rfl, Or.inl rfl, fun q => absurd q (by decide)⟩
    · obtain ⟨e1, e2⟩ := rg_yes hG hg
      rcases ix_cases c (n := gs.length) (by omega) with h | ⟨j, hj, rfl⟩
      · obtain ⟨f1, f2⟩ := rg_no h
        exact ⟨2, out, 0, by rw [rx_1, Option.bind_some, se_r, e1, Option.bind_some, se_r, f1]; rfl, by rw [if_neg (by decide), e2, Option.bind_some, if_neg (by decide), f2, Option.bind_some, if_pos rfl, fails_2]; rfl, Or.inl rfl, fun q => absurd q (by decide)⟩
      · obtain ⟨f1, f2⟩ := rg_yes hG hj
        have hI := WG_IA (fs := fs) hw
        have hg60 : g < 60 := by omega
        have hj60 : j < 60 := by omega
        have hwd : wd = nI (wt (gs.count 1)) := hE.2.2.2.2.1
        have hl : ∀ s, s ∈ (WG gs fs).1 → s / 4 < wt (gs.count 1) := fun s hs => wt_of (hI.2.1 s hs).1
        have ev := p_everDiffer (va := va) (wt_le hw.2.2.1).2 hg60 hj60 hE.2.2.2.1 hl
        have conv : (∃ s, s ∈ (WG gs fs).1 ∧ ∃ c, c < 16 ∧ sb se s c = true ∧ vb va g s c ≠ vb va j s c) ↔ ∃ q, q < 16 * 2 ^ gs.count 1 ∧ RSa gs fs q = true ∧ vaN gs fs g (q / 16) (q % 16) ≠ vaN gs fs j (q / 16) (q % 16) := by
          rw [RSa_ex hw (Q := fun s c => vaN gs fs g s c ≠ vaN gs fs j s c) (fun s c hs hc => by rw [vaN_mod hw hs hc, vaN_mod (g := j) hw hs hc])]
          constructor
          · intro ⟨s, hs, c, hc, h1, h2⟩
            have hsS := (hI.2.1 s hs).1
            rw [TI_sb hw hE.1 hsS] at h1
            rw [TI_vb hw hE.1 hsS hg, TI_vb hw hE.1 hsS hj] at h2
            exact ⟨s, hs, c, hc, h1, h2⟩
          · intro ⟨s, hs, c, hc, h1, h2⟩
            have hsS := (hI.2.1 s hs).1
            rw [← TI_sb hw hE.1 hsS] at h1
            rw [← TI_vb hw hE.1 hsS hg, ← TI_vb hw hE.1 hsS hj] at h2
            exact ⟨s, hs, c, hc, h1, h2⟩
        have h1 := p_held hw hM (((1 : Int64) <<< ((nI g).toInt64 &&& 63)) ||| ((1 : Int64) <<< ((nI j).toInt64 &&& 63))) 1
        have h0 := p_held hw hM (((1 : Int64) <<< ((nI g).toInt64 &&& 63)) ||| ((1 : Int64) <<< ((nI j).toInt64 &&& 63))) 0
        have hz := p_held hw hM 0 1
        have b1 := cnt_le16 hp8.2 (fun a => RSa gs fs a && hcB mon (((1 : Int64) <<< ((nI g).toInt64 &&& 63)) ||| ((1 : Int64) <<< ((nI j).toInt64 &&& 63))) 1 a)
        have b0 := cnt_le16 hp8.2 (fun a => RSa gs fs a && hcB mon (((1 : Int64) <<< ((nI g).toInt64 &&& 63)) ||| ((1 : Int64) <<< ((nI j).toInt64 &&& 63))) 0 a)
        have bz := cnt_le16 hp8.2 (fun a => RSa gs fs a && hcB mon 0 1 a)
        have c1 : ∀ a, hcB mon (((1 : Int64) <<< ((nI g).toInt64 &&& 63)) ||| ((1 : Int64) <<< ((nI j).toInt64 &&& 63))) 1 a = (bL (mon a) g && bL (mon a) j) := by
          intro a
          rw [hcB, if_neg (by decide)]
          apply Bool.eq_iff_iff.mpr
          rw [decide_eq_true_eq, (two_iff hg60 hj60).1, Bool.and_eq_true]
        have c0 : ∀ a, hcB mon (((1 : Int64) <<< ((nI g).toInt64 &&& 63)) ||| ((1 : Int64) <<< ((nI j).toInt64 &&& 63))) 0 a = (!bL (mon a) g && !bL (mon a) j) := by
          intro a
          rw [hcB, if_pos rfl]
          apply Bool.eq_iff_iff.mpr
          rw [decide_eq_true_eq, (two_iff hg60 hj60).2, Bool.and_eq_true]
          simp
        have cz : ∀ a, hcB mon 0 1 a = true := by
          intro a
          rw [hcB, if_neg (by decide), decide_eq_true_eq, and_full]
          intro q _ w
          rw [bL_0] at w; cases w
        have two := cnt_two (R := RSa gs fs) (p := hcB mon (((1 : Int64) <<< ((nI g).toInt64 &&& 63)) ||| ((1 : Int64) <<< ((nI j).toInt64 &&& 63))) 1) (q := hcB mon (((1 : Int64) <<< ((nI g).toInt64 &&& 63)) ||| ((1 : Int64) <<< ((nI j).toInt64 &&& 63))) 0) (l := List.range' 0 (16 * 2 ^ gs.count 1)) (fun a _ z => by
          rw [c1] at z
          rw [c0]
          rw [Bool.and_eq_true] at z
          rw [z.1]; rfl)
        have same : ((List.range' 0 (16 * 2 ^ gs.count 1)).countP (fun a => RSa gs fs a && hcB mon (((1 : Int64) <<< ((nI g).toInt64 &&& 63)) ||| ((1 : Int64) <<< ((nI j).toInt64 &&& 63))) 1 a) + (List.range' 0 (16 * 2 ^ gs.count 1)).countP (fun a => RSa gs fs a && hcB mon (((1 : Int64) <<< ((nI g).toInt64 &&& 63)) ||| ((1 : Int64) <<< ((nI j).toInt64 &&& 63))) 0 a) = (List.range' 0 (16 * 2 ^ gs.count 1)).countP (fun a => RSa gs fs a && hcB mon 0 1 a)) ↔ ¬ ∃ q, q < 16 * 2 ^ gs.count 1 ∧ RSa gs fs q = true ∧ vaN gs fs g (q / 16) (q % 16) ≠ vaN gs fs j (q / 16) (q % 16) := by
          rw [two]
          constructor
          · intro e ⟨q, hq, hr, hne⟩
            have := cnt_eq (fun a _ z => by
              rw [Bool.and_eq_true] at z ⊢
              exact ⟨z.1, cz a⟩) e q (List.mem_range'_1.mpr ⟨by omega, by omega⟩) (by rw [hr, cz]; rfl)
            rw [hr, c1, c0, RSa_on hw hM hr hg, RSa_on hw hM hr hj] at this
            apply hne
            revert this
            cases vaN gs fs g (q / 16) (q % 16) <;> cases vaN gs fs j (q / 16) (q % 16) <;> decide
          · intro e
            apply Nat.le_antisymm
            · exact cnt_le (fun a _ z => by
                rw [Bool.and_eq_true] at z ⊢
                exact ⟨z.1, cz a⟩)
            · refine cnt_le (fun a ha z => ?_)
              rw [Bool.and_eq_true] at z ⊢
              refine ⟨z.1, ?_⟩
              have ha2 := List.mem_range'_1.mp ha
              rw [c1, c0, RSa_on hw hM z.1 hg, RSa_on hw hM z.1 hj]
              have : vaN gs fs g (a / 16) (a % 16) = vaN gs fs j (a / 16) (a % 16) := Classical.byContradiction fun w => e ⟨a, by omega, z.1, w⟩
              rw [this]
              cases vaN gs fs j (a / 16) (a % 16) <;> rfl
        generalize (List.range' 0 (16 * 2 ^ gs.count 1)).countP (fun a => RSa gs fs a && hcB mon (((1 : Int64) <<< ((nI g).toInt64 &&& 63)) ||| ((1 : Int64) <<< ((nI j).toInt64 &&& 63))) 1 a) = U at *
        generalize (List.range' 0 (16 * 2 ^ gs.count 1)).countP (fun a => RSa gs fs a && hcB mon (((1 : Int64) <<< ((nI g).toInt64 &&& 63)) ||| ((1 : Int64) <<< ((nI j).toInt64 &&& 63))) 0 a) = D at *
        generalize (List.range' 0 (16 * 2 ^ gs.count 1)).countP (fun a => RSa gs fs a && hcB mon 0 1 a) = T at *
        rw [rx_1, Option.bind_some, se_r, e1, Option.bind_some, se_r, f1, Option.bind_some, se_r, if_neg (by decide), e2, Option.bind_some, if_neg (by decide), f2, Option.bind_some, if_neg (by decide), fails_0, Option.bind_some, if_pos rfl, h1, Option.bind_some, h0, Option.bind_some, hz, Option.bind_some, nI_add, hwd]
        simp only [nI_eq (show U + D < 2 ^ 31 by omega) (show T < 2 ^ 31 by omega), same]
        rcases ev with ⟨p, q⟩ | ⟨p, q⟩
        · rw [p, Option.bind_some, if_neg (by decide), if_neg (fun z => z (conv.mp q)), Option.bind_some, se_r, if_pos rfl, in01, cl0]
          exact ⟨0, _, 0, rfl, rfl, Or.inl rfl, fun _ => by rw [out0]; rfl⟩
        · have hno : ¬ ∃ q, q < 16 * 2 ^ gs.count 1 ∧ RSa gs fs q = true ∧ vaN gs fs g (q / 16) (q % 16) ≠ vaN gs fs j (q / 16) (q % 16) := fun z => by
            obtain ⟨s, hs, c, hc, r1, r2⟩ := conv.mpr z
            exact r2 (q s hs c hc r1)
          rw [p, Option.bind_some, if_pos rfl, if_pos hno, Option.bind_some, se_r, if_neg (by decide), in01, cl0]
          exact ⟨0, _, 1, rfl, rfl, Or.inr rfl, fun _ => by rw [out0]; rfl⟩
/-- a doubt at a distance -/
def PD (gs : List Nat) (fs : List (Nat × Nat)) (d a : Nat) : Prop := a / 16 ∈ (WG gs fs).1 ∧ (WG gs fs).2.1 (a / 16) = d ∧ a % 16 < 2 ^ gs.count 0 ∧ stN gs fs (a / 16) (a % 16) = false
theorem p_d46 (hw : WF gs fs os) (hM : EM gs fs os mse mne mon mdi map) {d : Nat} (hd : d < 1000) : ∀ (k n i : Nat), i + k = 16 * 2 ^ gs.count 1 → k < n →
    (∃ a, i ≤ a ∧ a < 16 * 2 ^ gs.count 1 ∧ PD gs fs d a ∧ (∀ b, i ≤ b → b < a → ¬ PD gs fs d b) ∧ L_Mod_doubt_46 (nI (gs.count 0)) (nI (gs.count 1)) mse mdi (nI d) n (nI i) = some (.inl (nI a))) ∨ ((∀ a, i ≤ a → a < 16 * 2 ^ gs.count 1 → ¬ PD gs fs d a) ∧ L_Mod_doubt_46 (nI (gs.count 0)) (nI (gs.count 1)) mse mdi (nI d) n (nI i) = some (.inr ())) := by
  have hI := hw.2.1
  have hK := hw.2.2.1
  have hp4 := pow4 hI
  have hp8 := pow8 hK
  have hIA := WG_IA (fs := fs) hw
  have hlen := WG_len (fs := fs) hw
  intro k
  induction k with
  | zero =>
    intro n i h1 h2
    obtain ⟨n, rfl⟩ : ∃ z, n = z + 1 := ⟨n - 1, by omega⟩
    rw [L_Mod_doubt_46, p_mstates hK, Option.bind_some, i16, pk_mul, if_pos ((nI_leI (by omega) (by omega)).mpr (by omega))]
    exact Or.inr ⟨fun a h3 h4 => absurd h4 (by omega), rfl⟩
  | succ k ih =>
    intro n i h1 h2
    obtain ⟨n, rfl⟩ : ∃ z, n = z + 1 := ⟨n - 1, by omega⟩
    have hq : i / 16 < 2 ^ gs.count 1 := by omega
    have skip : ¬ PD gs fs d i → (∃ a, i ≤ a ∧ a < 16 * 2 ^ gs.count 1 ∧ PD gs fs d a ∧ (∀ b, i ≤ b → b < a → ¬ PD gs fs d b) ∧ L_Mod_doubt_46 (nI (gs.count 0)) (nI (gs.count 1)) mse mdi (nI d) n (nI (i + 1)) = some (.inl (nI a))) ∨ ((∀ a, i ≤ a → a < 16 * 2 ^ gs.count 1 → ¬ PD gs fs d a) ∧ L_Mod_doubt_46 (nI (gs.count 0)) (nI (gs.count 1)) mse mdi (nI d) n (nI (i + 1)) = some (.inr ())) := by
      intro hno
      rcases ih n (i + 1) (by omega) (by omega) with ⟨a, a1, a2, a3, a4, a5⟩ | ⟨a1, a2⟩
      · refine Or.inl ⟨a, by omega, a2, a3, fun b b1 b2 => ?_, a5⟩
        by_cases z : b = i
        · rw [z]; exact hno
        · exact a4 b (by omega) b2
      · refine Or.inr ⟨fun a b1 b2 => ?_, a2⟩
        by_cases z : a = i
        · rw [z]; exact hno
        · exact a1 a (by omega) b2
    have hrem : nI i - nI (i / 16) * nI 16 = nI (i % 16) := by rw [pk_mul, pk_sub (by omega)]; congr 1; omega
    rw [L_Mod_doubt_46, p_mstates hK, Option.bind_some, i16, pk_mul, if_neg (by rw [nI_leI (by omega) (by omega)]; omega), ← i16, gd_in (by decide), i16, pk_div (by omega) (by omega) (by omega), gd_nI (show i / 16 < 256 by omega) (by decide), nI_clamp (show i / 16 < 2 ^ 31 by omega), hM.2.1 _ hq]
    simp only [hrem, gd_nI (show i < 4096 by omega) (show 4096 < 2 ^ 31 by decide), nI_clamp (show i < 2 ^ 31 by omega), p_mchoices (show gs.count 0 ≤ 8 by omega), Option.bind_some, nI_1, nI_leI (show 2 ^ gs.count 0 < 2 ^ 31 by omega) (show i % 16 < 2 ^ 31 by omega)]
    by_cases c1 : i / 16 ∈ (WG gs fs).1
    · rw [if_pos c1]
      have hdl := (hIA.2.1 _ c1).2
      simp only [nI_eq (show (WG gs fs).2.1 (i / 16) < 2 ^ 31 by omega) (show d < 2 ^ 31 by omega)]
      by_cases c2 : (WG gs fs).2.1 (i / 16) = d
      · rw [if_pos c2, gd_in (by decide)]
        by_cases c3 : 2 ^ gs.count 0 ≤ i % 16
        · rw [if_pos c3]
          exact skip (fun z => by have := z.2.2.1; omega)
        · rw [if_neg c3]
          have hT := (hM.1 (i / 16) hq (i % 16) (by omega)).1
          rw [show 16 * (i / 16) + i % 16 = i by omega] at hT
          rw [hT]
          cases e : stN gs fs (i / 16) (i % 16) with
          | false =>
            rw [if_pos (by simp)]
            exact Or.inl ⟨i, Nat.le_refl _, by omega, ⟨c1, c2, by omega, e⟩, fun b b1 b2 => absurd b2 (by omega), rfl⟩
          | true =>
            rw [if_neg (by simp)]
            exact skip (fun z => by have := z.2.2.2; rw [e] at this; cases this)
      · rw [if_neg c2]
        exact skip (fun z => c2 z.2.1)
    · rw [if_neg c1, if_neg (fun z => m1_ne (by omega) z.symm)]
      exact skip (fun z => c1 z.1)
theorem p_d37 (hw : WF gs fs os) (hM : EM gs fs os mse mne mon mdi map) : ∀ (k n d : Nat), d + k = 256 → k < n →
    (∃ e a, d ≤ e ∧ e < 256 ∧ a < 16 * 2 ^ gs.count 1 ∧ PD gs fs e a ∧ (∀ b, b < a → ¬ PD gs fs e b) ∧ (∀ e2, d ≤ e2 → e2 < e → ∀ b, b < 16 * 2 ^ gs.count 1 → ¬ PD gs fs e2 b) ∧ L_Mod_doubt_37 (nI (gs.count 0)) (nI (gs.count 1)) mse mdi n (nI d) = some (.inl (nI e, nI a))) ∨ ((∀ e, d ≤ e → e < 256 → ∀ a, a < 16 * 2 ^ gs.count 1 → ¬ PD gs fs e a) ∧ L_Mod_doubt_37 (nI (gs.count 0)) (nI (gs.count 1)) mse mdi n (nI d) = some (.inr ())) := by
  have hp8 := pow8 hw.2.2.1
  intro k
  induction k with
  | zero =>
    intro n d h1 h2
    obtain ⟨n, rfl⟩ : ∃ z, n = z + 1 := ⟨n - 1, by omega⟩
    rw [L_Mod_doubt_37, i256, if_pos ((nI_leI (by omega) (by omega)).mpr (by omega))]
    exact Or.inr ⟨fun e h3 h4 => absurd h4 (by omega), rfl⟩
  | succ k ih =>
    intro n d h1 h2
    obtain ⟨n, rfl⟩ : ∃ z, n = z + 1 := ⟨n - 1, by omega⟩
    rw [L_Mod_doubt_37, i256, if_neg (by rw [nI_leI (by omega) (by omega)]; omega)]
    rcases p_d46 hw hM (show d < 1000 by omega) (16 * 2 ^ gs.count 1) fu 0 (by omega) (by rw [fu]; omega) with ⟨a, a1, a2, a3, a4, a5⟩ | ⟨a1, a2⟩
    · have a5' : L_Mod_doubt_46 (nI (gs.count 0)) (nI (gs.count 1)) mse mdi (nI d) fu (0 : Int32) = some (.inl (nI a)) := a5
      rw [a5', Option.bind_some, se_l]
      exact Or.inl ⟨d, a, Nat.le_refl _, by omega, a2, a3, fun b hb => a4 b (Nat.zero_le _) hb, fun e2 h3 h4 => absurd h4 (by omega), rfl⟩
    · have a2' : L_Mod_doubt_46 (nI (gs.count 0)) (nI (gs.count 1)) mse mdi (nI d) fu (0 : Int32) = some (.inr ()) := a2
      rw [a2', Option.bind_some, se_r, nI_1]
      rcases ih n (d + 1) (by omega) (by omega) with ⟨e, a, b1, b2, b3, b4, b5, b6, b7⟩ | ⟨b1, b2⟩
      · refine Or.inl ⟨e, a, by omega, b2, b3, b4, b5, fun e2 h3 h4 => ?_, b7⟩
        by_cases z : e2 = d
        · rw [z]; exact fun b hb => a1 b (Nat.zero_le _) hb
        · exact b6 e2 (by omega) h4
      · refine Or.inr ⟨fun e h3 h4 => ?_, b2⟩
        by_cases z : e = d
        · rw [z]; exact fun b hb => a1 b (Nat.zero_le _) hb
        · exact b1 e (by omega) h4
end QS
end
section
/-! the walk's doubts -/
def DBq (nx : Nat → Nat → Option Nat) (f : Nat → Nat) (D : Option (Nat × Nat)) (Q : Nat → Nat → Prop) : Prop := match D with
  | none => ∀ s c, Q s c → nx s c ≠ none
  | some d => Q d.1 d.2 ∧ nx d.1 d.2 = none ∧ ∀ s c, Q s c → nx s c = none → f d.1 < f s ∨ (f d.1 = f s ∧ (d.1 < s ∨ (d.1 = s ∧ d.2 ≤ c)))
def uN (nx : Nat → Nat → Option Nat) (C s : Nat) : Nat := (List.range' 0 C).countP (fun c => (nx s c).isNone)
section WDB
variable {nx : Nat → Nat → Option Nat} {C : Nat}
theorem DBq_congr {f h : Nat → Nat} {D : Option (Nat × Nat)} {Q P : Nat → Nat → Prop} (hf : ∀ s c, Q s c → f s = h s) (hQ : ∀ s c, Q s c ↔ P s c) (hd : DBq nx f D Q) : DBq nx h D P := by
  cases D with
  | none => exact fun s c q => hd s c ((hQ s c).mpr q)
  | some d =>
    obtain ⟨a, b, c⟩ := hd
    refine ⟨(hQ _ _).mp a, b, fun s e q w => ?_⟩
    have q' := (hQ s e).mpr q
    rw [← hf _ _ a, ← hf _ _ q']
    exact c s e q' w
theorem DB_step {A : WA} {s c : Nat} {Q : Nat → Nat → Prop} (hs : s ∈ A.1) (hQ : ∀ a b, Q a b → a ∈ A.1 ∧ A.2.1 a ≤ A.2.1 s ∧ (a = s → b < c)) (hd : DBq nx A.2.1 A.2.2.2.2.2 Q) : DBq nx (stepA nx s A c).2.1 (stepA nx s A c).2.2.2.2.2 (fun a b => Q a b ∨ (a = s ∧ b = c)) := by
  cases e : nx s c with
  | none =>
    rw [stepA, e]
    dsimp only
    cases e2 : A.2.2.2.2.2 with
    | none =>
      rw [e2] at hd
      refine ⟨Or.inr ⟨rfl, rfl⟩, e, fun a b q w => ?_⟩
      rcases q with q | ⟨q1, q2⟩
      · exact absurd w (hd a b q)
      · rw [q1, q2]; exact Or.inr ⟨rfl, Or.inr ⟨rfl, Nat.le_refl _⟩⟩
    | some d =>
      rw [e2] at hd
      obtain ⟨h1, h2, h3⟩ := hd
      obtain ⟨k1, k2, k3⟩ := hQ _ _ h1
      dsimp only
      by_cases c1 : A.2.1 s = A.2.1 d.1 ∧ s < d.1
      · rw [if_pos c1]
        refine ⟨Or.inr ⟨rfl, rfl⟩, e, fun a b q w => ?_⟩
        dsimp only
        rcases q with q | ⟨q1, q2⟩
        · have := h3 a b q w
          omega
        · rw [q1, q2]; exact Or.inr ⟨rfl, Or.inr ⟨rfl, Nat.le_refl _⟩⟩
      · rw [if_neg c1]
        refine ⟨Or.inl h1, h2, fun a b q w => ?_⟩
        rcases q with q | ⟨q1, q2⟩
        · exact h3 a b q w
        · rw [q1, q2]
          by_cases z : d.1 = s
          · have := k3 z
            exact Or.inr ⟨by rw [z], Or.inr ⟨z, by omega⟩⟩
          · omega
  | some t =>
    rw [stepA, e]
    dsimp only
    have key : ∀ f : Nat → Nat, (∀ a, a ∈ A.1 → f a = A.2.1 a) → DBq nx f A.2.2.2.2.2 (fun a b => Q a b ∨ (a = s ∧ b = c)) := by
      intro f hf
      cases e2 : A.2.2.2.2.2 with
      | none =>
        rw [e2] at hd
        intro a b q
        rcases q with q | ⟨q1, q2⟩
        · exact hd a b q
        · rw [q1, q2, e]; exact fun z => (nomatch z)
      | some d =>
        rw [e2] at hd
        obtain ⟨h1, h2, h3⟩ := hd
        refine ⟨Or.inl h1, h2, fun a b q w => ?_⟩
        rcases q with q | ⟨q1, q2⟩
        · rw [hf _ (hQ _ _ h1).1, hf _ (hQ _ _ q).1]; exact h3 a b q w
        · rw [q1, q2, e] at w; exact (nomatch w)
    by_cases c1 : t ∈ A.1
    · rw [if_pos c1]; exact key _ (fun _ _ => rfl)
    · rw [if_neg c1]
      refine key _ (fun a ha => ?_)
      show upN A.2.1 t (A.2.1 s + 1) a = A.2.1 a
      rw [upN, if_neg (fun z => c1 (by rw [← z]; exact ha))]
def Qs (C : Nat) (L : List Nat) (s c : Nat) : Nat → Nat → Prop := fun a b => (a ∈ L ∧ b < C) ∨ (a = s ∧ b < c)
theorem DB_fold {s : Nat} {L : List Nat} (hsL : s ∉ L) : ∀ (k c : Nat) (A : WA), c + k = C → QB nx C s A → (∀ x, x ∈ L → x ∈ A.1 ∧ A.2.1 x ≤ A.2.1 s) → DBq nx A.2.1 A.2.2.2.2.2 (Qs C L s c) →
    DBq nx ((List.range' c k).foldl (stepA nx s) A).2.1 ((List.range' c k).foldl (stepA nx s) A).2.2.2.2.2 (Qs C L s C) ∧ ((List.range' c k).foldl (stepA nx s) A).2.2.2.2.1 = A.2.2.2.2.1 + (List.range' c k).countP (fun c => (nx s c).isNone)
  | 0, c, A, h1, _, _, hd => by
    have : c = C := by omega
    subst this
    exact ⟨hd, rfl⟩
  | k + 1, c, A, h1, hq, hL, hd => by
    rw [List.range'_succ, List.foldl_cons, List.countP_cons]
    obtain ⟨a1, a2, _⟩ := QB_step (show c < C by omega) hq
    have hstep := DB_step (nx := nx) (c := c) hq.2.2.2 (Q := Qs C L s c) (fun a b q => by
      rcases q with ⟨q1, q2⟩ | ⟨q1, q2⟩
      · exact ⟨(hL a q1).1, (hL a q1).2, fun z => absurd (by rw [← z]; exact q1) hsL⟩
      · rw [q1]; exact ⟨hq.2.2.2, Nat.le_refl _, fun _ => q2⟩) hd
    have ih := DB_fold hsL k (c + 1) (stepA nx s A c) (by omega) a1 (fun x hx => by
      obtain ⟨b1, b2⟩ := hL x hx
      obtain ⟨c1, c2⟩ := a2 x b1
      rw [c2, (a2 s hq.2.2.2).2]
      exact ⟨c1, b2⟩) (DBq_congr (fun _ _ _ => rfl) (fun a b => by
        constructor
        · intro q
          rcases q with (q | ⟨q1, q2⟩) | ⟨q1, q2⟩
          · exact Or.inl q
          · exact Or.inr ⟨q1, by omega⟩
          · exact Or.inr ⟨q1, by omega⟩
        · intro q
          rcases q with q | ⟨q1, q2⟩
          · exact Or.inl (Or.inl q)
          · by_cases z : b = c
            · exact Or.inr ⟨q1, z⟩
            · exact Or.inl (Or.inr ⟨q1, by omega⟩)) hstep)
    refine ⟨ih.1, ?_⟩
    rw [ih.2]
    have e : (stepA nx s A c).2.2.2.2.1 = A.2.2.2.2.1 + if (nx s c).isNone = true then 1 else 0 := by
      rw [stepA]
      cases e2 : nx s c with
      | none => rfl
      | some t =>
        dsimp only
        split <;> rfl
    rw [e]
    omega
theorem QA_leave {A : WA} {i : Nat} (hil : i < A.1.length) (hq : QA nx C i A) : QA nx C (i + 1) (leaveA nx C A (A.1.getD i 0)) := by
  have eg := getD_at hil
  have hm : A.1.getD i 0 ∈ A.1 := by rw [eg]; exact List.getElem_mem _
  obtain ⟨u, hu⟩ := leave_pre (nx := nx) (C := C) (s := A.1.getD i 0) A
  obtain ⟨a1, a2, a3, a4⟩ := hq
  obtain ⟨⟨b1, b2, b3, b4⟩, b5, b6⟩ := QB_fold (nx := nx) (C := C) (s := A.1.getD i 0) (l := List.range' 0 C) (A := A) (fun d hd => by have := List.mem_range'_1.mp hd; omega) ⟨a1, a2, a3 hil, hm⟩
  have eL : (List.range' 0 C).foldl (stepA nx (A.1.getD i 0)) A = leaveA nx C A (A.1.getD i 0) := rfl
  rw [eL] at b1 b2 b3 b4 b5 b6
  have ht : (leaveA nx C A (A.1.getD i 0)).1.take (i + 1) = A.1.take i ++ [A.1.getD i 0] := by
    rw [hu, List.take_append_of_le_length (by omega), eg, List.take_succ_eq_append_getElem (by omega)]
  refine ⟨b1, b2, fun z x hx => ?_, ?_⟩
  · have hp := (List.pairwise_iff_getElem.mp b2) i (i + 1) (by omega) z (by omega)
    rw [getD_at z]
    have e2 : (leaveA nx C A (A.1.getD i 0)).1[i]'(by omega) = A.1.getD i 0 := by
      rw [← getD_at (show i < (leaveA nx C A (A.1.getD i 0)).1.length by omega), hu]
      simp [List.getD_eq_getElem?_getD, List.getElem?_append_left hil]
    rw [e2] at hp
    have := b3 x hx
    omega
  · rw [ht]
    intro x hx d hd t e
    rcases List.mem_append.mp hx with z | z
    · have hxA : x ∈ A.1 := List.mem_of_mem_take z
      obtain ⟨c1, c2⟩ := a4 x z d hd t e
      obtain ⟨d1, d2⟩ := b5 t c1
      rw [d2, (b5 x hxA).2]
      exact ⟨d1, c2⟩
    · rw [List.mem_singleton.mp z] at e ⊢
      exact b6 d (List.mem_range'_1.mpr ⟨Nat.zero_le _, by omega⟩) t e
theorem DB_walk {S : Nat} (hS : S ≤ 256) (hn : ∀ s, s < S → ∀ c, c < C → ∀ t, nx s c = some t → t < S) : ∀ (k i : Nat) (A : WA), i + k = 256 → IA S A → QA nx C i A → DBq nx A.2.1 A.2.2.2.2.2 (fun a b => a ∈ A.1.take i ∧ b < C) → A.2.2.2.2.1 = ((A.1.take i).map (uN nx C)).sum →
    DBq nx (walkA nx C k i A).2.1 (walkA nx C k i A).2.2.2.2.2 (fun a b => a ∈ (walkA nx C k i A).1 ∧ b < C) ∧ (walkA nx C k i A).2.2.2.2.1 = ((walkA nx C k i A).1.map (uN nx C)).sum
  | 0, i, A, h1, hI, _, hd, hc => by
    have hlen := nodup_le hI.1 (fun q hq => (hI.2.1 q hq).1)
    rw [List.take_of_length_le (by omega)] at hd hc
    exact ⟨hd, hc⟩
  | k + 1, i, A, h1, hI, hq, hd, hc => by
    have hlen := nodup_le hI.1 (fun q hq => (hI.2.1 q hq).1)
    rw [walkA]
    by_cases c : A.1.length ≤ i
    · rw [if_pos c]
      rw [List.take_of_length_le (by omega)] at hd hc
      exact ⟨hd, hc⟩
    · rw [if_neg c]
      have hil : i < A.1.length := by omega
      have eg := getD_at hil
      have hm : A.1.getD i 0 ∈ A.1 := by rw [eg]; exact List.getElem_mem _
      have hmS := (hI.2.1 _ hm).1
      have et : A.1.take (i + 1) = A.1.take i ++ [A.1.getD i 0] := by rw [eg, List.take_succ_eq_append_getElem (by omega)]
      obtain ⟨u, hu⟩ := leave_pre (nx := nx) (C := C) (s := A.1.getD i 0) A
      have hI2 : IA S (leaveA nx C A (A.1.getD i 0)) := IA_fold hI hm (fun d hd => hn _ hmS d (by have := List.mem_range'_1.mp hd; omega))
      have ht : (leaveA nx C A (A.1.getD i 0)).1.take (i + 1) = A.1.take i ++ [A.1.getD i 0] := by
        rw [hu, List.take_append_of_le_length (by omega), et]
      -- the walk's own invariant, once more
      have hq2 : QA nx C (i + 1) (leaveA nx C A (A.1.getD i 0)) := QA_leave hil hq
      have hnd : A.1.getD i 0 ∉ A.1.take i := by
        intro z
        have h2 : (A.1.take (i + 1)).Nodup := List.Nodup.sublist (List.take_sublist _ _) hI.1
        rw [et, List.nodup_append] at h2
        exact h2.2.2 _ z _ (List.mem_singleton_self _) rfl
      have hle : ∀ x, x ∈ A.1.take i → x ∈ A.1 ∧ A.2.1 x ≤ A.2.1 (A.1.getD i 0) := by
        intro x hx
        refine ⟨List.mem_of_mem_take hx, ?_⟩
        have h2 : (A.1.take (i + 1)).Pairwise (fun a b => A.2.1 a ≤ A.2.1 b) := List.Pairwise.sublist (List.take_sublist _ _) hq.2.1
        rw [et, List.pairwise_append] at h2
        exact h2.2.2 x hx _ (List.mem_singleton_self _)
      obtain ⟨f1, f2⟩ := DB_fold (nx := nx) (C := C) hnd C 0 A (by omega) ⟨hq.1, hq.2.1, hq.2.2.1 hil, hm⟩ hle (DBq_congr (fun _ _ _ => rfl) (fun a b => by
        constructor
        · intro q; exact Or.inl q
        · intro q
          rcases q with q | ⟨_, q⟩
          · exact q
          · omega) hd)
      have eL : (List.range' 0 C).foldl (stepA nx (A.1.getD i 0)) A = leaveA nx C A (A.1.getD i 0) := rfl
      rw [eL] at f1 f2
      refine DB_walk hS hn k (i + 1) _ (by omega) hI2 hq2 ?_ ?_
      · rw [ht]
        refine DBq_congr (fun _ _ _ => rfl) (fun a b => ?_) f1
        rw [List.mem_append, List.mem_singleton]
        constructor
        · intro q
          rcases q with ⟨q1, q2⟩ | ⟨q1, q2⟩
          · exact ⟨Or.inl q1, q2⟩
          · exact ⟨Or.inr q1, q2⟩
        · intro ⟨q1, q2⟩
          rcases q1 with q1 | q1
          · exact Or.inl ⟨q1, q2⟩
          · exact Or.inr ⟨q1, q2⟩
      · rw [ht, f2, hc, List.map_append, List.sum_append]
        simp [uN]
end WDB
end
section
/-! doubt, side by side -/
section QD
variable {gs : List Nat} {fs : List (Nat × Nat)} {os : List Nat} {pn : Nat → Int32} {pt : Int32} {se va : Nat → Int64} {ns di od pa st : Nat → Int32} {sp : Nat → Int64} {wd re du dS dC : Int32}
  {mse mne : Nat → Int32} {mon : Nat → Int64} {mdi map : Nat → Int32}
theorem WG_DB (hw : WF gs fs os) : DBq (nxG gs fs) (WG gs fs).2.1 (WG gs fs).2.2.2.2.2 (fun a b => a ∈ (WG gs fs).1 ∧ b < 2 ^ gs.count 0) ∧ (WG gs fs).2.2.2.2.1 = ((WG gs fs).1.map (uN (nxG gs fs) (2 ^ gs.count 0))).sum := by
  have hp8 := pow8 hw.2.2.1
  exact DB_walk hp8.2 (fun s _ c _ t ht => nxA_lt ht) 256 0 begA (by omega) (IA_beg hp8.1) QA_beg (fun s c q => absurd q.1 (by simp)) rfl
theorem q_doubt (hw : WF gs fs os) {x y : Int32} (hX : XX gs fs os pn pt se va ns di od pa st sp wd re du dS dC mse mne mon mdi map x y) (co : Int32) (out : Nat → Int64) (a : Int32) :
    ∃ k o b, m_Law_doubt di dS dC x out a = some (k, o) ∧ m_Mod_doubt co (nI (gs.count 0)) (nI (gs.count 1)) y mse mdi a = some (b, k) ∧ (k = 0 → o 0 = b.toInt64) := by
  have hp4 := pow4 hw.2.1
  have hp8 := pow8 hw.2.2.1
  rw [m_Law_doubt, m_Exp_doubt, m_Mod_doubt]
  simp only [sx_let]
  rcases hX with ⟨rfl, rfl⟩ | ⟨rfl, rfl, hE, hM⟩
  · refine ⟨1, out, 0, by rw [rx_0]; rfl, ?_, fun q => absurd q (by decide)⟩
    rw [if_pos rfl]
    split
    · rw [fails_1]; rfl
    · split
      · rw [fails_1]; rfl
      · rw [fails_1]; rfl
  · have e3 : (a ≤ (2 : Int32)) ↔ a < nI 3 := by
      have : (2 : Int32).toInt = 2 := by decide
      have : (nI 3).toInt = 3 := by decide
      rw [Int32.le_iff_toInt_le, Int32.lt_iff_toInt_lt]
      omega
    rcases ix_cases a (n := 3) (by decide) with h | ⟨w, hwh, rfl⟩
    · refine ⟨2, out, 0, ?_, ?_, fun q => absurd q (by decide)⟩
      · rw [rx_1, Option.bind_some, se_r]
        by_cases c1 : a < 0
        · rw [if_pos c1]; rfl
        · rw [if_neg c1, if_neg (by rw [e3]; rcases h with h | h; exact absurd h c1; exact h)]; rfl
      · rw [if_neg (by decide)]
        by_cases c1 : a < 0
        · rw [if_pos c1, fails_2]; rfl
        · rw [if_neg c1, if_neg (by rw [e3]; rcases h with h | h; exact absurd h c1; exact h), fails_2]; rfl
    · have hIA := WG_IA (fs := fs) hw
      have hlen := WG_len (fs := fs) hw
      have hDB := (WG_DB (fs := fs) hw).1
      have hR := hE.2.1.2.2.2.2.2
      have key : ∃ b : Int32, (if dS = (-1 : Int32) then some (Sum.inr (-1 : Int32)) else (if nI w = (0 : Int32) then gd (vp_in dS 256) (some (Sum.inr (di dS.toNatClampNeg))) else (if nI w = (1 : Int32) then some (Sum.inr dS) else some (Sum.inr dC)))) = some (Sum.inr (α := Nat) b) ∧
          ((L_Mod_doubt_37 (nI (gs.count 0)) (nI (gs.count 1)) mse mdi fu (0 : Int32)).bind (Sum.elim (fun v23 => (if nI w = (0 : Int32) then some (v23.1, (0 : Int32)) else (if nI w = (1 : Int32) then gd (¬ (16 : Int32) = 0) (some (v23.2 / (16 : Int32), (0 : Int32))) else gd (¬ (16 : Int32) = 0) (some (v23.2 - v23.2 / (16 : Int32) * (16 : Int32), (0 : Int32)))))) (fun _ => some ((-1 : Int32), (0 : Int32))))) = some (b, 0) := by
        have m37 := p_d37 hw hM 256 fu 0 (by omega) (by rw [fu]; omega)
        have hDB2 : ∀ D, (WK gs fs (nvF gs fs)).2.2.2.2.2 = D → (match D with
          | none => dS = -1 ∧ dC = -1
          | some d => dS = nI d.1 ∧ dC = nI d.2) := fun D hD => by rw [← hD]; exact hR
        cases eD : (WG gs fs).2.2.2.2.2 with
        | none =>
          have hno := hDB
          rw [eD] at hno
          obtain ⟨r1, _⟩ := hDB2 none eD
          rw [if_pos r1]
          refine ⟨-1, rfl, ?_⟩
          rcases m37 with ⟨e, b, b1, b2, b3, b4, _, _, _⟩ | ⟨_, b2⟩
          · exact absurd (nxA_none.mpr b4.2.2.2) (hno _ _ ⟨b4.1, b4.2.2.1⟩)
          · have b2' : L_Mod_doubt_37 (nI (gs.count 0)) (nI (gs.count 1)) mse mdi fu (0 : Int32) = some (.inr ()) := b2
            rw [b2', Option.bind_some, se_r]
        | some d =>
          rw [eD] at hDB
          obtain ⟨d1, d2, d3⟩ := hDB
          obtain ⟨r1, r2⟩ := hDB2 (some d) eD
          obtain ⟨hin, hcl⟩ := d1
          obtain ⟨hdS, hdL⟩ := hIA.2.1 _ hin
          have hPD : PD gs fs ((WG gs fs).2.1 d.1) (16 * d.1 + d.2) := by
            have z1 : (16 * d.1 + d.2) / 16 = d.1 := by omega
            have z2 : (16 * d.1 + d.2) % 16 = d.2 := by omega
            rw [PD, z1, z2]
            exact ⟨hin, rfl, hcl, nxA_none.mp d2⟩
          rw [if_neg (by rw [r1]; exact m1_ne (by omega)), r1, r2, gd_nI (by omega) (by decide), nI_clamp (by omega), hE.2.1.1 _ hdS, if_pos hin]
          rcases m37 with ⟨e, b, b1, b2, b3, b4, b5, b6, b7⟩ | ⟨b1, _⟩
          · have b7' : L_Mod_doubt_37 (nI (gs.count 0)) (nI (gs.count 1)) mse mdi fu (0 : Int32) = some (.inl (nI e, nI b)) := b7
            have k1 : e ≤ (WG gs fs).2.1 d.1 := Classical.byContradiction fun z => b6 _ (Nat.zero_le _) (show (WG gs fs).2.1 d.1 < e by omega) (16 * d.1 + d.2) (by omega) hPD
            have k2 := d3 (b / 16) (b % 16) ⟨b4.1, b4.2.2.1⟩ (nxA_none.mpr b4.2.2.2)
            have k3 := b4.2.1
            have k4 : (WG gs fs).2.1 d.1 = e := by omega
            have k5 : b ≤ 16 * d.1 + d.2 := Classical.byContradiction fun z => b5 (16 * d.1 + d.2) (by omega) (by rw [← k4]; exact hPD)
            have k6 : d.1 = b / 16 ∧ d.2 = b % 16 := by omega
            rw [b7', Option.bind_some, se_l]
            dsimp only
            have hrem : nI b - nI b / nI 16 * nI 16 = nI (b % 16) := pk_rem (by omega) (by omega) (by omega)
            rw [gd_in (show ¬ (16 : Int32) = 0 by decide), gd_in (show ¬ (16 : Int32) = 0 by decide), i16, hrem, pk_div (by omega) (by omega) (by omega), ← k6.1, ← k6.2]
            have k4' : (WK gs fs (nvF gs fs)).2.1 d.1 = e := k4
            rw [k4']
            by_cases z0 : nI w = (0 : Int32)
            · rw [if_pos z0, if_pos z0]; exact ⟨_, rfl, rfl⟩
            · rw [if_neg z0, if_neg z0]
              by_cases z1 : nI w = (1 : Int32)
              · rw [if_pos z1, if_pos z1]; exact ⟨_, rfl, rfl⟩
              · rw [if_neg z1, if_neg z1]; exact ⟨_, rfl, rfl⟩
          · exact absurd hPD (b1 _ (Nat.zero_le _) (by omega) _ (by omega))
      obtain ⟨b, b1, b2⟩ := key
      refine ⟨0, vp_updL out 0 b.toInt64, b, ?_, ?_, fun _ => by rw [out0]⟩
      · rw [rx_1, Option.bind_some, se_r, if_neg (nI_pos (by omega)), if_pos (by rw [e3]; exact (nI_ltI (by omega) (by decide)).mpr hwh), b1, Option.bind_some, se_r, in01, cl0]
      · rw [if_neg (by decide), if_neg (nI_pos (by omega)), if_pos (by rw [e3]; exact (nI_ltI (by omega) (by decide)).mpr hwh), fails_0, Option.bind_some, if_pos rfl]
        exact b2
end QD
end
section
/-! way: the reference goes through -/
def Ld (nx : Nat → Nat → Option Nat) (C q : Nat) : Nat → Nat → Prop
  | 0, s => s = q
  | k + 1, s => ∃ c, c < C ∧ ∃ t, nx s c = some t ∧ Ld nx C q k t
theorem Pth_Ld {nx : Nat → Nat → Option Nat} {C q : Nat} : ∀ (n k s : Nat), Pth nx C n s → Ld nx C q k s → Ld nx C q (n + k) 0
  | 0, k, s, h, l => by
    have : s = 0 := h
    subst this
    rw [Nat.zero_add]; exact l
  | n + 1, k, s, ⟨p, hp, c, hc, e⟩, l => by
    have := Pth_Ld n (k + 1) p hp ⟨c, hc, s, e, l⟩
    rw [show n + 1 + k = n + (k + 1) by omega]
    exact this
section REFY
variable {nx : Nat → Nat → Option Nat} {I K : Nat} {se ne : Nat → Int32}
theorem p_ld2 (hK : K ≤ 8) {q : Nat} (hq : q < 2 ^ K) : ∀ (k n i : Nat) (le : Nat → Int32), i + k = 2 ^ K → k < n → ∃ r, L_Mod_lead_2 (nI K) (nI q) n (nI i) le = some r ∧ (∀ s, i ≤ s → s < 2 ^ K → (r s ≠ 0 ↔ s = q)) ∧ ∀ s, s < i → r s = le s := by
  have hp := pow8 hK
  intro k
  induction k with
  | zero =>
    intro n i le h1 h2
    obtain ⟨n, rfl⟩ : ∃ z, n = z + 1 := ⟨n - 1, by omega⟩
    rw [L_Mod_lead_2, p_mstates hK, Option.bind_some, if_pos ((nI_leI (by omega) (by omega)).mpr (by omega))]
    exact ⟨_, rfl, fun s a b => absurd b (by omega), fun _ _ => rfl⟩
  | succ k ih =>
    intro n i le h1 h2
    obtain ⟨n, rfl⟩ : ∃ z, n = z + 1 := ⟨n - 1, by omega⟩
    have key : ∀ x : Int32, (x ≠ 0 ↔ i = q) → ∃ r, L_Mod_lead_2 (nI K) (nI q) n (nI (i + 1)) (upd le i x) = some r ∧ (∀ s, i ≤ s → s < 2 ^ K → (r s ≠ 0 ↔ s = q)) ∧ ∀ s, s < i → r s = le s := by
      intro x hx
      obtain ⟨r, r1, r2, r3⟩ := ih n (i + 1) (upd le i x) (by omega) (by omega)
      refine ⟨r, r1, fun s a b => ?_, fun s a => by rw [r3 s (by omega), upd_eq, if_neg (by omega)]⟩
      rcases Nat.lt_or_ge i s with e | e
      · exact r2 s (by omega) b
      · have : s = i := by omega
        subst this
        rw [r3 s (by omega), upd_eq, if_pos rfl]; exact hx
    rw [L_Mod_lead_2, p_mstates hK, Option.bind_some, if_neg (by rw [nI_leI (by omega) (by omega)]; omega)]
    simp only [nI_eq (show i < 2 ^ 31 by omega) (show q < 2 ^ 31 by omega), gd_nI (show i < 65536 by omega) (show 65536 < 2 ^ 31 by decide), nI_clamp (show i < 2 ^ 31 by omega), nI_1, nar0, nar1]
    by_cases c : i = q
    · rw [if_pos c]; exact key _ ⟨fun _ => c, fun _ => by decide⟩
    · rw [if_neg c]; exact key _ ⟨fun z => absurd rfl z, fun z => absurd z c⟩
theorem p_ld57 (hI : I ≤ 4) (hK : K ≤ 8) (hT : TB nx (2 ^ K) (2 ^ I) se ne) {q j s : Nat} (hj : j < 255) (hs : s < 2 ^ K) {le : Nat → Int32} (hl : ∀ t, t < 2 ^ K → (le (256 * j + t) ≠ 0 ↔ Ld nx (2 ^ I) q j t)) :
    ∀ (k n c : Nat) (x : Int32), c + k = 2 ^ I → k < n → ((x = 1 ∧ Ld nx (2 ^ I) q (j + 1) s) ∨ (x = 0 ∧ ∀ d, d < c → ∀ t, nx s d = some t → ¬ Ld nx (2 ^ I) q j t)) →
      (L_Mod_lead_57 (nI I) se ne le (nI (j + 1)) (nI s) n x (nI c) = some 1 ∧ Ld nx (2 ^ I) q (j + 1) s) ∨ (L_Mod_lead_57 (nI I) se ne le (nI (j + 1)) (nI s) n x (nI c) = some 0 ∧ ¬ Ld nx (2 ^ I) q (j + 1) s) := by
  have hp := pow4 hI
  have hp8 := pow8 hK
  intro k
  induction k with
  | zero =>
    intro n c x h1 h2 hx
    obtain ⟨n, rfl⟩ : ∃ z, n = z + 1 := ⟨n - 1, by omega⟩
    rw [L_Mod_lead_57, p_mchoices (by omega), Option.bind_some, if_pos ((nI_leI (by omega) (by omega)).mpr (by omega))]
    rcases hx with ⟨z, h⟩ | ⟨z, h⟩
    · exact Or.inl ⟨by rw [z], h⟩
    · exact Or.inr ⟨by rw [z], fun ⟨d, hd, t, e, l⟩ => h d (by omega) t e l⟩
  | succ k ih =>
    intro n c x h1 h2 hx
    obtain ⟨n, rfl⟩ : ∃ z, n = z + 1 := ⟨n - 1, by omega⟩
    have hsub : nI (j + 1) - (1 : Int32) = nI j := nI_pred j
    rw [L_Mod_lead_57, p_mchoices (by omega), Option.bind_some, if_neg (by rw [nI_leI (by omega) (by omega)]; omega)]
    rcases hx with ⟨z, h⟩ | ⟨z, h⟩
    · rw [if_neg (by rw [z]; decide), nI_1]
      exact ih n (c + 1) 1 (by omega) (by omega) (Or.inl ⟨rfl, h⟩)
    · rw [if_pos z]
      have no : (∀ t, nx s c = some t → ¬ Ld nx (2 ^ I) q j t) → (L_Mod_lead_57 (nI I) se ne le (nI (j + 1)) (nI s) n (0 : Int32) (nI (c + 1)) = some 1 ∧ Ld nx (2 ^ I) q (j + 1) s) ∨ (L_Mod_lead_57 (nI I) se ne le (nI (j + 1)) (nI s) n (0 : Int32) (nI (c + 1)) = some 0 ∧ ¬ Ld nx (2 ^ I) q (j + 1) s) :=
        fun w => ih n (c + 1) 0 (by omega) (by omega) (Or.inr ⟨rfl, fun d hd => by
          by_cases e : d = c
          · rw [e]; exact w
          · exact h d (by omega)⟩)
      simp only [i16m, gd_nI (show 16 * s + c < 4096 by omega) (show 4096 < 2 ^ 31 by decide), nI_clamp (show 16 * s + c < 2 ^ 31 by omega), nI_1, hsub]
      cases e : nx s c with
      | none =>
        rw [if_pos ((hT s hs c (by omega)).1 e)]
        exact no (fun t w => by rw [e] at w; cases w)
      | some t =>
        obtain ⟨t1, t2, t3⟩ := (hT s hs c (by omega)).2 t e
        rw [if_neg (by rw [t1]; decide), t2, i256m, gd_nI (show 256 * j + t < 65536 by omega) (by decide), nI_clamp (by omega)]
        by_cases c1 : le (256 * j + t) = 0
        · rw [if_pos c1]
          exact no (fun t' w l => by rw [e] at w; cases w; exact (hl t t3).mpr l c1)
        · rw [if_neg c1]
          exact ih n (c + 1) 1 (by omega) (by omega) (Or.inl ⟨rfl, c, by omega, t, e, (hl t t3).mp c1⟩)
theorem p_ld42 (hI : I ≤ 4) (hK : K ≤ 8) (hT : TB nx (2 ^ K) (2 ^ I) se ne) {q j : Nat} (hj : j < 255) :
    ∀ (k n s : Nat) (le : Nat → Int32), s + k = 2 ^ K → k < n → (∀ i, i ≤ j → ∀ t, t < 2 ^ K → (le (256 * i + t) ≠ 0 ↔ Ld nx (2 ^ I) q i t)) → (∀ t, t < s → (le (256 * (j + 1) + t) ≠ 0 ↔ Ld nx (2 ^ I) q (j + 1) t)) →
      ∃ r, L_Mod_lead_42 (nI I) (nI K) se ne (nI (j + 1)) n (nI s) le = some r ∧ ∀ i, i ≤ j + 1 → ∀ t, t < 2 ^ K → (r (256 * i + t) ≠ 0 ↔ Ld nx (2 ^ I) q i t) := by
  have hp := pow4 hI
  have hp8 := pow8 hK
  intro k
  induction k with
  | zero =>
    intro n s le h1 h2 hl hc
    obtain ⟨n, rfl⟩ : ∃ z, n = z + 1 := ⟨n - 1, by omega⟩
    rw [L_Mod_lead_42, p_mstates hK, Option.bind_some, if_pos ((nI_leI (by omega) (by omega)).mpr (by omega))]
    refine ⟨_, rfl, fun i hi t ht => ?_⟩
    by_cases e : i = j + 1
    · rw [e]; exact hc t (by omega)
    · exact hl i (by omega) t ht
  | succ k ih =>
    intro n s le h1 h2 hl hc
    obtain ⟨n, rfl⟩ : ∃ z, n = z + 1 := ⟨n - 1, by omega⟩
    have hs : s < 2 ^ K := by omega
    have key : ∀ x : Int32, (x ≠ 0 ↔ Ld nx (2 ^ I) q (j + 1) s) → ∃ r, L_Mod_lead_42 (nI I) (nI K) se ne (nI (j + 1)) n (nI (s + 1)) (upd le (256 * (j + 1) + s) x) = some r ∧ ∀ i, i ≤ j + 1 → ∀ t, t < 2 ^ K → (r (256 * i + t) ≠ 0 ↔ Ld nx (2 ^ I) q i t) := by
      intro x hx
      refine ih n (s + 1) _ (by omega) (by omega) (fun i hi t ht => ?_) (fun t ht => ?_)
      · rw [upd_eq, if_neg (by omega)]; exact hl i hi t ht
      · rw [upd_eq]
        by_cases e : t = s
        · rw [e, if_pos rfl]; exact hx
        · rw [if_neg (by omega)]; exact hc t (by omega)
    rw [L_Mod_lead_42, p_mstates hK, Option.bind_some, if_neg (by rw [nI_leI (by omega) (by omega)]; omega)]
    rcases p_ld57 hI hK hT hj hs (fun t ht => hl j (Nat.le_refl _) t ht) (2 ^ I) fu 0 0 (by omega) (by rw [fu]; omega) (Or.inr ⟨rfl, fun d hd => absurd hd (by omega)⟩) with ⟨a, b⟩ | ⟨a, b⟩
    · have a' : L_Mod_lead_57 (nI I) se ne le (nI (j + 1)) (nI s) fu (0 : Int32) (0 : Int32) = some 1 := a
      rw [a', Option.bind_some, i256m, gd_nI (show 256 * (j + 1) + s < 65536 by omega) (by decide), nI_clamp (by omega), nI_1, nar1]
      exact key _ ⟨fun _ => b, fun _ => by decide⟩
    · have a' : L_Mod_lead_57 (nI I) se ne le (nI (j + 1)) (nI s) fu (0 : Int32) (0 : Int32) = some 0 := a
      rw [a', Option.bind_some, i256m, gd_nI (show 256 * (j + 1) + s < 65536 by omega) (by decide), nI_clamp (by omega), nI_1, nar0]
      exact key _ ⟨fun z => absurd rfl z, fun z => absurd z b⟩
theorem p_ld34 (hI : I ≤ 4) (hK : K ≤ 8) (hT : TB nx (2 ^ K) (2 ^ I) se ne) {q d : Nat} (hd : d ≤ 255) :
    ∀ (k n j : Nat) (le : Nat → Int32), j + k = d → k < n → (∀ i, i ≤ j → ∀ t, t < 2 ^ K → (le (256 * i + t) ≠ 0 ↔ Ld nx (2 ^ I) q i t)) →
      ∃ r, L_Mod_lead_34 (nI I) (nI K) se ne (nI d) n (nI (j + 1)) le = some r ∧ ∀ i, i ≤ d → ∀ t, t < 2 ^ K → (r (256 * i + t) ≠ 0 ↔ Ld nx (2 ^ I) q i t) := by
  have hp8 := pow8 hK
  intro k
  induction k with
  | zero =>
    intro n j le h1 h2 hl
    obtain ⟨n, rfl⟩ : ∃ z, n = z + 1 := ⟨n - 1, by omega⟩
    rw [L_Mod_lead_34, if_pos ((nI_ltI (by omega) (by omega)).mpr (by omega))]
    exact ⟨_, rfl, fun i hi => hl i (by omega)⟩
  | succ k ih =>
    intro n j le h1 h2 hl
    obtain ⟨n, rfl⟩ : ∃ z, n = z + 1 := ⟨n - 1, by omega⟩
    obtain ⟨r, r1, r2⟩ := p_ld42 hI hK hT (show j < 255 by omega) (2 ^ K) fu 0 le (by omega) (by rw [fu]; omega) hl (fun t ht => absurd ht (by omega))
    have r1' : L_Mod_lead_42 (nI I) (nI K) se ne (nI (j + 1)) fu (0 : Int32) le = some r := r1
    rw [L_Mod_lead_34, if_neg (by rw [nI_ltI (by omega) (by omega)]; omega), r1', Option.bind_some, nI_1]
    exact ih n (j + 1) r (by omega) (by omega) r2
theorem p_lead (hI : I ≤ 4) (hK : K ≤ 8) (hT : TB nx (2 ^ K) (2 ^ I) se ne) {q d : Nat} (hq : q < 2 ^ K) (hd : d ≤ 255) (le : Nat → Int32) :
    ∃ r, m_Mod_lead (nI I) (nI K) se ne le (nI q) (nI d) = some r ∧ ∀ i, i ≤ d → ∀ t, t < 2 ^ K → (r (256 * i + t) ≠ 0 ↔ Ld nx (2 ^ I) q i t) := by
  have hp8 := pow8 hK
  obtain ⟨r, r1, r2, -⟩ := p_ld2 hK hq (2 ^ K) fu 0 le (by omega) (by rw [fu]; omega)
  have r1' : L_Mod_lead_2 (nI K) (nI q) fu (0 : Int32) le = some r := r1
  obtain ⟨w, w1, w2⟩ := p_ld34 hI hK hT hd d fu 0 r (by omega) (by rw [fu]; omega) (fun i hi t ht => by
    have : i = 0 := by omega
    subst this
    rw [Nat.mul_zero, Nat.zero_add]
    exact r2 t (Nat.zero_le _) ht)
  have w1' : L_Mod_lead_34 (nI I) (nI K) se ne (nI d) fu (1 : Int32) r = some w := w1
  rw [m_Mod_lead, r1', Option.bind_some, w1', Option.bind_some]
  exact ⟨w, rfl, w2⟩
/-- the choice of a step -/
theorem p_w76 (hI : I ≤ 4) (hK : K ≤ 8) (hT : TB nx (2 ^ K) (2 ^ I) se ne) {q d k s : Nat} (hk : k < d) (hd : d ≤ 255) (hs : s < 2 ^ K) {le : Nat → Int32} (hl : ∀ t, t < 2 ^ K → (le (256 * (d - k - 1) + t) ≠ 0 ↔ Ld nx (2 ^ I) q (d - k - 1) t)) :
    ∀ (m n c : Nat), c + m = 2 ^ I → m < n → (∃ e, c ≤ e ∧ e < 2 ^ I ∧ ∃ t, nx s e = some t ∧ Ld nx (2 ^ I) q (d - k - 1) t) →
      ∃ e t, L_Mod_way_76 se ne le (nI d) (nI s) (nI k) n (nI c) = some (nI e) ∧ c ≤ e ∧ e < 2 ^ I ∧ nx s e = some t ∧ Ld nx (2 ^ I) q (d - k - 1) t ∧ ∀ e2, c ≤ e2 → e2 < e → ∀ t2, nx s e2 = some t2 → ¬ Ld nx (2 ^ I) q (d - k - 1) t2 := by
  have hp := pow4 hI
  have hp8 := pow8 hK
  intro m
  induction m with
  | zero =>
    intro n c h1 h2 ⟨e, e1, e2, _⟩
    omega
  | succ m ih =>
    intro n c h1 h2 hex
    obtain ⟨n, rfl⟩ : ∃ z, n = z + 1 := ⟨n - 1, by omega⟩
    have hsub : (nI d - nI k) - (1 : Int32) = nI (d - k - 1) := by
      rw [pk_sub (by omega), i1, pk_sub (by omega)]
    have skip : (∀ t, nx s c = some t → ¬ Ld nx (2 ^ I) q (d - k - 1) t) → ∃ e t, L_Mod_way_76 se ne le (nI d) (nI s) (nI k) n (nI (c + 1)) = some (nI e) ∧ c ≤ e ∧ e < 2 ^ I ∧ nx s e = some t ∧ Ld nx (2 ^ I) q (d - k - 1) t ∧ ∀ e2, c ≤ e2 → e2 < e → ∀ t2, nx s e2 = some t2 → ¬ Ld nx (2 ^ I) q (d - k - 1) t2 := by
      intro hno
      obtain ⟨e, t, a1, a2, a3, a4, a5, a6⟩ := ih n (c + 1) (by omega) (by omega) (by
        obtain ⟨e, e1, e2, t, e3, e4⟩ := hex
        by_cases z : e = c
        · rw [z] at e3; exact absurd e4 (hno t e3)
        · exact ⟨e, by omega, e2, t, e3, e4⟩)
      refine ⟨e, t, a1, by omega, a3, a4, a5, fun e2 h3 h4 => ?_⟩
      by_cases z : e2 = c
      · rw [z]; exact hno
      · exact a6 e2 (by omega) h4
    rw [L_Mod_way_76]
    simp only [i16m, gd_nI (show 16 * s + c < 4096 by omega) (show 4096 < 2 ^ 31 by decide), nI_clamp (show 16 * s + c < 2 ^ 31 by omega), nI_1, hsub]
    cases e : nx s c with
    | none =>
      rw [if_pos ((hT s hs c (by omega)).1 e)]
      exact skip (fun t w => by rw [e] at w; cases w)
    | some t =>
      obtain ⟨t1, t2, t3⟩ := (hT s hs c (by omega)).2 t e
      rw [if_neg (by rw [t1]; decide), t2, i256m, gd_nI (show 256 * (d - k - 1) + t < 65536 by omega) (by decide), nI_clamp (by omega)]
      by_cases c1 : le (256 * (d - k - 1) + t) = 0
      · rw [if_pos c1]
        exact skip (fun t' w l => by rw [e] at w; cases w; exact (hl t t3).mpr l c1)
      · rw [if_neg c1]
        exact ⟨c, t, rfl, Nat.le_refl _, by omega, e, (hl t t3).mp c1, fun e2 h3 h4 => absurd h4 (by omega)⟩
theorem p_w67 (hI : I ≤ 4) (hK : K ≤ 8) (hT : TB nx (2 ^ K) (2 ^ I) se ne) {q d i : Nat} (hi : i < d) (hd : d ≤ 255) {le : Nat → Int32} (hl : ∀ j, j ≤ d → ∀ t, t < 2 ^ K → (le (256 * j + t) ≠ 0 ↔ Ld nx (2 ^ I) q j t)) :
    ∀ (m n k s : Nat) (c : Int32), k + m = i + 1 → m < n → s < 2 ^ K → Ld nx (2 ^ I) q (d - k) s → ∃ r, L_Mod_way_67 se ne le (nI i) (nI d) n (nI s) c (nI k) = some r := by
  have hp := pow4 hI
  have hp8 := pow8 hK
  intro m
  induction m with
  | zero =>
    intro n k s c h1 h2 hs hL
    obtain ⟨n, rfl⟩ : ∃ z, n = z + 1 := ⟨n - 1, by omega⟩
    rw [L_Mod_way_67, if_pos ((nI_ltI (by omega) (by omega)).mpr (by omega))]
    exact ⟨_, rfl⟩
  | succ m ih =>
    intro n k s c h1 h2 hs hL
    obtain ⟨n, rfl⟩ : ∃ z, n = z + 1 := ⟨n - 1, by omega⟩
    rw [show d - k = (d - k - 1) + 1 by omega] at hL
    obtain ⟨e0, he0, t0, e1, l0⟩ := hL
    obtain ⟨e, t, a1, a2, a3, a4, a5, _⟩ := p_w76 hI hK hT (show k < d by omega) hd hs (fun t ht => hl (d - k - 1) (by omega) t ht) (2 ^ I) fu 0 (by omega) (by rw [fu]; omega) ⟨e0, Nat.zero_le _, he0, t0, e1, l0⟩
    have a1' : L_Mod_way_76 se ne le (nI d) (nI s) (nI k) fu (0 : Int32) = some (nI e) := a1
    obtain ⟨t1, t2, t3⟩ := (hT s hs e a3).2 t a4
    rw [L_Mod_way_67, if_neg (by rw [nI_ltI (by omega) (by omega)]; omega), a1', Option.bind_some, i16m, gd_nI (show 16 * s + e < 4096 by omega) (by decide), nI_clamp (by omega), t2, nI_1]
    exact ih n (k + 1) t (nI e) (by omega) (by omega) t3 (by rw [show d - (k + 1) = d - k - 1 by omega]; exact a5)
end REFY
section QW
variable {gs : List Nat} {fs : List (Nat × Nat)} {os : List Nat} {pn : Nat → Int32} {pt : Int32} {se va : Nat → Int64} {ns di od pa st : Nat → Int32} {sp : Nat → Int64} {wd re du dS dC : Int32}
  {mse mne : Nat → Int32} {mon : Nat → Int64} {mdi map : Nat → Int32}
theorem q_way0 (hw : WF gs fs os) {x y : Int32} (hX : XX gs fs os pn pt se va ns di od pa st sp wd re du dS dC mse mne mon mdi map x y) (co : Int32) (ml : Nat → Int32) (out : Nat → Int64) (a i : Int32) :
    ∃ k o b, m_Law_way (nI (gs.count 1)) di pa st x out a i = some (k, o) ∧ m_Mod_way co (nI (gs.count 0)) (nI (gs.count 1)) y mse mne mdi ml a i = some b := by
  have hI := hw.2.1
  have hK := hw.2.2.1
  have hp4 := pow4 hI
  have hp8 := pow8 hK
  rw [m_Mod_way]
  simp only [sx_let]
  rcases ix_cases a (n := 2 ^ gs.count 1) (by omega) with h | ⟨j, hj, rfl⟩
  · obtain ⟨e1, e2⟩ := rs_no hK h
    rcases hX with ⟨rfl, rfl⟩ | ⟨rfl, rfl, _, _⟩
    · exact ⟨1, out, _, by rw [m_Law_way, m_Exp_way, rx_0]; rfl, by rw [if_pos rfl, e2, Option.bind_some, if_pos rfl, fails_1]; rfl⟩
    · exact ⟨2, out, _, by rw [m_Law_way, m_Exp_way, rx_1, Option.bind_some, se_r, e1]; rfl, by rw [if_neg (by decide), e2, Option.bind_some, if_pos rfl, fails_2]; rfl⟩
  · obtain ⟨e1, e2⟩ := rs_yes hK hj
    rcases hX with ⟨rfl, rfl⟩ | ⟨rfl, rfl, hE, hM⟩
    · exact ⟨1, out, _, by rw [m_Law_way, m_Exp_way, rx_0]; rfl, by rw [if_pos rfl, e2, Option.bind_some, if_neg (by decide), fails_1]; rfl⟩
    · have hIA := WG_IA (fs := fs) hw
      have hlen := WG_len (fs := fs) hw
      have hB := TM_TB hM.1
      have lhs : ∃ k o, m_Law_way (nI (gs.count 1)) di pa st 1 out (nI j) i = some (k, o) := by
        rw [m_Law_way, m_Exp_way, rx_1, Option.bind_some, se_r, e1, Option.bind_some, se_r]
        by_cases c : (0 : Int32) ≤ i
        · obtain ⟨w, hw2, rfl⟩ := nI_of (Int32.not_lt.mpr c)
          rw [if_pos c, p_stepOfWay hp8.2 hE.2.1 hE.2.2.1 hj hw2, Option.bind_some, Option.bind_some, se_r, in01]
          exact ⟨_, _, rfl⟩
        · rw [if_neg c]; exact ⟨_, _, rfl⟩
      obtain ⟨k, o, hlhs⟩ := lhs
      rw [if_neg (by decide), e2, Option.bind_some, if_neg (by decide), fails_0, Option.bind_some, if_pos rfl, gd_nI (by omega) (by decide), nI_clamp (by omega)]
      suffices hs : ∃ b, (if i < (0 : Int32) then some ((-1 : Int32), (0 : Int32), ml) else (if i < mdi j then (m_Mod_lead (nI (gs.count 0)) (nI (gs.count 1)) mse mne ml (nI j) (mdi j)).bind (fun v11 => ((L_Mod_way_67 mse mne v11 i (mdi j) fu (0 : Int32) (0 : Int32) (0 : Int32)).bind (fun v21 => some (v21, (0 : Int32), v11)))) else some ((-1 : Int32), (0 : Int32), ml))) = some b by
        obtain ⟨b, hb⟩ := hs
        exact ⟨k, o, b, hlhs, hb⟩
      by_cases c0 : i < 0
      · rw [if_pos c0]; exact ⟨_, rfl⟩
      · rw [if_neg c0]
        by_cases c1 : i < mdi j
        · rw [if_pos c1]
          obtain ⟨w, hw2, rfl⟩ := nI_of c0
          have hin : j ∈ (WG gs fs).1 := Classical.byContradiction fun z => by
            rw [hM.2.1 j hj, if_neg z] at c1
            have : (-1 : Int32).toInt = -1 := by decide
            have h2 := nI_toInt hw2
            rw [Int32.lt_iff_toInt_lt] at c1
            omega
          have hdl := (hIA.2.1 _ hin).2
          rw [hM.2.1 j hj, if_pos hin] at c1 ⊢
          have hwd := (nI_ltI hw2 (show (WG gs fs).2.1 j < 2 ^ 31 by omega)).mp c1
          obtain ⟨r, r1, r2⟩ := p_lead hI hK hB hj (show (WG gs fs).2.1 j ≤ 255 by omega) ml
          have hPth : Pth (nxG gs fs) (2 ^ gs.count 0) ((WG gs fs).2.1 j) j := (walk_least (nx := nxG gs fs) (C := 2 ^ gs.count 0) hp8.2 hp8.1 (fun s _ c _ t ht => nxA_lt ht)).1 j hin
          have hLd := Pth_Ld (q := j) _ 0 j hPth rfl
          obtain ⟨z, hz⟩ := p_w67 hI hK hB hwd (show (WG gs fs).2.1 j ≤ 255 by omega) r2 (w + 1) fu 0 0 0 (by omega) (by rw [fu]; omega) (by omega) (by rw [Nat.sub_zero]; exact hLd)
          have hz' : L_Mod_way_67 mse mne r (nI w) (nI ((WG gs fs).2.1 j)) fu (0 : Int32) (0 : Int32) (0 : Int32) = some z := hz
          rw [r1, Option.bind_some, hz', Option.bind_some]
          exact ⟨_, rfl⟩
        · rw [if_neg c1]; exact ⟨_, rfl⟩
end QW
end
section
/-! groups: alike under the last names means not told apart -/
section GE
variable {rd : Nat → Bool} {N : Nat → Nat} {al : Nat → Nat → Bool}
theorem prt_pre {L a : Nat} : ∀ {b : Nat}, a ≤ b → ∃ t, prt rd N al L b = prt rd N al L a ++ t
  | 0, h => ⟨[], by rw [show a = 0 by omega]; simp⟩
  | b + 1, h => by
    by_cases c : a = b + 1
    · exact ⟨[], by rw [c]; simp⟩
    · obtain ⟨t, ht⟩ := prt_pre (b := b) (show a ≤ b by omega)
      rw [prt, ht]
      split
      · exact ⟨t ++ [b], by rw [List.append_assoc]⟩
      · exact ⟨t, rfl⟩
theorem fi_le (hs : ∀ p x, al p x = true → al x p = true) (ht : ∀ p x y, al p x = true → al x y = true → al p y = true) {a b : Nat} (hab : a ≤ b) (hra : rd a = true) (hN : N a = N b) (h : al a b = true) : fiN rd N al a = fiN rd N al b := by
  by_cases c : a = b
  · rw [c]
  · have eqv : ∀ q, al q b = al q a := fun q => Bool.eq_iff_iff.mpr ⟨fun z => ht q b a z (hs a b h), fun z => ht q a b z h⟩
    rw [fiN, fiN, ← hN]
    cases e : (prt rd N al (N a) a).find? (fun p => al p a) with
    | some p =>
      obtain ⟨t, e2⟩ := prt_pre (rd := rd) (N := N) (al := al) (L := N a) hab
      rw [e2, List.find?_append, fnd_congr (f := fun p => al p b) (g := fun p => al p a) (fun p _ => eqv p), e]
      rfl
    | none =>
      obtain ⟨t, e2⟩ := prt_pre (rd := rd) (N := N) (al := al) (L := N a) (show a + 1 ≤ b by omega)
      have e3 : prt rd N al (N a) (a + 1) = prt rd N al (N a) a ++ [a] := by rw [prt, if_pos ⟨hra, rfl, e⟩]
      rw [e2, e3, List.find?_append, List.find?_append, fnd_congr (f := fun p => al p b) (g := fun p => al p a) (l := prt rd N al (N a) a) (fun p _ => eqv p), e]
      have e4 : [a].find? (fun p => al p b) = some a := by rw [List.find?_cons, h]
      rw [e4]
      rfl
theorem fi_same (hs : ∀ p x, al p x = true → al x p = true) (ht : ∀ p x y, al p x = true → al x y = true → al p y = true) {a b : Nat} (hra : rd a = true) (hrb : rd b = true) (hN : N a = N b) (h : al a b = true) : fiN rd N al a = fiN rd N al b := by
  rcases Nat.le_total a b with c | c
  · exact fi_le hs ht c hra hN h
  · exact (fi_le hs ht c hrb hN.symm (hs a b h)).symm
theorem fi_al {x : Nat} : fiN rd N al x = x ∨ al (fiN rd N al x) x = true := by
  rw [fiN]
  cases e : (prt rd N al (N x) x).find? (fun p => al p x) with
  | none => exact Or.inl rfl
  | some p =>
    have h := List.find?_some (p := fun p => al p x) e
    exact Or.inr h
end GE
section GA
variable {se va : Nat → Int64} {ov : Nat → Nat} {O : Nat} {nx : Nat → Nat → Option Nat} {C : Nat} {N : Nat → Nat}
theorem alN_iff {p x : Nat} : alN se va ov O N nx C p x = true ↔ LooksA se va ov O p x ∧ GoesA (fun q => nI (N q)) nx C p x := alA_iff
theorem alN_sym (p x : Nat) (h : alN se va ov O N nx C p x = true) : alN se va ov O N nx C x p = true := by
  rw [alN_iff] at h ⊢
  obtain ⟨⟨h1, h2⟩, h3⟩ := h
  exact ⟨⟨fun c hc => (h1 c hc).symm, fun i hi c hc q => (h2 i hi c hc (by rw [h1 c hc]; exact q)).symm⟩, fun c hc => (h3 c hc).symm⟩
theorem alN_trans (p x y : Nat) (h : alN se va ov O N nx C p x = true) (k : alN se va ov O N nx C x y = true) : alN se va ov O N nx C p y = true := by
  rw [alN_iff] at h k ⊢
  obtain ⟨⟨h1, h2⟩, h3⟩ := h
  obtain ⟨⟨k1, k2⟩, k3⟩ := k
  exact ⟨⟨fun c hc => (h1 c hc).trans (k1 c hc), fun i hi c hc q => (h2 i hi c hc q).trans (k2 i hi c hc (by rw [← h1 c hc]; exact q))⟩, fun c hc => (h3 c hc).trans (k3 c hc)⟩
end GA
section GT
variable {gs : List Nat} {fs : List (Nat × Nat)} {os : List Nat} {pn : Nat → Int32} {pt : Int32} {se va : Nat → Int64} {ns di od pa st : Nat → Int32} {sp : Nat → Int64} {wd re du dS dC : Int32}
  {mse mne : Nat → Int32} {mon : Nat → Int64} {mdi map : Nat → Int32}
/-- alike, in the net's words -/
theorem al_net (hw : WF gs fs os) (hT : TI gs fs (nvF gs fs) se va ns) {N : Nat → Nat} (hN : ∀ q, q < 2 ^ gs.count 1 → rdK gs fs (nvF gs fs) q = true → N q < 2 ^ 31) (hcl : ∀ s, s < 2 ^ gs.count 1 → rdK gs fs (nvF gs fs) s = true → ∀ c, c < 2 ^ gs.count 0 → ∀ t, nxG gs fs s c = some t → rdK gs fs (nvF gs fs) t = true) {a b : Nat} (ha : a < 2 ^ gs.count 1) (hb : b < 2 ^ gs.count 1) (hra : rdK gs fs (nvF gs fs) a = true) (hrb : rdK gs fs (nvF gs fs) b = true) :
    alN se va (fun i => os.getD i 0) os.length N (nxA gs fs (nvF gs fs)) (2 ^ gs.count 0) a b = false ↔ DF (nxG gs fs) (2 ^ gs.count 0) (shN gs fs os) (fun x y => N x ≠ N y) a b := by
  have hp4 := pow4 hw.2.1
  have hp8 := pow8 hw.2.2.1
  have hos := hw.2.2.2.2.2.2.2
  have hov : ∀ i, i < os.length → os.getD i 0 < gs.length := fun i hi => hos _ (by simp [List.getD_eq_getElem?_getD, hi])
  have es : ∀ s, s < 2 ^ gs.count 1 → ∀ c, sb se s c = stN gs fs s c := fun s hs c => TI_sb hw hT hs
  have ev : ∀ s, s < 2 ^ gs.count 1 → ∀ i, i < os.length → ∀ c, vb va (os.getD i 0) s c = vaN gs fs (os.getD i 0) s c := fun s hs i hi c => TI_vb hw hT hs (hov i hi)
  have hsome : ∀ s c, stN gs fs s c = true → ∃ t, nxG gs fs s c = some t := fun s c h => by
    cases e : nxG gs fs s c with
    | none => rw [nxA_none.mp e] at h; cases h
    | some t => exact ⟨t, rfl⟩
  rw [← Bool.not_eq_true, alN_iff]
  constructor
  · intro h
    apply Classical.byContradiction
    intro hno
    apply h
    have hnc : ∀ c, c < 2 ^ gs.count 0 → ¬ DFc (nxG gs fs) (shN gs fs os) (fun x y => N x ≠ N y) a b c := fun c hc q => hno ⟨c, hc, q⟩
    have hst : ∀ c, c < 2 ^ gs.count 0 → stN gs fs a c = stN gs fs b c := by
      intro c hc
      cases e1 : stN gs fs a c <;> cases e2 : stN gs fs b c
      · rfl
      · obtain ⟨t, ht⟩ := hsome b c e2
        exact absurd (Or.inl ⟨nxA_none.mpr e1, by rw [ht]; exact fun z => (nomatch z)⟩) (hnc c hc)
      · obtain ⟨t, ht⟩ := hsome a c e1
        exact absurd (Or.inr (Or.inl ⟨by rw [ht]; exact fun z => (nomatch z), nxA_none.mpr e2⟩)) (hnc c hc)
      · rfl
    have hm : ∀ c, c % 2 ^ gs.count 0 < 2 ^ gs.count 0 := fun c => Nat.mod_lt _ (by omega)
    refine ⟨⟨fun c hc => ?_, fun i hi c hc q => ?_⟩, fun c hc => ?_⟩
    · rw [es a ha, es b hb, stN_mod hw (by omega) hc, stN_mod (s := b) hw (by omega) hc]
      exact hst _ (hm c)
    · rw [es a ha, stN_mod hw (by omega) hc] at q
      rw [ev a ha i hi, ev b hb i hi, vaN_mod hw (by omega) hc, vaN_mod (s := b) hw (by omega) hc]
      obtain ⟨x, hx⟩ := hsome a _ q
      obtain ⟨y, hy⟩ := hsome b (c % 2 ^ gs.count 0) (by rw [← hst _ (hm c)]; exact q)
      have : shN gs fs os a b (c % 2 ^ gs.count 0) := Classical.byContradiction fun z => hnc _ (hm c) (Or.inr (Or.inr ⟨x, y, hx, hy, Or.inl z⟩))
      exact this i hi
    · rw [nmN, nmN]
      have e := hst c hc
      cases e1 : nxA gs fs (nvF gs fs) a c with
      | none =>
        have e2 : nxA gs fs (nvF gs fs) b c = none := nxA_none.mpr (by rw [← e]; exact nxA_none.mp e1)
        rw [e2]
      | some x =>
        cases e2 : nxA gs fs (nvF gs fs) b c with
        | none =>
          have := nxA_none.mp e2
          rw [← e] at this
          rw [nxA_none.mpr this] at e1
          cases e1
        | some y =>
          have : N x = N y := Classical.byContradiction fun z => hnc c hc (Or.inr (Or.inr ⟨x, y, e1, e2, Or.inr z⟩))
          show nI (N x) = nI (N y)
          rw [this]
  · intro ⟨c, hc, h⟩ ⟨⟨k1, k2⟩, k3⟩
    have k1' := k1 c (by omega)
    rw [es a ha, es b hb] at k1'
    rcases h with ⟨h1, h2⟩ | ⟨h1, h2⟩ | ⟨x, y, h1, h2, h3⟩
    · have := nxA_none.mp h1
      rw [k1'] at this
      exact h2 (nxA_none.mpr this)
    · have := nxA_none.mp h2
      rw [← k1'] at this
      exact h1 (nxA_none.mpr this)
    · rcases h3 with h3 | h3
      · apply h3
        intro i hi
        have hst : stN gs fs a c = true := by
          cases e : stN gs fs a c with
          | true => rfl
          | false => rw [nxG, nxA_none.mpr e] at h1; cases h1
        have := k2 i hi c (by omega) (by rw [es a ha]; exact hst)
        rw [ev a ha i hi, ev b hb i hi] at this
        exact this
      · have k4 := k3 c hc
        rw [nmN, nmN] at k4
        rw [nxG] at h1 h2
        rw [h1, h2] at k4
        have lx := nxA_lt h1
        have ly := nxA_lt h2
        have rx := hcl a ha hra c hc x h1
        have ry := hcl b hb hrb c hc y h2
        have k5 : nI (N x) = nI (N y) := k4
        rw [nI_eq (hN x lx rx) (hN y ly ry)] at k5
        exact h3 k5
/-- the last names are the same just where states are not told apart -/
theorem names_TA (hw : WF gs fs os) (hE : EX gs fs os (nvF gs fs) pn pt se va ns di od pa st sp wd re du dS dC) : ∃ N : Nat → Nat, HN (2 ^ gs.count 1) (rdK gs fs (nvF gs fs)) pn N ∧ pt = nI (nPt (rdK gs fs (nvF gs fs)) N 0 (2 ^ gs.count 1)) ∧
    ∀ a b, a < 2 ^ gs.count 1 → b < 2 ^ gs.count 1 → rdK gs fs (nvF gs fs) a = true → rdK gs fs (nvF gs fs) b = true → (N a = N b ↔ ¬ TA (nxG gs fs) (2 ^ gs.count 0) (shN gs fs os) a b) := by
  have hp8 := pow8 hw.2.2.1
  have hT := hE.1
  obtain ⟨j, hN, hpt, hst⟩ := hE.2.2.2.2.2
  have h0 : rdK gs fs (nvF gs fs) 0 = true := decide_eq_true walk_0
  have hcl : ∀ s, s < 2 ^ gs.count 1 → rdK gs fs (nvF gs fs) s = true → ∀ c, c < 2 ^ gs.count 0 → ∀ t, nxG gs fs s c = some t → rdK gs fs (nvF gs fs) t = true := by
    intro s hs hr c hc t ht
    rw [rdK, decide_eq_true_eq] at hr ⊢
    exact walk_closed hp8.2 (fun s _ c _ t ht => nxA_lt ht) 256 0 begA (by omega) (IA_beg hp8.1) (fun s hs => absurd hs (by simp)) s hr c hc t ht
  refine ⟨_, hN, hpt, ?_⟩
  generalize hM : spl se va (fun i => os.getD i 0) os.length (nxA gs fs (nvF gs fs)) (2 ^ gs.count 0) (rdK gs fs (nvF gs fs)) = M at *
  have hM0 : ∀ q, M 0 q = 0 := fun q => by rw [← hM]; rfl
  have hMs : ∀ i, M (i + 1) = fiN (rdK gs fs (nvF gs fs)) (M i) (alN se va (fun i => os.getD i 0) os.length (M i) (nxA gs fs (nvF gs fs)) (2 ^ gs.count 0)) := fun i => by rw [← hM]; rfl
  have hMle : ∀ i q, rdK gs fs (nvF gs fs) q = true → M i q ≤ q := fun i q hr => by rw [← hM]; exact spl_le hr
  have hMb : ∀ i q, q < 2 ^ gs.count 1 → rdK gs fs (nvF gs fs) q = true → M i q < 2 ^ 31 := fun i q hq hr => by have := hMle i q hr; omega
  -- other names: told apart
  have up : ∀ i a b, a < 2 ^ gs.count 1 → b < 2 ^ gs.count 1 → rdK gs fs (nvF gs fs) a = true → rdK gs fs (nvF gs fs) b = true → M i a ≠ M i b → TA (nxG gs fs) (2 ^ gs.count 0) (shN gs fs os) a b := by
    intro i
    induction i with
    | zero => intro a b _ _ _ _ h; rw [hM0, hM0] at h; exact absurd rfl h
    | succ i ih =>
      intro a b ha hb hra hrb h
      by_cases c : M i a = M i b
      · rw [hMs i] at h
        have hal : alN se va (fun i => os.getD i 0) os.length (M i) (nxA gs fs (nvF gs fs)) (2 ^ gs.count 0) a b = false := by
          cases e : alN se va (fun i => os.getD i 0) os.length (M i) (nxA gs fs (nvF gs fs)) (2 ^ gs.count 0) a b with
          | false => rfl
          | true => exact absurd (fi_same alN_sym alN_trans hra hrb c e) h
        obtain ⟨c, hc, hd⟩ := (al_net hw hT (fun q hq hr => hMb i q hq hr) hcl ha hb hra hrb).mp hal
        apply TA_in
        refine ⟨c, hc, ?_⟩
        rcases hd with hd | hd | ⟨x, y, h1, h2, h3⟩
        · exact Or.inl hd
        · exact Or.inr (Or.inl hd)
        · refine Or.inr (Or.inr ⟨x, y, h1, h2, ?_⟩)
          rcases h3 with h3 | h3
          · exact Or.inl h3
          · exact Or.inr (ih x y (nxA_lt h1) (nxA_lt h2) (hcl a ha hra c hc x h1) (hcl b hb hrb c hc y h2) h3)
      · exact ih a b ha hb hra hrb c
  intro a b ha hb hra hrb
  constructor
  · intro e hta
    have hR := hta (fun a b => a < 2 ^ gs.count 1 → b < 2 ^ gs.count 1 → rdK gs fs (nvF gs fs) a = true → rdK gs fs (nvF gs fs) b = true → M (j + 1) a ≠ M (j + 1) b) (fun a b hd ha hb hra hrb e => by
      -- a and b are alike to their part's least state
      have hpa := fi_al (rd := rdK gs fs (nvF gs fs)) (N := M j) (al := alN se va (fun i => os.getD i 0) os.length (M j) (nxA gs fs (nvF gs fs)) (2 ^ gs.count 0)) (x := a)
      have hpb := fi_al (rd := rdK gs fs (nvF gs fs)) (N := M j) (al := alN se va (fun i => os.getD i 0) os.length (M j) (nxA gs fs (nvF gs fs)) (2 ^ gs.count 0)) (x := b)
      rw [← hMs j] at hpa hpb
      have hrf : ∀ p q, p = q → alN se va (fun i => os.getD i 0) os.length (M j) (nxA gs fs (nvF gs fs)) (2 ^ gs.count 0) p q = true := fun p q e => by
        subst e
        exact alN_iff.mpr ⟨⟨fun _ _ => rfl, fun _ _ _ _ _ => rfl⟩, fun _ _ => rfl⟩
      have ka : alN se va (fun i => os.getD i 0) os.length (M j) (nxA gs fs (nvF gs fs)) (2 ^ gs.count 0) (M (j + 1) a) a = true := by
        rcases hpa with z | z
        · exact hrf _ _ z
        · exact z
      have kb : alN se va (fun i => os.getD i 0) os.length (M j) (nxA gs fs (nvF gs fs)) (2 ^ gs.count 0) (M (j + 1) b) b = true := by
        rcases hpb with z | z
        · exact hrf _ _ z
        · exact z
      rw [← e] at kb
      have kab := alN_trans _ _ _ (alN_sym _ _ ka) kb
      have hno : ¬ DF (nxG gs fs) (2 ^ gs.count 0) (shN gs fs os) (fun x y => M j x ≠ M j y) a b := fun z => by
        rw [(al_net hw hT (fun q hq hr => hMb j q hq hr) hcl ha hb hra hrb).mpr z] at kab
        cases kab
      apply hno
      obtain ⟨c, hc, hd⟩ := hd
      refine ⟨c, hc, ?_⟩
      rcases hd with hd | hd | ⟨x, y, h1, h2, h3⟩
      · exact Or.inl hd
      · exact Or.inr (Or.inl hd)
      · refine Or.inr (Or.inr ⟨x, y, h1, h2, ?_⟩)
        rcases h3 with h3 | h3
        · exact Or.inl h3
        · refine Or.inr ?_
          have lx := nxA_lt h1
          have ly := nxA_lt h2
          have rx := hcl a ha hra c hc x h1
          have ry := hcl b hb hrb c hc y h2
          have := h3 lx ly rx ry
          rw [hst x lx rx, hst y ly ry] at this
          exact this)
    exact hR ha hb hra hrb e
  · intro h
    exact Classical.byContradiction fun z => h (up (j + 1) a b ha hb hra hrb z)
end GT
end
section
/-! group and count, side by side -/
theorem sum_one {f : Nat → Nat} {x : Nat} : ∀ {L : List Nat}, L.Nodup → (L.map (fun s => if s = x then f s else 0)).sum = if x ∈ L then f x else 0
  | [], _ => by simp
  | y :: L, h => by
    have h2 := List.nodup_cons.mp h
    rw [List.map_cons, List.sum_cons, sum_one h2.2]
    by_cases c : y = x
    · subst c
      rw [if_pos rfl, if_neg h2.1, if_pos List.mem_cons_self, Nat.add_zero]
    · rw [if_neg c, Nat.zero_add]
      by_cases d : x ∈ L
      · rw [if_pos d, if_pos (List.mem_cons_of_mem _ d)]
      · rw [if_neg d, if_neg (fun z => by rcases List.mem_cons.mp z with z | z; exact c z.symm; exact d z)]
theorem sum_add {f g : Nat → Nat} : ∀ (L : List Nat), (L.map (fun s => f s + g s)).sum = (L.map f).sum + (L.map g).sum
  | [] => rfl
  | x :: L => by
    rw [List.map_cons, List.map_cons, List.map_cons, List.sum_cons, List.sum_cons, List.sum_cons, sum_add L]
    omega
theorem sum_in {f : Nat → Nat} {S : Nat} : ∀ {l : List Nat}, l.Nodup → (∀ s, s ∈ l → s < S) → ((List.range' 0 S).map (fun s => if s ∈ l then f s else 0)).sum = (l.map f).sum
  | [], _, _ => by
    have : ∀ L : List Nat, (L.map (fun s => if s ∈ ([] : List Nat) then f s else 0)).sum = 0 := by
      intro L
      induction L with
      | nil => rfl
      | cons x L ih => rw [List.map_cons, List.sum_cons, ih, if_neg (by simp)]
    rw [this]; rfl
  | x :: l, h, hl => by
    have h2 := List.nodup_cons.mp h
    have e : (fun s => if s ∈ x :: l then f s else 0) = fun s => (if s = x then f s else 0) + (if s ∈ l then f s else 0) := by
      funext s
      by_cases c : s = x
      · subst c
        rw [if_pos List.mem_cons_self, if_pos rfl, if_neg h2.1, Nat.add_zero]
      · by_cases d : s ∈ l
        · rw [if_pos (List.mem_cons_of_mem _ d), if_neg c, if_pos d, Nat.zero_add]
        · rw [if_neg (fun z => by rcases List.mem_cons.mp z with z | z; exact c z; exact d z), if_neg c, if_neg d]
    rw [e, sum_add, sum_one List.nodup_range', if_pos (List.mem_range'_1.mpr ⟨by omega, by have := hl x List.mem_cons_self; omega⟩), sum_in h2.2 (fun s hs => hl s (List.mem_cons_of_mem _ hs)), List.map_cons, List.sum_cons]
section QG
variable {gs : List Nat} {fs : List (Nat × Nat)} {os : List Nat} {pn : Nat → Int32} {pt : Int32} {se va : Nat → Int64} {ns di od pa st : Nat → Int32} {sp : Nat → Int64} {wd re du dS dC : Int32}
  {mse mne : Nat → Int32} {mon : Nat → Int64} {mdi map : Nat → Int32}
theorem mdi_lt (hw : WF gs fs os) (hM : EM gs fs os mse mne mon mdi map) {t : Nat} (ht : t < 2 ^ gs.count 1) : mdi t < 0 ↔ t ∉ (WG gs fs).1 := by
  have hd := WG_di hw hM.2.1 t ht
  rw [rdK, decide_eq_false_iff_not] at hd
  exact hd
theorem p_leastL (hw : WF gs fs os) (hM : EM gs fs os mse mne mon mdi map) {s : Nat} (hs : s < 2 ^ gs.count 1) (hr : s ∈ (WG gs fs).1) : ∀ (k n t : Nat), t + k = s → k < n → ∃ u, L_Mod_least_2 mdi map (nI s) n (nI t) = some (nI u) ∧ t ≤ u ∧ u ≤ s ∧ u ∈ (WG gs fs).1 ∧ map (256 * s + u) = 0 ∧ ∀ v, t ≤ v → v < u → v ∈ (WG gs fs).1 → map (256 * s + v) ≠ 0 := by
  have hp8 := pow8 hw.2.2.1
  intro k
  induction k with
  | zero =>
    intro n t h1 h2
    obtain ⟨n, rfl⟩ : ∃ z, n = z + 1 := ⟨n - 1, by omega⟩
    have e : t = s := by omega
    subst e
    rw [L_Mod_least_2, gd_nI (by omega) (by decide), nI_clamp (by omega), if_neg (fun z => (mdi_lt hw hM hs).mp z hr), i256m, gd_nI (by omega) (by decide), nI_clamp (by omega), if_pos (hM.2.2.2.1 t (by omega))]
    exact ⟨t, rfl, Nat.le_refl _, Nat.le_refl _, hr, hM.2.2.2.1 t (by omega), fun v h3 h4 => absurd h4 (by omega)⟩
  | succ k ih =>
    intro n t h1 h2
    obtain ⟨n, rfl⟩ : ∃ z, n = z + 1 := ⟨n - 1, by omega⟩
    have ht : t < 2 ^ gs.count 1 := by omega
    have skip : (t ∈ (WG gs fs).1 → map (256 * s + t) ≠ 0) → ∃ u, L_Mod_least_2 mdi map (nI s) n (nI (t + 1)) = some (nI u) ∧ t ≤ u ∧ u ≤ s ∧ u ∈ (WG gs fs).1 ∧ map (256 * s + u) = 0 ∧ ∀ v, t ≤ v → v < u → v ∈ (WG gs fs).1 → map (256 * s + v) ≠ 0 := by
      intro h
      obtain ⟨u, u1, u2, u3, u4, u5, u6⟩ := ih n (t + 1) (by omega) (by omega)
      refine ⟨u, u1, by omega, u3, u4, u5, fun v h3 h4 => ?_⟩
      by_cases z : v = t
      · rw [z]; exact h
      · exact u6 v (by omega) h4
    rw [L_Mod_least_2, gd_nI (by omega) (by decide), nI_clamp (show t < 2 ^ 31 by omega), i256m, gd_nI (show 256 * s + t < 65536 by omega) (by decide), nI_clamp (show 256 * s + t < 2 ^ 31 by omega), nI_1]
    by_cases c1 : mdi t < 0
    · rw [if_pos c1]
      exact skip (fun z => absurd z ((mdi_lt hw hM ht).mp c1))
    · rw [if_neg c1]
      by_cases c2 : map (256 * s + t) = 0
      · rw [if_pos c2]
        exact ⟨t, rfl, Nat.le_refl _, by omega, Classical.byContradiction fun z => c1 ((mdi_lt hw hM ht).mpr z), c2, fun v h3 h4 => absurd h4 (by omega)⟩
      · rw [if_neg c2]
        exact skip (fun _ => c2)
/-- names of groups that fit both sides -/
def NG (gs : List Nat) (fs : List (Nat × Nat)) (os : List Nat) (N : Nat → Nat) : Prop := (∀ q, q < 2 ^ gs.count 1 → rdK gs fs (nvF gs fs) q = true → N q ≤ q ∧ rdK gs fs (nvF gs fs) (N q) = true ∧ N (N q) = N q) ∧ ∀ a b, a < 2 ^ gs.count 1 → b < 2 ^ gs.count 1 → rdK gs fs (nvF gs fs) a = true → rdK gs fs (nvF gs fs) b = true → (N a = N b ↔ ¬ TA (nxG gs fs) (2 ^ gs.count 0) (shN gs fs os) a b)
theorem p_least (hw : WF gs fs os) (hM : EM gs fs os mse mne mon mdi map) {N : Nat → Nat} (hN : NG gs fs os N) {s : Nat} (hs : s < 2 ^ gs.count 1) (hr : s ∈ (WG gs fs).1) : m_Mod_least mdi map (nI s) = some (nI (N s)) := by
  have hp8 := pow8 hw.2.2.1
  obtain ⟨u, u1, u2, u3, u4, u5, u6⟩ := p_leastL hw hM hs hr s fu 0 (by omega) (by rw [fu]; omega)
  have u1' : L_Mod_least_2 mdi map (nI s) fu (0 : Int32) = some (nI u) := u1
  rw [m_Mod_least, u1', Option.bind_some]
  have hrs : rdK gs fs (nvF gs fs) s = true := decide_eq_true hr
  have hru : rdK gs fs (nvF gs fs) u = true := decide_eq_true u4
  obtain ⟨n1, n2, n3⟩ := hN.1 s hs hrs
  have n2' : N s ∈ (WG gs fs).1 := of_decide_eq_true n2
  have e1 : N s = N u := (hN.2 s u hs (by omega) hrs hru).mpr (fun z => (hM.2.2.2.2 s u hs (by omega) hr u4).mpr z u5)
  have e2 : ¬ TA (nxG gs fs) (2 ^ gs.count 0) (shN gs fs os) s (N s) := (hN.2 s (N s) hs (by omega) hrs n2).mp n3.symm
  have e3 : N u ≤ u := (hN.1 u (by omega) hru).1
  have e4 : u ≤ N s := Classical.byContradiction fun z => e2 ((hM.2.2.2.2 s (N s) hs (by omega) hr n2').mp (u6 (N s) (Nat.zero_le _) (by omega) n2'))
  rw [show u = N s by omega]
theorem EX_NG (hw : WF gs fs os) (hE : EX gs fs os (nvF gs fs) pn pt se va ns di od pa st sp wd re du dS dC) : ∃ N, NG gs fs os N ∧ (∀ q, q < 2 ^ gs.count 1 → q ∈ (WG gs fs).1 → pn q = nI (N q)) ∧ pt = nI (nPt (rdK gs fs (nvF gs fs)) N 0 (2 ^ gs.count 1)) := by
  obtain ⟨N, h1, h2, h3⟩ := names_TA hw hE
  exact ⟨N, ⟨fun q hq hr => (h1 q hq hr).2, h3⟩, fun q hq hr => (h1 q hq (decide_eq_true hr)).1, h2⟩
theorem q_group (hw : WF gs fs os) {x y : Int32} (hX : XX gs fs os pn pt se va ns di od pa st sp wd re du dS dC mse mne mon mdi map x y) (co : Int32) (out : Nat → Int64) (a : Int32) :
    ∃ k o b, m_Law_group (nI (gs.count 1)) pn di x out a = some (k, o) ∧ m_Mod_group co (nI (gs.count 1)) y mdi map a = some (b, k) ∧ (k = 0 → o 0 = b.toInt64) := by
  have hK := hw.2.2.1
  have hp8 := pow8 hK
  rw [m_Law_group, m_Exp_group, m_Mod_group]
  simp only [sx_let]
  rcases ix_cases a (n := 2 ^ gs.count 1) (by omega) with h | ⟨j, hj, rfl⟩
  · obtain ⟨e1, e2⟩ := rs_no hK h
    rcases hX with ⟨rfl, rfl⟩ | ⟨rfl, rfl, _, _⟩
    · exact ⟨1, out, 0, by rw [rx_0]; rfl, by rw [if_pos rfl, e2, Option.bind_some, if_pos rfl, fails_1]; rfl, fun q => absurd q (by decide)⟩
    · exact ⟨2, out, 0, by rw [rx_1, Option.bind_some, se_r, e1]; rfl, by rw [if_neg (by decide), e2, Option.bind_some, if_pos rfl, fails_2]; rfl, fun q => absurd q (by decide)⟩
  · obtain ⟨e1, e2⟩ := rs_yes hK hj
    rcases hX with ⟨rfl, rfl⟩ | ⟨rfl, rfl, hE, hM⟩
    · exact ⟨1, out, 0, by rw [rx_0]; rfl, by rw [if_pos rfl, e2, Option.bind_some, if_neg (by decide), fails_1]; rfl, fun q => absurd q (by decide)⟩
    · obtain ⟨N, n1, n2, _⟩ := EX_NG hw hE
      have hIA := WG_IA (fs := fs) hw
      have hlen := WG_len (fs := fs) hw
      have hr : ∀ X : Int32, (if (0 : Int32) ≤ mdi j then (m_Mod_least mdi map (nI j)).bind (fun v10 => some (v10, (0 : Int32))) else some ((-1 : Int32), (0 : Int32))) = some (X, 0) → (if (1 : Int32) = 0 then (m_Mod_isState (nI (gs.count 1)) (nI j)).bind (fun v2 => (if v2 = (0 : Int32) then (m_Mod_fails co 1 1).bind (fun v5 => (if v5.1 = (0 : Int32) then gd (vp_in (nI j) 256) ((if (0 : Int32) ≤ mdi (nI j).toNatClampNeg then (m_Mod_least mdi map (nI j)).bind (fun v10 => some (v10, v5.2)) else some ((-1 : Int32), v5.2))) else some ((0 : Int32), v5.2))) else (m_Mod_fails co 1 0).bind (fun v5 => (if v5.1 = (0 : Int32) then gd (vp_in (nI j) 256) ((if (0 : Int32) ≤ mdi (nI j).toNatClampNeg then (m_Mod_least mdi map (nI j)).bind (fun v10 => some (v10, v5.2)) else some ((-1 : Int32), v5.2))) else some ((0 : Int32), v5.2))))) else (m_Mod_isState (nI (gs.count 1)) (nI j)).bind (fun v2 => (if v2 = (0 : Int32) then (m_Mod_fails co 0 1).bind (fun v5 => (if v5.1 = (0 : Int32) then gd (vp_in (nI j) 256) ((if (0 : Int32) ≤ mdi (nI j).toNatClampNeg then (m_Mod_least mdi map (nI j)).bind (fun v10 => some (v10, v5.2)) else some ((-1 : Int32), v5.2))) else some ((0 : Int32), v5.2))) else (m_Mod_fails co 0 0).bind (fun v5 => (if v5.1 = (0 : Int32) then gd (vp_in (nI j) 256) ((if (0 : Int32) ≤ mdi (nI j).toNatClampNeg then (m_Mod_least mdi map (nI j)).bind (fun v10 => some (v10, v5.2)) else some ((-1 : Int32), v5.2))) else some ((0 : Int32), v5.2)))))) = some (X, 0) := by
        intro X hX
        rw [if_neg (show ¬ (1 : Int32) = 0 by decide), e2, Option.bind_some, if_neg (show ¬ (1 : Int32) = 0 by decide), fails_0, Option.bind_some, if_pos rfl, gd_nI (by omega) (by decide), nI_clamp (by omega)]
        exact hX
      by_cases c : j ∈ (WG gs fs).1
      · have hdl := (hIA.2.1 _ c).2
        have hne : ¬ di j = -1 := by rw [hE.2.1.1 j hj, if_pos c]; exact m1_ne (show (WG gs fs).2.1 j < 2 ^ 31 by omega)
        refine ⟨0, vp_updL out 0 (pn j).toInt64, nI (N j), ?_, hr _ ?_, fun _ => by rw [out0, n2 j hj c]⟩
        · rw [rx_1, Option.bind_some, se_r, e1, Option.bind_some, se_r, gd_nI (by omega) (by decide), nI_clamp (by omega), if_neg hne, gd_nI (by omega) (by decide), Option.bind_some, se_r, in01, cl0]
        · rw [if_pos (Int32.not_lt.mp (fun z => (mdi_lt hw hM hj).mp z c)), p_least hw hM n1 hj c, Option.bind_some]
      · have he : di j = -1 := by rw [hE.2.1.1 j hj, if_neg c]
        refine ⟨0, vp_updL out 0 (-1 : Int32).toInt64, -1, ?_, hr _ ?_, fun _ => by rw [out0]⟩
        · rw [rx_1, Option.bind_some, se_r, e1, Option.bind_some, se_r, gd_nI (by omega) (by decide), nI_clamp (by omega), if_pos he, Option.bind_some, se_r, in01, cl0]
        · rw [if_neg (fun z => Int32.not_lt.mpr z ((mdi_lt hw hM hj).mpr c))]
end QG
end
section
/-! count, side by side -/
section QC
variable {gs : List Nat} {fs : List (Nat × Nat)} {os : List Nat} {pn : Nat → Int32} {pt : Int32} {se va : Nat → Int64} {ns di od pa st : Nat → Int32} {sp : Nat → Int64} {wd re du dS dC : Int32}
  {mse mne : Nat → Int32} {mon : Nat → Int64} {mdi map : Nat → Int32}
theorem p_c185 (hw : WF gs fs os) (hM : EM gs fs os mse mne mon mdi map) {s : Nat} (hs : s < 2 ^ gs.count 1) : ∀ (k n c q : Nat), c + k = 2 ^ gs.count 0 → k < n → L_Mod_count_185 (nI (gs.count 0)) mse (nI s) n (nI q) (nI c) = some (nI (q + (List.range' c k).countP (fun c => (nxG gs fs s c).isNone))) := by
  have hI := hw.2.1
  have hp4 := pow4 hI
  have hp8 := pow8 hw.2.2.1
  have hB := TM_TB hM.1
  intro k
  induction k with
  | zero =>
    intro n c q h1 h2
    obtain ⟨n, rfl⟩ : ∃ z, n = z + 1 := ⟨n - 1, by omega⟩
    rw [L_Mod_count_185, p_mchoices (by omega), Option.bind_some, if_pos ((nI_leI (by omega) (by omega)).mpr (by omega))]
    rfl
  | succ k ih =>
    intro n c q h1 h2
    obtain ⟨n, rfl⟩ : ∃ z, n = z + 1 := ⟨n - 1, by omega⟩
    rw [L_Mod_count_185, p_mchoices (by omega), Option.bind_some, if_neg (by rw [nI_leI (by omega) (by omega)]; omega), i16m, gd_nI (show 16 * s + c < 4096 by omega) (by decide), nI_clamp (by omega), nI_1, nI_1, List.range'_succ, List.countP_cons]
    cases e : nxG gs fs s c with
    | none =>
      rw [if_pos ((hB s hs c (by omega)).1 e), ih n (c + 1) (q + 1) (by omega) (by omega), if_pos (show (none : Option Nat).isNone = true from rfl), Nat.add_assoc, Nat.add_comm 1]
    | some t =>
      rw [if_neg (by rw [((hB s hs c (by omega)).2 t e).1]; decide), ih n (c + 1) q (by omega) (by omega)]
      rfl
def mxS (gs : List Nat) (fs : List (Nat × Nat)) (b s : Nat) : Nat := if s ∈ (WG gs fs).1 ∧ b < (WG gs fs).2.1 s then (WG gs fs).2.1 s else b
theorem p_c112 (hw : WF gs fs os) (hM : EM gs fs os mse mne mon mdi map) {N : Nat → Nat} (hN : NG gs fs os N) : ∀ (k n i a b c d : Nat), i + k = 2 ^ gs.count 1 → k < n → b < 1000 →
    L_Mod_count_112 (nI (gs.count 0)) (nI (gs.count 1)) mse mdi map n (nI a) (nI b) (nI c) (nI d) (nI i) = some (nI (a + (List.range' i k).countP (fun s => decide (s ∈ (WG gs fs).1))), nI ((List.range' i k).foldl (mxS gs fs) b), nI (c + nPt (rdK gs fs (nvF gs fs)) N i k), nI (d + ((List.range' i k).map (fun s => if s ∈ (WG gs fs).1 then uN (nxG gs fs) (2 ^ gs.count 0) s else 0)).sum)) := by
  have hK := hw.2.2.1
  have hp4 := pow4 hw.2.1
  have hp8 := pow8 hK
  have hIA := WG_IA (fs := fs) hw
  have hlen := WG_len (fs := fs) hw
  intro k
  induction k with
  | zero =>
    intro n i a b c d h1 h2 hb
    obtain ⟨n, rfl⟩ : ∃ z, n = z + 1 := ⟨n - 1, by omega⟩
    rw [L_Mod_count_112, p_mstates hK, Option.bind_some, if_pos ((nI_leI (by omega) (by omega)).mpr (by omega))]
    rfl
  | succ k ih =>
    intro n i a b c d h1 h2 hb
    obtain ⟨n, rfl⟩ : ∃ z, n = z + 1 := ⟨n - 1, by omega⟩
    have hi : i < 2 ^ gs.count 1 := by omega
    rw [L_Mod_count_112, p_mstates hK, Option.bind_some, if_neg (by rw [nI_leI (by omega) (by omega)]; omega)]
    simp only [sx_let, gd_nI (show i < 256 by omega) (show 256 < 2 ^ 31 by decide), nI_clamp (show i < 2 ^ 31 by omega), nI_1]
    rw [List.range'_succ, List.countP_cons, List.foldl_cons, List.map_cons, List.sum_cons, nPt, List.range'_succ, List.countP_cons]
    by_cases c1 : i ∈ (WG gs fs).1
    · have hdl := (hIA.2.1 _ c1).2
      have hNi := (hN.1 i hi (decide_eq_true c1)).1
      have e185 : L_Mod_count_185 (nI (gs.count 0)) mse (nI i) fu (nI d) (0 : Int32) = _ := p_c185 hw hM hi (2 ^ gs.count 0) fu 0 d (by omega) (by rw [fu]; omega)
      have euN : (List.range' 0 (2 ^ gs.count 0)).countP (fun c => (nxG gs fs i c).isNone) = uN (nxG gs fs) (2 ^ gs.count 0) i := rfl
      rw [euN] at e185
      have er : rdK gs fs (nvF gs fs) i = true := decide_eq_true c1
      rw [if_pos (Int32.not_lt.mp (fun z => (mdi_lt hw hM hi).mp z c1)), p_least hw hM hN hi c1, e185, hM.2.1 i hi, if_pos c1]
      simp only [Option.bind_some, nI_leI (show (WG gs fs).2.1 i < 2 ^ 31 by omega) (show b < 2 ^ 31 by omega), nI_eq (show N i < 2 ^ 31 by omega) (show i < 2 ^ 31 by omega)]
      have fin : ∀ b2 c2, b2 = mxS gs fs b i → c2 = c + (if (rdK gs fs (nvF gs fs) i && decide (N i = i)) = true then 1 else 0) → L_Mod_count_112 (nI (gs.count 0)) (nI (gs.count 1)) mse mdi map n (nI (a + 1)) (nI b2) (nI c2) (nI (d + uN (nxG gs fs) (2 ^ gs.count 0) i)) (nI (i + 1)) = some (nI (a + ((List.range' (i + 1) k).countP (fun s => decide (s ∈ (WG gs fs).1)) + if decide (i ∈ (WG gs fs).1) = true then 1 else 0)), nI ((List.range' (i + 1) k).foldl (mxS gs fs) (mxS gs fs b i)), nI (c + ((List.range' (i + 1) k).countP (fun q => rdK gs fs (nvF gs fs) q && decide (N q = q)) + if (rdK gs fs (nvF gs fs) i && decide (N i = i)) = true then 1 else 0)), nI (d + ((if i ∈ (WG gs fs).1 then uN (nxG gs fs) (2 ^ gs.count 0) i else 0) + ((List.range' (i + 1) k).map (fun s => if s ∈ (WG gs fs).1 then uN (nxG gs fs) (2 ^ gs.count 0) s else 0)).sum))) := by
        intro b2 c2 hb2 hc2
        have hb3 : mxS gs fs b i < 1000 := by rw [mxS]; split <;> omega
        rw [ih n (i + 1) (a + 1) b2 c2 (d + uN (nxG gs fs) (2 ^ gs.count 0) i) (by omega) (by omega) (by rw [hb2]; exact hb3), hb2, hc2, if_pos (decide_eq_true c1), if_pos c1, nPt]
        congr 1
        refine Prod.ext ?_ (Prod.ext rfl (Prod.ext ?_ ?_))
        · dsimp only; congr 1; omega
        · dsimp only; congr 1; omega
        · dsimp only; congr 1; omega
      by_cases c2 : (WG gs fs).2.1 i ≤ b
      · rw [if_pos c2]
        have hmx : b = mxS gs fs b i := by rw [mxS, if_neg (by omega)]
        by_cases c3 : N i = i
        · rw [if_pos c3]; exact fin b (c + 1) hmx (by rw [er, decide_eq_true c3]; rfl)
        · rw [if_neg c3]; exact fin b c hmx (by rw [er, decide_eq_false c3]; rfl)
      · rw [if_neg c2]
        have hmx : (WG gs fs).2.1 i = mxS gs fs b i := by rw [mxS, if_pos ⟨c1, by omega⟩]
        by_cases c3 : N i = i
        · rw [if_pos c3]; exact fin _ (c + 1) hmx (by rw [er, decide_eq_true c3]; rfl)
        · rw [if_neg c3]; exact fin _ c hmx (by rw [er, decide_eq_false c3]; rfl)
    · have er : rdK gs fs (nvF gs fs) i = false := decide_eq_false c1
      rw [if_neg (fun z => Int32.not_lt.mpr z ((mdi_lt hw hM hi).mpr c1)), ih n (i + 1) a b c d (by omega) (by omega) hb, if_neg (by simpa using c1), if_neg c1, er, nPt, mxS, if_neg (fun z => c1 z.1)]
      congr 1
      refine Prod.ext rfl (Prod.ext rfl (Prod.ext rfl ?_))
      dsimp only; congr 1; omega
theorem mx_max {l : List Nat} : ∀ {b : Nat}, (b ≤ l.foldl (mxS gs fs) b ∧ ∀ s, s ∈ l → s ∈ (WG gs fs).1 → (WG gs fs).2.1 s ≤ l.foldl (mxS gs fs) b) ∧ (l.foldl (mxS gs fs) b = b ∨ ∃ s, s ∈ (WG gs fs).1 ∧ l.foldl (mxS gs fs) b = (WG gs fs).2.1 s) := by
  induction l with
  | nil => intro b; exact ⟨⟨Nat.le_refl _, fun s hs => absurd hs (by simp)⟩, Or.inl rfl⟩
  | cons x l ih =>
    intro b
    rw [List.foldl_cons]
    obtain ⟨⟨h1, h2⟩, h3⟩ := ih (b := mxS gs fs b x)
    have e : b ≤ mxS gs fs b x ∧ (x ∈ (WG gs fs).1 → (WG gs fs).2.1 x ≤ mxS gs fs b x) ∧ (mxS gs fs b x = b ∨ (x ∈ (WG gs fs).1 ∧ mxS gs fs b x = (WG gs fs).2.1 x)) := by
      rw [mxS]
      split
      · rename_i c; exact ⟨by omega, fun _ => Nat.le_refl _, Or.inr ⟨c.1, rfl⟩⟩
      · rename_i c; exact ⟨Nat.le_refl _, fun z => Classical.byContradiction fun w => c ⟨z, by omega⟩, Or.inl rfl⟩
    refine ⟨⟨Nat.le_trans e.1 h1, fun s hs hr => ?_⟩, ?_⟩
    · rcases List.mem_cons.mp hs with z | z
      · rw [z] at hr ⊢; exact Nat.le_trans (e.2.1 hr) h1
      · exact h2 s z hr
    · rcases h3 with h3 | h3
      · rw [h3]
        rcases e.2.2 with z | ⟨z1, z2⟩
        · exact Or.inl z
        · exact Or.inr ⟨x, z1, z2⟩
      · exact Or.inr h3
theorem q_count (hw : WF gs fs os) {so ra stt li nl ouu : Nat → Int32} {gT iT lT oT : Int32} (hR : RC so ra stt li nl ouu gT iT lT oT gs fs os) {ga fe inp la ou : Int32} {mso mnu mto mfr moo mng : Nat → Int32} (hRM : RM ga fe inp la ou mso mnu mto mfr moo mng gs fs os)
    {x y : Int32} (hX : XX gs fs os pn pt se va ns di od pa st sp wd re du dS dC mse mne mon mdi map x y) (co : Int32) (a : Int32) :
    ∃ b, m_Exp_count stt gT iT lT oT pt di od re du x a = some b ∧ m_Mod_count co ga fe inp la ou y mse mdi map a = some (b, 0) := by
  have hG := hw.1
  have hK := hw.2.2.1
  have hp8 := pow8 hK
  have hF : m_Net_feedTotal stt gT = some (nI fs.length) := by
    rw [m_Net_feedTotal, hR.1, gd_nI (by omega) (by decide), nI_clamp (by omega), hR.2.2.2.2.2.1 _ (Nat.le_refl _), Sf_all (fun f hf => (hw.2.2.2.2.2.1 f hf).1)]
  obtain ⟨rfl, rfl, rfl, rfl, rfl, -⟩ := hRM
  obtain ⟨rfl, rfl, rfl, rfl, -⟩ := hR
  have e9 : (a ≤ (9 : Int32)) ↔ a < nI 10 := by
    have : (9 : Int32).toInt = 9 := by decide
    have : (nI 10).toInt = 10 := by decide
    rw [Int32.le_iff_toInt_le, Int32.lt_iff_toInt_lt]
    omega
  rw [m_Exp_count, m_Mod_count, hF, Option.bind_some]
  rcases ix_cases a (n := 10) (by decide) with h | ⟨j, hj, rfl⟩
  · refine ⟨-1, ?_, ?_⟩
    · have hne : ∀ j : Nat, j < 10 → ¬ a = nI j := by
        intro j hj e
        rcases h with h | h
        · rw [e] at h; exact nI_pos (by omega) h
        · rw [e] at h; exact h ((nI_ltI (by omega) (by decide)).mpr hj)
      rw [if_neg (show ¬ a = (0 : Int32) from hne 0 (by decide)), if_neg (show ¬ a = (1 : Int32) from hne 1 (by decide)), if_neg (show ¬ a = (2 : Int32) from hne 2 (by decide)), if_neg (show ¬ a = (3 : Int32) from hne 3 (by decide)), if_neg (show ¬ a = (4 : Int32) from hne 4 (by decide)), if_neg (show ¬ a = (5 : Int32) from hne 5 (by decide)), if_neg (show ¬ a = (6 : Int32) from hne 6 (by decide)), if_neg (show ¬ a = (7 : Int32) from hne 7 (by decide)), if_neg (show ¬ a = (8 : Int32) from hne 8 (by decide)), if_neg (show ¬ a = (9 : Int32) from hne 9 (by decide))]
    · by_cases c : a < 0
      · rw [if_pos c]
      · rw [if_neg c, if_neg (by rw [e9]; rcases h with h | h; exact absurd h c; exact h)]
  · have hX2 := hX
    rcases (by omega : j = 0 ∨ j = 1 ∨ j = 2 ∨ j = 3 ∨ j = 4 ∨ j = 5 ∨ 6 ≤ j) with e | e | e | e | e | e | h6
    · subst e
      exact ⟨nI gs.length, by rw [if_pos (show nI 0 = (0 : Int32) by decide)], by rw [if_neg (show ¬ nI 0 < (0 : Int32) by decide), if_pos (show nI 0 ≤ (9 : Int32) by decide), if_neg (show ¬ (5 : Int32) ≤ nI 0 by decide), if_pos (show nI 0 = (0 : Int32) by decide)]⟩
    · subst e
      exact ⟨nI fs.length, by rw [if_neg (show ¬ nI 1 = (0 : Int32) by decide), if_pos (show nI 1 = (1 : Int32) by decide)], by rw [if_neg (show ¬ nI 1 < (0 : Int32) by decide), if_pos (show nI 1 ≤ (9 : Int32) by decide), if_neg (show ¬ (5 : Int32) ≤ nI 1 by decide), if_neg (show ¬ nI 1 = (0 : Int32) by decide), if_pos (show nI 1 = (1 : Int32) by decide)]⟩
    · subst e
      exact ⟨nI (gs.count 0), by rw [if_neg (show ¬ nI 2 = (0 : Int32) by decide), if_neg (show ¬ nI 2 = (1 : Int32) by decide), if_pos (show nI 2 = (2 : Int32) by decide)], by rw [if_neg (show ¬ nI 2 < (0 : Int32) by decide), if_pos (show nI 2 ≤ (9 : Int32) by decide), if_neg (show ¬ (5 : Int32) ≤ nI 2 by decide), if_neg (show ¬ nI 2 = (0 : Int32) by decide), if_neg (show ¬ nI 2 = (1 : Int32) by decide), if_pos (show nI 2 = (2 : Int32) by decide)]⟩
    · subst e
      exact ⟨nI (gs.count 1), by rw [if_neg (show ¬ nI 3 = (0 : Int32) by decide), if_neg (show ¬ nI 3 = (1 : Int32) by decide), if_neg (show ¬ nI 3 = (2 : Int32) by decide), if_pos (show nI 3 = (3 : Int32) by decide)], by rw [if_neg (show ¬ nI 3 < (0 : Int32) by decide), if_pos (show nI 3 ≤ (9 : Int32) by decide), if_neg (show ¬ (5 : Int32) ≤ nI 3 by decide), if_neg (show ¬ nI 3 = (0 : Int32) by decide), if_neg (show ¬ nI 3 = (1 : Int32) by decide), if_neg (show ¬ nI 3 = (2 : Int32) by decide), if_pos (show nI 3 = (3 : Int32) by decide)]⟩
    · subst e
      exact ⟨nI os.length, by rw [if_neg (show ¬ nI 4 = (0 : Int32) by decide), if_neg (show ¬ nI 4 = (1 : Int32) by decide), if_neg (show ¬ nI 4 = (2 : Int32) by decide), if_neg (show ¬ nI 4 = (3 : Int32) by decide), if_pos (show nI 4 = (4 : Int32) by decide)], by rw [if_neg (show ¬ nI 4 < (0 : Int32) by decide), if_pos (show nI 4 ≤ (9 : Int32) by decide), if_neg (show ¬ (5 : Int32) ≤ nI 4 by decide), if_neg (show ¬ nI 4 = (0 : Int32) by decide), if_neg (show ¬ nI 4 = (1 : Int32) by decide), if_neg (show ¬ nI 4 = (2 : Int32) by decide), if_neg (show ¬ nI 4 = (3 : Int32) by decide)]⟩
    · subst e
      rcases hX with ⟨rfl, rfl⟩ | ⟨rfl, rfl, _, _⟩
      · exact ⟨0, by rw [if_neg (show ¬ nI 5 = (0 : Int32) by decide), if_neg (show ¬ nI 5 = (1 : Int32) by decide), if_neg (show ¬ nI 5 = (2 : Int32) by decide), if_neg (show ¬ nI 5 = (3 : Int32) by decide), if_neg (show ¬ nI 5 = (4 : Int32) by decide), if_pos (show nI 5 = (5 : Int32) by decide), if_pos rfl], by rw [if_neg (show ¬ nI 5 < (0 : Int32) by decide), if_pos (show nI 5 ≤ (9 : Int32) by decide), if_pos (show (5 : Int32) ≤ nI 5 by decide), if_pos (show nI 5 = (5 : Int32) by decide), if_pos rfl]⟩
      · exact ⟨1, by rw [if_neg (show ¬ nI 5 = (0 : Int32) by decide), if_neg (show ¬ nI 5 = (1 : Int32) by decide), if_neg (show ¬ nI 5 = (2 : Int32) by decide), if_neg (show ¬ nI 5 = (3 : Int32) by decide), if_neg (show ¬ nI 5 = (4 : Int32) by decide), if_pos (show nI 5 = (5 : Int32) by decide), if_neg (show ¬ (1 : Int32) = 0 by decide)], by rw [if_neg (show ¬ nI 5 < (0 : Int32) by decide), if_pos (show nI 5 ≤ (9 : Int32) by decide), if_pos (show (5 : Int32) ≤ nI 5 by decide), if_pos (show nI 5 = (5 : Int32) by decide), if_neg (show ¬ (1 : Int32) = 0 by decide)]⟩
    · rcases hX with ⟨rfl, rfl⟩ | ⟨rfl, rfl, hE, hM⟩
      · rcases (by omega : j = 6 ∨ j = 7 ∨ j = 8 ∨ j = 9) with e | e | e | e <;> subst e
        · exact ⟨0, by rw [if_neg (show ¬ nI 6 = (0 : Int32) by decide), if_neg (show ¬ nI 6 = (1 : Int32) by decide), if_neg (show ¬ nI 6 = (2 : Int32) by decide), if_neg (show ¬ nI 6 = (3 : Int32) by decide), if_neg (show ¬ nI 6 = (4 : Int32) by decide), if_neg (show ¬ nI 6 = (5 : Int32) by decide), if_pos (show nI 6 = (6 : Int32) by decide), if_pos rfl], by rw [if_neg (show ¬ nI 6 < (0 : Int32) by decide), if_pos (show nI 6 ≤ (9 : Int32) by decide), if_pos (show (5 : Int32) ≤ nI 6 by decide), if_neg (show ¬ nI 6 = (5 : Int32) by decide), if_pos rfl, if_pos rfl]⟩
        · exact ⟨0, by rw [if_neg (show ¬ nI 7 = (0 : Int32) by decide), if_neg (show ¬ nI 7 = (1 : Int32) by decide), if_neg (show ¬ nI 7 = (2 : Int32) by decide), if_neg (show ¬ nI 7 = (3 : Int32) by decide), if_neg (show ¬ nI 7 = (4 : Int32) by decide), if_neg (show ¬ nI 7 = (5 : Int32) by decide), if_neg (show ¬ nI 7 = (6 : Int32) by decide), if_pos (show nI 7 = (7 : Int32) by decide), if_pos rfl], by rw [if_neg (show ¬ nI 7 < (0 : Int32) by decide), if_pos (show nI 7 ≤ (9 : Int32) by decide), if_pos (show (5 : Int32) ≤ nI 7 by decide), if_neg (show ¬ nI 7 = (5 : Int32) by decide), if_pos rfl, if_pos rfl]⟩
        · exact ⟨0, by rw [if_neg (show ¬ nI 8 = (0 : Int32) by decide), if_neg (show ¬ nI 8 = (1 : Int32) by decide), if_neg (show ¬ nI 8 = (2 : Int32) by decide), if_neg (show ¬ nI 8 = (3 : Int32) by decide), if_neg (show ¬ nI 8 = (4 : Int32) by decide), if_neg (show ¬ nI 8 = (5 : Int32) by decide), if_neg (show ¬ nI 8 = (6 : Int32) by decide), if_neg (show ¬ nI 8 = (7 : Int32) by decide), if_pos (show nI 8 = (8 : Int32) by decide), if_pos rfl], by rw [if_neg (show ¬ nI 8 < (0 : Int32) by decide), if_pos (show nI 8 ≤ (9 : Int32) by decide), if_pos (show (5 : Int32) ≤ nI 8 by decide), if_neg (show ¬ nI 8 = (5 : Int32) by decide), if_pos rfl, if_pos rfl]⟩
        · exact ⟨0, by rw [if_neg (show ¬ nI 9 = (0 : Int32) by decide), if_neg (show ¬ nI 9 = (1 : Int32) by decide), if_neg (show ¬ nI 9 = (2 : Int32) by decide), if_neg (show ¬ nI 9 = (3 : Int32) by decide), if_neg (show ¬ nI 9 = (4 : Int32) by decide), if_neg (show ¬ nI 9 = (5 : Int32) by decide), if_neg (show ¬ nI 9 = (6 : Int32) by decide), if_neg (show ¬ nI 9 = (7 : Int32) by decide), if_neg (show ¬ nI 9 = (8 : Int32) by decide), if_pos (show nI 9 = (9 : Int32) by decide), if_pos rfl], by rw [if_neg (show ¬ nI 9 < (0 : Int32) by decide), if_pos (show nI 9 ≤ (9 : Int32) by decide), if_pos (show (5 : Int32) ≤ nI 9 by decide), if_neg (show ¬ nI 9 = (5 : Int32) by decide), if_pos rfl, if_pos rfl]⟩
      · have hIA := WG_IA (fs := fs) hw
        have hlen := WG_len (fs := fs) hw
        obtain ⟨N, n1, _, n3⟩ := EX_NG hw hE
        have e112 : L_Mod_count_112 (nI (gs.count 0)) (nI (gs.count 1)) mse mdi map fu (0 : Int32) (0 : Int32) (0 : Int32) (0 : Int32) (0 : Int32) = _ := p_c112 hw hM n1 (2 ^ gs.count 1) fu 0 0 0 0 0 (by omega) (by rw [fu]; omega) (by omega)
        have cc := cnt_in hIA.1 (fun s hs => (hIA.2.1 s hs).1) (fun _ => true)
        have c2 : (List.range' 0 (2 ^ gs.count 1)).countP (fun s => decide (s ∈ (WG gs fs).1)) = (List.range' 0 (2 ^ gs.count 1)).countP (fun s => decide (s ∈ (WG gs fs).1) && true) := by
          congr 1
          funext s
          rw [Bool.and_true]
        have hsum := sum_in (f := uN (nxG gs fs) (2 ^ gs.count 0)) hIA.1 (fun s hs => (hIA.2.1 s hs).1)
        have hgr := p_greatest hp8.2 hE.2.1 hE.2.2.1 hlen.2
        have hil : (WG gs fs).1.length - 1 < (WG gs fs).1.length := by omega
        have hlm : (WG gs fs).1.getD ((WG gs fs).1.length - 1) 0 ∈ (WG gs fs).1 := by rw [getD_at hil]; exact List.getElem_mem _
        have hmx : (List.range' 0 (2 ^ gs.count 1)).foldl (mxS gs fs) 0 = (WG gs fs).2.1 ((WG gs fs).1.getD ((WG gs fs).1.length - 1) 0) := by
          obtain ⟨⟨_, m2⟩, m3⟩ := mx_max (gs := gs) (fs := fs) (l := List.range' 0 (2 ^ gs.count 1)) (b := 0)
          have hup := m2 _ (List.mem_range'_1.mpr ⟨Nat.zero_le _, by have := (hIA.2.1 _ hlm).1; omega⟩) hlm
          apply Nat.le_antisymm _ hup
          rcases m3 with m3 | ⟨s, s1, s2⟩
          · rw [m3]; exact Nat.zero_le _
          · rw [s2]
            have hpw := (walk_least (nx := nxG gs fs) (C := 2 ^ gs.count 0) hp8.2 hp8.1 (fun s _ c _ t ht => nxA_lt ht)).2.1
            obtain ⟨i, hi, e⟩ := List.getElem_of_mem s1
            by_cases z : i = (WG gs fs).1.length - 1
            · rw [getD_at hil]
              subst z
              rw [e]
              exact Nat.le_refl _
            · have := (List.pairwise_iff_getElem.mp hpw) i ((WG gs fs).1.length - 1) hi hil (by omega)
              rw [getD_at hil]
              rw [← e]
              exact this
        rw [c2, cc, List.countP_true, hmx, hsum, ← (WG_DB (fs := fs) hw).2] at e112
        simp only [Nat.zero_add] at e112
        have r4 : re = nI (WG gs fs).1.length := hE.2.1.2.2.2.1
        have r5 : du = nI (WG gs fs).2.2.2.2.1 := hE.2.1.2.2.2.2.1
        rcases (by omega : j = 6 ∨ j = 7 ∨ j = 8 ∨ j = 9) with e | e | e | e <;> subst e
        · exact ⟨nI (WG gs fs).1.length, by rw [if_neg (show ¬ nI 6 = (0 : Int32) by decide), if_neg (show ¬ nI 6 = (1 : Int32) by decide), if_neg (show ¬ nI 6 = (2 : Int32) by decide), if_neg (show ¬ nI 6 = (3 : Int32) by decide), if_neg (show ¬ nI 6 = (4 : Int32) by decide), if_neg (show ¬ nI 6 = (5 : Int32) by decide), if_pos (show nI 6 = (6 : Int32) by decide), if_neg (show ¬ (1 : Int32) = 0 by decide), r4], by rw [if_neg (show ¬ nI 6 < (0 : Int32) by decide), if_pos (show nI 6 ≤ (9 : Int32) by decide), if_pos (show (5 : Int32) ≤ nI 6 by decide), if_neg (show ¬ nI 6 = (5 : Int32) by decide), if_neg (show ¬ (1 : Int32) = 0 by decide), e112, Option.bind_some, if_pos (show nI 6 = (6 : Int32) by decide)]⟩
        · exact ⟨nI ((WG gs fs).2.1 ((WG gs fs).1.getD ((WG gs fs).1.length - 1) 0)), by rw [if_neg (show ¬ nI 7 = (0 : Int32) by decide), if_neg (show ¬ nI 7 = (1 : Int32) by decide), if_neg (show ¬ nI 7 = (2 : Int32) by decide), if_neg (show ¬ nI 7 = (3 : Int32) by decide), if_neg (show ¬ nI 7 = (4 : Int32) by decide), if_neg (show ¬ nI 7 = (5 : Int32) by decide), if_neg (show ¬ nI 7 = (6 : Int32) by decide), if_pos (show nI 7 = (7 : Int32) by decide), if_neg (show ¬ (1 : Int32) = 0 by decide), hgr, Option.bind_some], by rw [if_neg (show ¬ nI 7 < (0 : Int32) by decide), if_pos (show nI 7 ≤ (9 : Int32) by decide), if_pos (show (5 : Int32) ≤ nI 7 by decide), if_neg (show ¬ nI 7 = (5 : Int32) by decide), if_neg (show ¬ (1 : Int32) = 0 by decide), e112, Option.bind_some, if_neg (show ¬ nI 7 = (6 : Int32) by decide), if_pos (show nI 7 = (7 : Int32) by decide)]⟩
        · exact ⟨nI (nPt (rdK gs fs (nvF gs fs)) N 0 (2 ^ gs.count 1)), by rw [if_neg (show ¬ nI 8 = (0 : Int32) by decide), if_neg (show ¬ nI 8 = (1 : Int32) by decide), if_neg (show ¬ nI 8 = (2 : Int32) by decide), if_neg (show ¬ nI 8 = (3 : Int32) by decide), if_neg (show ¬ nI 8 = (4 : Int32) by decide), if_neg (show ¬ nI 8 = (5 : Int32) by decide), if_neg (show ¬ nI 8 = (6 : Int32) by decide), if_neg (show ¬ nI 8 = (7 : Int32) by decide), if_pos (show nI 8 = (8 : Int32) by decide), if_neg (show ¬ (1 : Int32) = 0 by decide), n3], by rw [if_neg (show ¬ nI 8 < (0 : Int32) by decide), if_pos (show nI 8 ≤ (9 : Int32) by decide), if_pos (show (5 : Int32) ≤ nI 8 by decide), if_neg (show ¬ nI 8 = (5 : Int32) by decide), if_neg (show ¬ (1 : Int32) = 0 by decide), e112, Option.bind_some, if_neg (show ¬ nI 8 = (6 : Int32) by decide), if_neg (show ¬ nI 8 = (7 : Int32) by decide), if_pos (show nI 8 = (8 : Int32) by decide)]⟩
        · exact ⟨nI (WG gs fs).2.2.2.2.1, by rw [if_neg (show ¬ nI 9 = (0 : Int32) by decide), if_neg (show ¬ nI 9 = (1 : Int32) by decide), if_neg (show ¬ nI 9 = (2 : Int32) by decide), if_neg (show ¬ nI 9 = (3 : Int32) by decide), if_neg (show ¬ nI 9 = (4 : Int32) by decide), if_neg (show ¬ nI 9 = (5 : Int32) by decide), if_neg (show ¬ nI 9 = (6 : Int32) by decide), if_neg (show ¬ nI 9 = (7 : Int32) by decide), if_neg (show ¬ nI 9 = (8 : Int32) by decide), if_pos (show nI 9 = (9 : Int32) by decide), if_neg (show ¬ (1 : Int32) = 0 by decide), r5], by rw [if_neg (show ¬ nI 9 < (0 : Int32) by decide), if_pos (show nI 9 ≤ (9 : Int32) by decide), if_pos (show (5 : Int32) ≤ nI 9 by decide), if_neg (show ¬ nI 9 = (5 : Int32) by decide), if_neg (show ¬ (1 : Int32) = 0 by decide), e112, Option.bind_some, if_neg (show ¬ nI 9 = (6 : Int32) by decide), if_neg (show ¬ nI 9 = (7 : Int32) by decide), if_neg (show ¬ nI 9 = (8 : Int32) by decide)]⟩
end QC
end
section
/-! THE NET'S CALLS, side by side -/
section QN
variable {so ra st li nl ou : Nat → Int32} {gT iT lT oT : Int32} {ga fe inp la mou : Int32} {mso mnu mto mfr moo mng : Nat → Int32} {gs : List Nat} {fs : List (Nat × Nat)} {os : List Nat}
theorem RM_gate {q : Nat} (hR : RM ga fe inp la mou mso mnu mto mfr moo mng gs fs os) (hq : q ≤ 3) {nu2 : Nat → Int32} (h1 : ∀ g, g < gs.length → nu2 g = mnu g) (h2 : q ≤ 1 → nu2 gs.length = nI (gs.count q)) :
    RM (nI (gs.length + 1)) fe (if q = 0 then nI (gs.count 0 + 1) else inp) (if q = 1 then nI (gs.count 1 + 1) else la) mou (upd mso gs.length (nI q)) nu2 mto mfr moo mng (gs ++ [q]) fs os := by
  obtain ⟨rfl, rfl, rfl, rfl, rfl, hso, hfs, hoo⟩ := hR
  have hcnt : ∀ k, (gs ++ [q]).count k = gs.count k + if q = k then 1 else 0 := by
    intro k
    rw [List.count_append]
    by_cases e : q = k
    · subst e; simp
    · rw [if_neg e, List.count_eq_zero_of_not_mem (l := [q]) (by simp; omega)]
  refine ⟨by simp, rfl, ?_, ?_, rfl, fun g hg => ?_, hfs, hoo⟩
  · rw [hcnt]; split <;> rfl
  · rw [hcnt]; split <;> rfl
  · have hg' : g < gs.length + 1 := by simpa using hg
    rcases Nat.lt_or_ge g gs.length with c | c
    · rw [gd_app c, rk_app c, upd_eq, if_neg (by omega), h1 g c]
      exact hso g c
    · have : g = gs.length := by omega
      subst this
      rw [gd_last, rk_last, upd_eq, if_pos rfl]
      exact ⟨rfl, h2⟩
theorem q_gate (hw : WF gs fs os) (hR : RC so ra st li nl ou gT iT lT oT gs fs os) (hM : RM ga fe inp la mou mso mnu mto mfr moo mng gs fs os) (x y co : Int32) (out : Nat → Int64) (a : Int32) :
    ∃ r v, m_Law_gate so ra st nl gT iT lT x out a = some r ∧ m_Mod_gate co ga inp la mso mnu y a = some v ∧ v.2.1 = r.1 ∧ (r.1 = 0 → r.2.2.2.2.2.2.2.2.2 0 = v.1.toInt64) ∧
      ∃ g2, WF g2 fs os ∧ RC r.2.1 r.2.2.1 r.2.2.2.1 li r.2.2.2.2.1 ou r.2.2.2.2.2.1 r.2.2.2.2.2.2.1 r.2.2.2.2.2.2.2.1 oT g2 fs os ∧ RM v.2.2.1 fe v.2.2.2.1 v.2.2.2.2.1 mou v.2.2.2.2.2.1 v.2.2.2.2.2.2.1 mto mfr moo mng g2 fs os ∧ ((g2 = gs ∧ r.2.2.2.2.2.2.2.2.1 = x ∧ v.2.2.2.2.2.2.2 = y) ∨ (r.2.2.2.2.2.2.2.2.1 = 0 ∧ v.2.2.2.2.2.2.2 = 0)) := by
  have hG := hw.1
  have hI := hw.2.1
  have hK := hw.2.2.1
  have e3 : (a ≤ (3 : Int32)) ↔ a < nI 4 := by
    have : (3 : Int32).toInt = 3 := by decide
    have : (nI 4).toInt = 4 := by decide
    rw [Int32.le_iff_toInt_le, Int32.lt_iff_toInt_lt]
    omega
  rcases ix_cases a (n := 4) (by decide) with h | ⟨q, hq, rfl⟩
  · refine ⟨((1 : Int32), so, ra, st, nl, gT, iT, lT, x, out), ((0 : Int32), (1 : Int32), ga, inp, la, mso, mnu, y), ?_, ?_, rfl, fun z => absurd z (show ¬ (1 : Int32) = 0 by decide), gs, hw, hR, hM, Or.inl ⟨rfl, rfl, rfl⟩⟩
    · rw [m_Law_gate, m_Exp_gate]
      by_cases c : a < 0
      · rw [if_pos c]; rfl
      · rw [if_neg c, if_neg (by rw [e3]; rcases h with h | h; exact absurd h c; exact h)]; rfl
    · rw [m_Mod_gate]
      simp only [sx_let]
      by_cases c : a < 0
      · rw [if_pos c, fails_1]; rfl
      · rw [if_neg c, if_neg (by rw [e3]; rcases h with h | h; exact absurd h c; exact h), fails_1]; rfl
  · have hq3 : q ≤ 3 := by omega
    have ei : iT = nI (gs.count 0) := hR.2.1
    have el : lT = nI (gs.count 1) := hR.2.2.1
    have eg : gT = nI gs.length := hR.1
    have mg : ga = nI gs.length := hM.1
    have mi : inp = nI (gs.count 0) := hM.2.2.1
    have ml : la = nI (gs.count 1) := hM.2.2.2.1
    have hfull := p_isFullFor hG hI hK hq3
    have l3 : nI q ≤ (3 : Int32) := e3.mpr ((nI_ltI (by omega) (by decide)).mpr hq)
    have e60 : (nI gs.length = (60 : Int32)) ↔ gs.length = 60 := by rw [i60]; exact nI_eq (by omega) (by decide)
    have e4 : (nI (gs.count 0) = (4 : Int32)) ↔ gs.count 0 = 4 := by rw [i4]; exact nI_eq (by omega) (by decide)
    have e8 : (nI (gs.count 1) = (8 : Int32)) ↔ gs.count 1 = 8 := by rw [i8]; exact nI_eq (by omega) (by decide)
    by_cases c : 60 ≤ gs.length ∨ (q = 0 ∧ 4 ≤ gs.count 0) ∨ (q = 1 ∧ 8 ≤ gs.count 1)
    · refine ⟨((0 : Int32), so, ra, st, nl, gT, iT, lT, x, vp_updL out 0 (-1 : Int32).toInt64), ((-1 : Int32), (0 : Int32), ga, inp, la, mso, mnu, y), ?_, ?_, rfl, fun _ => out0 (o := out), gs, hw, hR, hM, Or.inl ⟨rfl, rfl, rfl⟩⟩
      · rw [m_Law_gate, m_Exp_gate, if_neg (nI_pos (by omega)), if_pos l3, eg, ei, el, hfull, if_pos c, Option.bind_some, if_neg (by decide), Option.bind_some, se_r, in01, cl0]
      · rw [m_Mod_gate]
        simp only [sx_let]
        rw [if_neg (nI_pos (by omega)), if_pos l3, fails_0, Option.bind_some, if_pos rfl, mg, mi, ml]
        simp only [e60, e4, e8, q0 (show q < 2 ^ 31 by omega), q1 (show q < 2 ^ 31 by omega)]
        by_cases z : gs.length = 60
        · rw [if_pos z]
        · rw [if_neg z]
          by_cases z0 : q = 0
          · rw [if_pos z0, if_pos (by omega)]
          · rw [if_neg z0, if_pos (show q = 1 by omega), if_pos (by omega)]
    · obtain ⟨v, v1, v2, v3, v4⟩ := RC_gate hR hw hq3 c
      have hnu : ∀ z : Int32, (q ≤ 1 → z = nI (gs.count q)) → ∃ w, w = z := fun z _ => ⟨z, rfl⟩
      have hlaw : m_Law_gate so ra st nl gT iT lT x out (nI q) = some ((0 : Int32), v.2.1, v.2.2.1, v.2.2.2.1, v.2.2.2.2.1, v.2.2.2.2.2.1, v.2.2.2.2.2.2.1, v.2.2.2.2.2.2.2, (0 : Int32), vp_updL out 0 v.1.toInt64) := by
        rw [eg, ei, el] at v1
        rw [m_Law_gate, m_Exp_gate, if_neg (nI_pos (by omega)), if_pos l3, eg, ei, el, hfull, if_neg c, Option.bind_some, if_pos rfl, v1, Option.bind_some, Option.bind_some, se_r, in01, cl0]
      have fin : ∀ (i2 l2 nz : Int32), i2 = (if q = 0 then nI (gs.count 0 + 1) else inp) → l2 = (if q = 1 then nI (gs.count 1 + 1) else la) → (q ≤ 1 → nz = nI (gs.count q)) → m_Mod_gate co ga inp la mso mnu y (nI q) = some (nI gs.length, (0 : Int32), nI (gs.length + 1), i2, l2, upd mso gs.length (nI q), upd mnu gs.length nz, (0 : Int32)) →
          ∃ r v, m_Law_gate so ra st nl gT iT lT x out (nI q) = some r ∧ m_Mod_gate co ga inp la mso mnu y (nI q) = some v ∧ v.2.1 = r.1 ∧ (r.1 = 0 → r.2.2.2.2.2.2.2.2.2 0 = v.1.toInt64) ∧
      ∃ g2, WF g2 fs os ∧ RC r.2.1 r.2.2.1 r.2.2.2.1 li r.2.2.2.2.1 ou r.2.2.2.2.2.1 r.2.2.2.2.2.2.1 r.2.2.2.2.2.2.2.1 oT g2 fs os ∧ RM v.2.2.1 fe v.2.2.2.1 v.2.2.2.2.1 mou v.2.2.2.2.2.1 v.2.2.2.2.2.2.1 mto mfr moo mng g2 fs os ∧ ((g2 = gs ∧ r.2.2.2.2.2.2.2.2.1 = x ∧ v.2.2.2.2.2.2.2 = y) ∨ (r.2.2.2.2.2.2.2.2.1 = 0 ∧ v.2.2.2.2.2.2.2 = 0)) := by
        intro i2 l2 nz hi2 hl2 hnz hm
        refine ⟨_, _, hlaw, hm, rfl, fun _ => ?_, gs ++ [q], v4, v3, ?_, Or.inr ⟨rfl, rfl⟩⟩
        · show vp_updL out 0 v.1.toInt64 0 = (nI gs.length).toInt64
          rw [out0, v2]
        · show RM (nI (gs.length + 1)) fe i2 l2 mou (upd mso gs.length (nI q)) (upd mnu gs.length nz) mto mfr moo mng (gs ++ [q]) fs os
          rw [hi2, hl2]
          exact RM_gate hM hq3 (fun g hg => by rw [upd_eq, if_neg (by omega)]) (fun z => by rw [upd_eq, if_pos rfl]; exact hnz z)
      have hsub : nI (gs.length + 1) - (1 : Int32) = nI gs.length := nI_pred _
      have hmod : ∀ (i2 l2 nz : Int32), (if q = 0 then nI (gs.count 0 + 1) else nI (gs.count 0)) = i2 → (if q = 1 then nI (gs.count 1 + 1) else nI (gs.count 1)) = l2 → (if q = 0 then nI (gs.count 0) else if q = 1 then nI (gs.count 1) else -1) = nz → m_Mod_gate co ga inp la mso mnu y (nI q) = some (nI gs.length, (0 : Int32), nI (gs.length + 1), i2, l2, upd mso gs.length (nI q), upd mnu gs.length nz, (0 : Int32)) := by
        intro i2 l2 nz h1 h2 h3
        rw [m_Mod_gate]
        simp only [sx_let]
        rw [if_neg (nI_pos (by omega)), if_pos l3, fails_0, Option.bind_some, if_pos rfl, mg, mi, ml]
        simp only [e60, e4, e8, q0 (show q < 2 ^ 31 by omega), q1 (show q < 2 ^ 31 by omega), gd_nI (show gs.length < 60 by omega) (show 60 < 2 ^ 31 by decide), nI_clamp (show gs.length < 2 ^ 31 by omega), nI_1, hsub]
        rw [if_neg (show ¬ gs.length = 60 by omega)]
        by_cases z0 : q = 0
        · rw [if_pos z0] at h1 h3
          rw [if_neg (show ¬ q = 1 by omega)] at h2
          simp only [if_pos z0, if_neg (show ¬ gs.count 0 = 4 by omega), if_neg (show ¬ q = 1 by omega), h1, h2, h3]
        · rw [if_neg z0] at h1 h3
          by_cases z1 : q = 1
          · rw [if_pos z1] at h2 h3
            simp only [if_neg z0, if_pos z1, if_neg (show ¬ gs.count 1 = 8 by omega), h1, h2, h3]
          · rw [if_neg z1] at h2 h3
            simp only [if_neg z0, if_neg z1, h1, h2, h3]
      refine fin _ _ _ ?_ ?_ ?_ (hmod _ _ _ rfl rfl rfl)
      · rw [mi]
      · rw [ml]
      · intro z
        rcases (by omega : q = 0 ∨ q = 1) with e | e
        · rw [if_pos e, e]
        · rw [if_neg (by omega), if_pos e, e]
theorem p_fofL {g : Nat} (hF : fs.length ≤ 240) (hg : g < 2 ^ 31) (hG : ∀ f, f ∈ fs → f.1 < 2 ^ 31) (hto : ∀ k, k < fs.length → mto k = nI (fs.getD k (0, 0)).1) : ∀ (k n i : Nat), i + k = fs.length → k < n → L_Mod_feedsOf_4 (nI fs.length) mto (nI g) n (nI (fOf (fs.take i) g).length) (nI i) = some (nI (fOf fs g).length) := by
  intro k
  induction k with
  | zero =>
    intro n i h1 h2
    obtain ⟨n, rfl⟩ : ∃ z, n = z + 1 := ⟨n - 1, by omega⟩
    rw [L_Mod_feedsOf_4, if_pos ((nI_leI (by omega) (by omega)).mpr (by omega)), List.take_of_length_le (by omega)]
  | succ k ih =>
    intro n i h1 h2
    obtain ⟨n, rfl⟩ : ∃ z, n = z + 1 := ⟨n - 1, by omega⟩
    have eg : fs.getD i (0, 0) = fs[i]'(by omega) := by rw [List.getD_eq_getElem?_getD, List.getElem?_eq_getElem (by omega)]; rfl
    have hmem : fs.getD i (0, 0) ∈ fs := by rw [eg]; exact List.getElem_mem _
    have ht : fs.take (i + 1) = fs.take i ++ [((fs.getD i (0, 0)).1, (fs.getD i (0, 0)).2)] := by rw [List.take_succ_eq_append_getElem (by omega), eg]
    have hc := ih n (i + 1) (by omega) (by omega)
    rw [ht, fOf_app] at hc
    rw [L_Mod_feedsOf_4, if_neg (by rw [nI_leI (by omega) (by omega)]; omega), gd_nI (by omega) (by decide), nI_clamp (by omega), hto i (by omega), nI_1, nI_1]
    simp only [nI_eq (hG _ hmem) hg]
    by_cases c : (fs.getD i (0, 0)).1 = g
    · rw [if_pos c, List.length_append] at hc
      rw [if_pos c]
      exact hc
    · rw [if_neg c] at hc
      rw [if_neg c]
      exact hc
theorem p_mfeedsOf {g : Nat} (hF : fs.length ≤ 240) (hg : g < 2 ^ 31) (hG : ∀ f, f ∈ fs → f.1 < 2 ^ 31) (hto : ∀ k, k < fs.length → mto k = nI (fs.getD k (0, 0)).1) : m_Mod_feedsOf (nI fs.length) mto (nI g) = some (nI (fOf fs g).length) := by
  have e := p_fofL hF hg hG hto fs.length fu 0 (by omega) (by rw [fu]; omega)
  have e' : L_Mod_feedsOf_4 (nI fs.length) mto (nI g) fu (0 : Int32) (0 : Int32) = _ := e
  rw [m_Mod_feedsOf, e', Option.bind_some]
theorem p_takes (hw : WF gs fs os) (hR : RC so ra st li nl ou gT iT lT oT gs fs os) {t : Nat} (ht : t < gs.length) : m_Net_takesFeed so st (nI t) = some (if gs.getD t 9 = 0 ∨ (gs.getD t 9 = 1 ∧ 0 < (fOf fs t).length) then 0 else 1) := by
  have hG := hw.1
  have h3 := so_le hw ht
  have hF : fs.length ≤ 240 := hw.2.2.2.2.1
  have hS : Sf fs (t + 1) ≤ fs.length := by
    have := Sf_all (G := gs.length) (fs := fs) (fun f hf => (hw.2.2.2.2.2.1 f hf).1)
    rw [← this]; exact Sf_mono (by omega)
  have hst := hR.2.2.2.2.2.1
  have e1 : Sf fs (t + 1) = Sf fs t + (fOf fs t).length := rfl
  rw [m_Net_takesFeed, gd_nI (by omega) (by decide), m_Net_feedsOf, nI_1, gd_nI (show t + 1 < 61 by omega) (by decide), gd_nI (show t < 61 by omega) (by decide), nI_clamp (show t + 1 < 2 ^ 31 by omega), nI_clamp (show t < 2 ^ 31 by omega), (hR.2.2.2.2.1 t ht).1, hst (t + 1) (by omega), hst t (by omega), pk_sub (by omega), Option.bind_some, gd_nI (by omega) (by decide)]
  simp only [q1 (show gs.getD t 9 < 2 ^ 31 by omega), q0 (show gs.getD t 9 < 2 ^ 31 by omega), q0 (show Sf fs (t + 1) - Sf fs t < 2 ^ 31 by omega)]
  by_cases c1 : gs.getD t 9 = 1
  · rw [if_pos c1]
    by_cases c2 : (fOf fs t).length = 0
    · rw [if_pos (by omega), if_neg (by omega)]
    · rw [if_neg (by omega), if_pos (by omega)]
  · rw [if_neg c1]
    by_cases c0 : gs.getD t 9 = 0
    · rw [if_pos c0, if_pos (Or.inl c0)]
    · rw [if_neg c0, if_neg (by omega)]
theorem RM_feed {t l : Nat} (hw : WF gs fs os) (hR : RM ga fe inp la mou mso mnu mto mfr moo mng gs fs os) (hF : fs.length < 240) :
    RM ga (nI (fs.length + 1)) inp la mou mso mnu (upd mto fs.length (nI t)) (upd mfr fs.length (nI (l / 2))) moo (upd mng fs.length (nI (l % 2))) gs (fs ++ [(t, l)]) os := by
  obtain ⟨h1, h2, h3, h4, h5, hso, hfs, hoo⟩ := hR
  refine ⟨h1, by simp, h3, h4, h5, hso, fun k hk => ?_, hoo⟩
  have hk' : k < fs.length + 1 := by simpa using hk
  rw [upd_eq, upd_eq, upd_eq]
  rcases Nat.lt_or_ge k fs.length with c | c
  · have e : (fs ++ [(t, l)]).getD k (0, 0) = fs.getD k (0, 0) := by simp [List.getD_eq_getElem?_getD, List.getElem?_append_left c]
    rw [e, if_neg (by omega), if_neg (by omega), if_neg (by omega)]
    exact hfs k c
  · have : k = fs.length := by omega
    subst this
    have e : (fs ++ [(t, l)]).getD fs.length (0, 0) = (t, l) := by simp [List.getD_eq_getElem?_getD]
    rw [e, if_pos rfl, if_pos rfl, if_pos rfl]
    exact ⟨rfl, rfl, rfl⟩
end QN
end
section
/-! feed, output and clear, side by side -/
section QF
variable {so ra st li nl ou : Nat → Int32} {gT iT lT oT : Int32} {ga fe inp la mou : Int32} {mso mnu mto mfr moo mng : Nat → Int32} {gs : List Nat} {fs : List (Nat × Nat)} {os : List Nat}
theorem q_feed (hw : WF gs fs os) (hR : RC so ra st li nl ou gT iT lT oT gs fs os) (hM : RM ga fe inp la mou mso mnu mto mfr moo mng gs fs os) (x y co : Int32) (out : Nat → Int64) (a b : Int32) {ng : Int32} (hng : ng = 0 ∨ ng = 1) :
    ∃ r v, m_Law_feed so ra st li nl gT x out a b ng = some r ∧ m_Mod_feed co ga fe mso mto mfr mng y a b ng = some v ∧ v.2.1 = r.1 ∧ (r.1 = 0 → r.2.2.2.2.2 0 = v.1.toInt64) ∧
      ∃ f2, WF gs f2 os ∧ RC so ra r.2.1 r.2.2.1 r.2.2.2.1 ou gT iT lT oT gs f2 os ∧ RM ga v.2.2.1 inp la mou mso mnu v.2.2.2.1 v.2.2.2.2.1 moo v.2.2.2.2.2.1 gs f2 os ∧ ((f2 = fs ∧ r.2.2.2.2.1 = x ∧ v.2.2.2.2.2.2 = y) ∨ (r.2.2.2.2.1 = 0 ∧ v.2.2.2.2.2.2 = 0)) := by
  have hG := hw.1
  have hF : fs.length ≤ 240 := hw.2.2.2.2.1
  have eg : gT = nI gs.length := hR.1
  have mg : ga = nI gs.length := hM.1
  have mf : fe = nI fs.length := hM.2.1
  have ne1 : ¬ (1 : Int32) = 0 := by decide
  -- no such gate
  have nog : (a < 0 ∨ ¬ a < nI gs.length) ∨ ((∃ t, t < gs.length ∧ a = nI t) ∧ (b < 0 ∨ ¬ b < nI gs.length)) → ∃ r v, m_Law_feed so ra st li nl gT x out a b ng = some r ∧ m_Mod_feed co ga fe mso mto mfr mng y a b ng = some v ∧ v.2.1 = r.1 ∧ (r.1 = 0 → r.2.2.2.2.2 0 = v.1.toInt64) ∧
      ∃ f2, WF gs f2 os ∧ RC so ra r.2.1 r.2.2.1 r.2.2.2.1 ou gT iT lT oT gs f2 os ∧ RM ga v.2.2.1 inp la mou mso mnu v.2.2.2.1 v.2.2.2.2.1 moo v.2.2.2.2.2.1 gs f2 os ∧ ((f2 = fs ∧ r.2.2.2.2.1 = x ∧ v.2.2.2.2.2.2 = y) ∨ (r.2.2.2.2.1 = 0 ∧ v.2.2.2.2.2.2 = 0)) := by
    intro h
    refine ⟨((1 : Int32), st, li, nl, x, out), ((0 : Int32), (1 : Int32), fe, mto, mfr, mng, y), ?_, ?_, rfl, fun z => absurd z ne1, fs, hw, hR, hM, Or.inl ⟨rfl, rfl, rfl⟩⟩
    · rw [m_Law_feed, m_Exp_feed, eg]
      rcases h with h | ⟨⟨t, ht, rfl⟩, h⟩
      · rw [(rg_no h).1]; rfl
      · rw [(rg_yes hG ht).1, Option.bind_some, se_r, (rg_no h).1]; rfl
    · rw [m_Mod_feed, mg]
      simp only [sx_let]
      rcases h with h | ⟨⟨t, ht, rfl⟩, h⟩
      · rw [(rg_no h).2, Option.bind_some, if_pos rfl, if_pos trivial, if_pos trivial, fails_1]; rfl
      · rw [(rg_yes hG ht).2, Option.bind_some, if_neg ne1, (rg_no h).2, Option.bind_some, if_pos rfl, if_pos trivial, if_pos trivial, fails_1]; rfl
  rcases ix_cases a (n := gs.length) (by omega) with h | ⟨t, ht, rfl⟩
  · exact nog (Or.inl h)
  · rcases ix_cases b (n := gs.length) (by omega) with h | ⟨f, hf, rfl⟩
    · exact nog (Or.inr ⟨⟨t, ht, rfl⟩, h⟩)
    · obtain ⟨e1, e2⟩ := rg_yes hG ht
      obtain ⟨f1, f2⟩ := rg_yes hG hf
      have h3 := so_le hw ht
      have hto : ∀ k, k < fs.length → mto k = nI (fs.getD k (0, 0)).1 := fun k hk => (hM.2.2.2.2.2.2.1 k hk).1
      have hGf : ∀ g, g ∈ fs → g.1 < 2 ^ 31 := fun g hg => by have := (hw.2.2.2.2.2.1 g hg).1; omega
      have hlen : (fOf fs t).length ≤ 240 := by
        rw [fOf, List.length_map]
        exact Nat.le_trans (List.length_filter_le _ _) hF
      have hmf := p_mfeedsOf (g := t) hF (by omega) hGf hto
      have htk := p_takes hw hR ht
      have hms := (hM.2.2.2.2.2.1 t ht).1
      -- the reference's second test
      have hmod : ∀ (P : Prop) [Decidable P], (P ↔ (gs.getD t 9 = 0 ∨ (gs.getD t 9 = 1 ∧ 0 < (fOf fs t).length))) → m_Mod_feed co ga fe mso mto mfr mng y (nI t) (nI f) ng = (m_Mod_fails co 0 (if P then 1 else 0)).bind (fun v6 => (if v6.1 = (0 : Int32) then (if fe = (240 : Int32) then some ((-1 : Int32), v6.2, fe, mto, mfr, mng, y) else gd (vp_in fe 240) (gd (vp_in fe 240) (gd (vp_in fe 240) ((m_Mod_feedsOf (fe + (1 : Int32)) (upd mto fe.toNatClampNeg (nI t)) (nI t)).bind (fun v13 => some (v13, v6.2, fe + (1 : Int32), upd mto fe.toNatClampNeg (nI t), upd mfr fe.toNatClampNeg (nI f), upd mng fe.toNatClampNeg (vp_nar .boolean ng), (0 : Int32))))))) else some ((0 : Int32), v6.2, fe, mto, mfr, mng, y))) := by
        intro P _ hP
        rw [m_Mod_feed, mg]
        simp only [sx_let]
        rw [e2, Option.bind_some, if_neg ne1, f2, Option.bind_some, if_neg ne1, if_neg ne1, if_neg ne1, gd_nI (by omega) (by decide), gd_nI (by omega) (by decide), nI_clamp (by omega), hms]
        simp only [q0 (show gs.getD t 9 < 2 ^ 31 by omega), q1 (show gs.getD t 9 < 2 ^ 31 by omega)]
        by_cases c0 : gs.getD t 9 = 0
        · rw [if_pos c0, if_pos (hP.mpr (Or.inl c0))]
        · rw [if_neg c0]
          by_cases c1 : gs.getD t 9 = 1
          · rw [if_pos c1]
            conv => lhs; rw [mf, hmf, Option.bind_some]
            have le0 : (nI (fOf fs t).length ≤ (0 : Int32)) ↔ (fOf fs t).length = 0 := by rw [i0, nI_leI (by omega) (by decide)]; omega
            simp only [le0]
            by_cases c2 : (fOf fs t).length = 0
            · rw [if_pos c2, if_neg ne1, if_neg (show ¬ P from fun z => by have := hP.mp z; omega), mf]
            · rw [if_neg c2, if_pos (hP.mpr (by omega)), mf]
          · rw [if_neg c1, if_neg ne1, if_neg (show ¬ P from fun z => by have := hP.mp z; omega)]
      by_cases c : gs.getD t 9 = 0 ∨ (gs.getD t 9 = 1 ∧ 0 < (fOf fs t).length)
      · refine ⟨((2 : Int32), st, li, nl, x, out), ((0 : Int32), (2 : Int32), fe, mto, mfr, mng, y), ?_, ?_, rfl, fun z => absurd z (show ¬ (2 : Int32) = 0 by decide), fs, hw, hR, hM, Or.inl ⟨rfl, rfl, rfl⟩⟩
        · rw [m_Law_feed, m_Exp_feed, eg, e1, Option.bind_some, se_r, f1, Option.bind_some, se_r, htk, if_pos c, Option.bind_some, if_pos rfl]; rfl
        · rw [hmod _ Iff.rfl, if_pos c, fails_2]; rfl
      · have hft : m_Net_feedTotal st (nI gs.length) = some (nI fs.length) := by
          rw [m_Net_feedTotal, gd_nI (by omega) (by decide), nI_clamp (by omega), hR.2.2.2.2.2.1 _ (Nat.le_refl _), Sf_all (fun f hf => (hw.2.2.2.2.2.1 f hf).1)]
        have e240 : (nI fs.length < (240 : Int32)) ↔ fs.length < 240 := by rw [i240]; exact nI_ltI (by omega) (by decide)
        have m240 : (nI fs.length = (240 : Int32)) ↔ fs.length = 240 := by rw [i240]; exact nI_eq (by omega) (by decide)
        by_cases c4 : fs.length < 240
        · have h0 : gs.getD t 9 ≠ 0 := fun z => c (Or.inl z)
          have h1 : gs.getD t 9 = 1 → fOf fs t = [] := fun z => List.eq_nil_of_length_eq_zero (by omega)
          obtain ⟨v, v1, v2, v3, v4⟩ := RC_feed (neg := ng) hR hw ht hf h0 h1 c4
          rw [eg] at v1
          have hl2 : (2 * f + if ng = 0 then 0 else 1) / 2 = f := by split <;> omega
          have hl3 : vp_nar .boolean ng = nI ((2 * f + if ng = 0 then 0 else 1) % 2) := by
            rcases hng with z | z
            · subst z; rw [if_pos rfl, nar0, show (2 * f + 0) % 2 = 0 by omega]; rfl
            · subst z; rw [if_neg ne1, nar1, show (2 * f + 1) % 2 = 1 by omega]; rfl
          have hRM2 := RM_feed (t := t) (l := 2 * f + if ng = 0 then 0 else 1) hw hM c4
          rw [hl2, ← hl3] at hRM2
          have hmf2 : m_Mod_feedsOf (nI (fs.length + 1)) (upd mto fs.length (nI t)) (nI t) = some (nI ((fOf fs t).length + 1)) := by
            have z := p_mfeedsOf (mto := upd mto fs.length (nI t)) (g := t) (fs := fs ++ [(t, 2 * f + if ng = 0 then 0 else 1)]) (by rw [List.length_append, List.length_singleton]; omega) (by omega) (fun g hg => by
              rcases List.mem_append.mp hg with w | w
              · exact hGf g w
              · rw [List.mem_singleton.mp w]; show t < 2 ^ 31; omega) (fun k hk => (hRM2.2.2.2.2.2.2.1 k hk).1)
            rw [List.length_append, List.length_singleton, fOf_app, if_pos rfl, List.length_append, List.length_singleton] at z
            exact z
          refine ⟨((0 : Int32), v.2.1, v.2.2.1, v.2.2.2, (0 : Int32), vp_updL out 0 v.1.toInt64), (nI ((fOf fs t).length + 1), (0 : Int32), nI (fs.length + 1), upd mto fs.length (nI t), upd mfr fs.length (nI f), upd mng fs.length (vp_nar .boolean ng), (0 : Int32)), ?_, ?_, rfl, fun _ => ?_, fs ++ [(t, 2 * f + if ng = 0 then 0 else 1)], v4, v3, hRM2, Or.inr ⟨rfl, rfl⟩⟩
          · rw [m_Law_feed, m_Exp_feed, eg, e1, Option.bind_some, se_r, f1, Option.bind_some, se_r, htk, if_neg c, Option.bind_some, if_neg ne1, hft, Option.bind_some, if_pos (e240.mpr c4), v1, Option.bind_some, Option.bind_some, se_r, in01, cl0]
          · rw [hmod _ Iff.rfl, if_neg c, fails_0, Option.bind_some, if_pos rfl, mf, if_neg (fun z => by have := m240.mp z; omega), gd_nI c4 (by decide), gd_nI c4 (by decide), gd_nI c4 (by decide), nI_clamp (by omega), nI_1, hmf2, Option.bind_some]
          · show vp_updL out 0 v.1.toInt64 0 = _
            rw [out0, v2]
        · refine ⟨((0 : Int32), st, li, nl, x, vp_updL out 0 (-1 : Int32).toInt64), ((-1 : Int32), (0 : Int32), fe, mto, mfr, mng, y), ?_, ?_, rfl, fun _ => out0 (o := out), fs, hw, hR, hM, Or.inl ⟨rfl, rfl, rfl⟩⟩
          · rw [m_Law_feed, m_Exp_feed, eg, e1, Option.bind_some, se_r, f1, Option.bind_some, se_r, htk, if_neg c, Option.bind_some, if_neg ne1, hft, Option.bind_some, if_neg (fun z => c4 (e240.mp z)), Option.bind_some, se_r, in01, cl0]
          · rw [hmod _ Iff.rfl, if_neg c, fails_0, Option.bind_some, if_pos rfl, mf, if_pos (m240.mpr (by omega))]
theorem q_output (hw : WF gs fs os) (hR : RC so ra st li nl ou gT iT lT oT gs fs os) (hM : RM ga fe inp la mou mso mnu mto mfr moo mng gs fs os) (x y co : Int32) (out : Nat → Int64) (a : Int32) :
    ∃ r v, m_Law_output ou gT oT x out a = some r ∧ m_Mod_output co ga mou moo y a = some v ∧ v.2.1 = r.1 ∧ (r.1 = 0 → r.2.2.2.2 0 = v.1.toInt64) ∧
      ∃ o2, WF gs fs o2 ∧ RC so ra st li nl r.2.1 gT iT lT r.2.2.1 gs fs o2 ∧ RM ga fe inp la v.2.2.1 mso mnu mto mfr v.2.2.2.1 mng gs fs o2 ∧ ((o2 = os ∧ r.2.2.2.1 = x ∧ v.2.2.2.2 = y) ∨ (r.2.2.2.1 = 0 ∧ v.2.2.2.2 = 0)) := by
  have hG := hw.1
  have hO : os.length ≤ 6 := hw.2.2.2.2.2.2.1
  have eg : gT = nI gs.length := hR.1
  have eo : oT = nI os.length := hR.2.2.2.1
  have mg : ga = nI gs.length := hM.1
  have mo : mou = nI os.length := hM.2.2.2.2.1
  have ne1 : ¬ (1 : Int32) = 0 := by decide
  rcases ix_cases a (n := gs.length) (by omega) with h | ⟨t, ht, rfl⟩
  · refine ⟨((1 : Int32), ou, oT, x, out), ((0 : Int32), (1 : Int32), mou, moo, y), ?_, ?_, rfl, fun z => absurd z ne1, os, hw, hR, hM, Or.inl ⟨rfl, rfl, rfl⟩⟩
    · rw [m_Law_output, m_Exp_output, eg, (rg_no h).1]; rfl
    · rw [m_Mod_output, mg]
      simp only [sx_let]
      rw [(rg_no h).2, Option.bind_some, if_pos rfl, fails_1]; rfl
  · obtain ⟨e1, e2⟩ := rg_yes hG ht
    have e6 : (nI os.length < (6 : Int32)) ↔ os.length < 6 := by rw [i6]; exact nI_ltI (by omega) (by decide)
    have m6 : (nI os.length = (6 : Int32)) ↔ os.length = 6 := by rw [i6]; exact nI_eq (by omega) (by decide)
    by_cases c : os.length < 6
    · have hwf : WF gs fs (os ++ [t]) := by
        obtain ⟨w1, w2, w3, w4, w5, w6, w7, w8⟩ := hw
        refine ⟨w1, w2, w3, w4, w5, w6, by rw [List.length_append, List.length_singleton]; omega, fun o ho => ?_⟩
        rcases List.mem_append.mp ho with z | z
        · exact w8 o z
        · rw [List.mem_singleton.mp z]; exact ht
      have app : ∀ (u : Nat → Int32), (∀ o, o < os.length → u o = nI (os.getD o 0)) → ∀ o, o < (os ++ [t]).length → upd u os.length (nI t) o = nI ((os ++ [t]).getD o 0) := by
        intro u hu o ho
        rw [List.length_append, List.length_singleton] at ho
        rw [upd_eq]
        rcases Nat.lt_or_ge o os.length with z | z
        · rw [if_neg (by omega), hu o z]
          simp [List.getD_eq_getElem?_getD, List.getElem?_append_left z]
        · have : o = os.length := by omega
          subst this
          rw [if_pos rfl]
          simp [List.getD_eq_getElem?_getD]
      have elen : (os ++ [t]).length = os.length + 1 := by rw [List.length_append, List.length_singleton]
      refine ⟨((0 : Int32), upd ou os.length (nI t), nI (os.length + 1), (0 : Int32), vp_updL out 0 (nI (os.length + 1)).toInt64), (nI (os.length + 1), (0 : Int32), nI (os.length + 1), upd moo os.length (nI t), (0 : Int32)), ?_, ?_, rfl, fun _ => out0 (o := out), os ++ [t], hwf, ?_, ?_, Or.inr ⟨rfl, rfl⟩⟩
      · rw [m_Law_output, m_Exp_output, eg, eo, e1, Option.bind_some, se_r, if_pos (e6.mpr c), m_Net_addOutput, gd_nI c (by decide), nI_clamp (by omega), nI_1, Option.bind_some, Option.bind_some, se_r, in01, cl0]
      · rw [m_Mod_output, mg, mo]
        simp only [sx_let]
        rw [e2, Option.bind_some, if_neg ne1, fails_0, Option.bind_some, if_pos rfl, if_neg (fun z => by have := m6.mp z; omega), gd_nI c (by decide), nI_clamp (by omega), nI_1]
      · obtain ⟨r1, r2, r3, r4, r5, r6, r7, r8, r9⟩ := hR
        exact ⟨r1, r2, r3, by rw [elen], r5, r6, r7, r8, app ou r9⟩
      · obtain ⟨r1, r2, r3, r4, r5, r6, r7, r8⟩ := hM
        exact ⟨r1, r2, r3, r4, by rw [elen], r6, r7, app moo r8⟩
    · refine ⟨((0 : Int32), ou, oT, x, vp_updL out 0 (-1 : Int32).toInt64), ((-1 : Int32), (0 : Int32), mou, moo, y), ?_, ?_, rfl, fun _ => out0 (o := out), os, hw, hR, hM, Or.inl ⟨rfl, rfl, rfl⟩⟩
      · rw [m_Law_output, m_Exp_output, eg, eo, e1, Option.bind_some, se_r, if_neg (fun z => c (e6.mp z)), Option.bind_some, se_r, in01, cl0]
      · rw [m_Mod_output, mg, mo]
        simp only [sx_let]
        rw [e2, Option.bind_some, if_neg ne1, fails_0, Option.bind_some, if_pos rfl, if_pos (m6.mpr (by omega))]
theorem WF_nil : WF [] [] [] := ⟨by decide, by decide, by decide, fun s hs => absurd hs (by simp), by decide, fun f hf => absurd hf (by simp), by decide, fun o ho => absurd ho (by simp)⟩
theorem q_clear (hw : WF gs fs os) (hR : RC so ra st li nl ou gT iT lT oT gs fs os) (hM : RM ga fe inp la mou mso mnu mto mfr moo mng gs fs os) (x y co : Int32) :
    ∃ r v, m_Exp_clear gT iT lT oT x = some r ∧ m_Mod_clear co ga fe inp la mou y = some v ∧ r.1 = v.1 ∧ v.2.1 = 0 ∧ RC so ra st li nl ou r.2.1 r.2.2.1 r.2.2.2.1 r.2.2.2.2.1 [] [] [] ∧ RM v.2.2.1 v.2.2.2.1 v.2.2.2.2.1 v.2.2.2.2.2.1 v.2.2.2.2.2.2.1 mso mnu mto mfr moo mng [] [] [] ∧ r.2.2.2.2.2 = 0 ∧ v.2.2.2.2.2.2.2 = 0 := by
  refine ⟨_, _, rfl, rfl, ?_, rfl, ?_, ?_, rfl, rfl⟩
  · show gT = ga
    rw [hR.1, hM.1]
  · refine ⟨rfl, rfl, rfl, rfl, fun g hg => absurd hg (by simp), fun g hg => ?_, fun g hg => absurd hg (by simp), fun g hg => absurd hg (by simp), fun o ho => absurd ho (by simp)⟩
    have : g = 0 := by simpa using hg
    subst this
    exact hR.2.2.2.2.2.1 0 (Nat.zero_le _)
  · exact ⟨rfl, rfl, rfl, rfl, rfl, fun g hg => absurd hg (by simp), fun k hk => absurd hk (by simp), fun o ho => absurd ho (by simp)⟩
end QF
end
section
/-! explore, side by side -/
section QE
variable {so ra stt li nl ou : Nat → Int32} {gT iT lT oT : Int32} {ga fe inp la mou : Int32} {mso mnu mto mfr moo mng : Nat → Int32} {gs : List Nat} {fs : List (Nat × Nat)} {os : List Nat} {pn : Nat → Int32} {pt : Int32} {se va : Nat → Int64} {ns di od pa st : Nat → Int32} {sp : Nat → Int64} {wd re du dS dC : Int32}
  {mse mne : Nat → Int32} {mon : Nat → Int64} {mdi map : Nat → Int32}
theorem q_explore (hw : WF gs fs os) (hR : RC so ra stt li nl ou gT iT lT oT gs fs os) (hM : RM ga fe inp la mou mso mnu mto mfr moo mng gs fs os) {x y : Int32} (hX : XX gs fs os pn pt se va ns di od pa st sp wd re du dS dC mse mne mon mdi map x y) (pf pb : Nat → Int32) (kn : Nat → Int64) (co : Int32) (mv ma : Nat → Int32) :
    ∃ r v, m_Exp_explore so ra stt li nl ou gT iT lT oT pn pf pb pt kn se va ns di od pa st sp wd re du dS dC x = some r ∧ m_Mod_explore co ga fe inp la mou mso mnu mv ma mto mfr moo mng y mse mne mon mdi map = some v ∧ r.1 = v.1 ∧ v.2.1 = 0 ∧
      XX gs fs os r.2.1 r.2.2.2.2.1 r.2.2.2.2.2.2.1 r.2.2.2.2.2.2.2.1 r.2.2.2.2.2.2.2.2.1 r.2.2.2.2.2.2.2.2.2.1 r.2.2.2.2.2.2.2.2.2.2.1 r.2.2.2.2.2.2.2.2.2.2.2.1 r.2.2.2.2.2.2.2.2.2.2.2.2.1 r.2.2.2.2.2.2.2.2.2.2.2.2.2.1 r.2.2.2.2.2.2.2.2.2.2.2.2.2.2.1 r.2.2.2.2.2.2.2.2.2.2.2.2.2.2.2.1 r.2.2.2.2.2.2.2.2.2.2.2.2.2.2.2.2.1 r.2.2.2.2.2.2.2.2.2.2.2.2.2.2.2.2.2.1 r.2.2.2.2.2.2.2.2.2.2.2.2.2.2.2.2.2.2.1 v.2.2.2.2.2.1 v.2.2.2.2.2.2.1 v.2.2.2.2.2.2.2.1 v.2.2.2.2.2.2.2.2.1 v.2.2.2.2.2.2.2.2.2 r.2.2.2.2.2.2.2.2.2.2.2.2.2.2.2.2.2.2.2 v.2.2.2.2.1 := by
  obtain ⟨v, m1, m2, m3, m4, m5⟩ := p_mexplore hw hM co mv ma y mse mne mon mdi map
  rcases hX with ⟨rfl, rfl⟩ | ⟨rfl, rfl, hE, _⟩
  · obtain ⟨r, c1, c2, c3, c4⟩ := p_explore0 hR hw (nv_RC hR hw) pn pf pb pt kn se va ns di od pa st sp wd re du dS dC
    exact ⟨r, v, c1, m1, by rw [c2, m2], m3, Or.inr ⟨c4, m4, c3, m5⟩⟩
  · refine ⟨_, v, by rw [m_Exp_explore, if_neg (show ¬ (1 : Int32) = 0 by decide)], m1, ?_, m3, Or.inr ⟨rfl, m4, hE, m5⟩⟩
    show re = v.1
    rw [m2]
    exact hE.2.1.2.2.2.1
end QE
end
section
/-! THE LAW: every script -/
set_option maxHeartbeats 4000000 in
set_option maxRecDepth 100000 in
theorem law_go (xs : Nat → Int32) (L : Nat) (hL : L ≤ 2048) : ∀ (n i : Nat) {net_sorts net_ranks net_starts net_literals net_nextLiterals net_outputs : Nat → Int32} {net_gateTotal net_inputTotal net_latchTotal net_outputTotal : Int32} {par_names par_finer par_behind : Nat → Int32} {par_total : Int32} {tab_known tab_settled tab_values : Nat → Int64} {tab_nextStates wlk_distances wlk_order wlk_parents wlk_steps : Nat → Int32} {wlk_settledPairs : Nat → Int64} {wlk_words wlk_reached wlk_doubts wlk_doubtState wlk_doubtChoice exp_explored mod_code mod_gates mod_feeds mod_inputs mod_latches mod_outputs : Int32} {mod_sort mod_number mod_value mod_made mod_to mod_from mod_outputOf mod_negated : Nat → Int32} {mod_explored : Int32} {mod_settles mod_next : Nat → Int32} {mod_ones : Nat → Int64} {mod_distance mod_apart mod_leads : Nat → Int32} {out : Nat → Int64} {gs : List Nat} {fs : List (Nat × Nat)} {os : List Nat}, i ≤ L → L + 4 < i + 4 * n → WF gs fs os → RC net_sorts net_ranks net_starts net_literals net_nextLiterals net_outputs net_gateTotal net_inputTotal net_latchTotal net_outputTotal gs fs os → RM mod_gates mod_feeds mod_inputs mod_latches mod_outputs mod_sort mod_number mod_to mod_from mod_outputOf mod_negated gs fs os → XX gs fs os par_names par_total tab_settled tab_values tab_nextStates wlk_distances wlk_order wlk_parents wlk_steps wlk_settledPairs wlk_words wlk_reached wlk_doubts wlk_doubtState wlk_doubtChoice mod_settles mod_next mod_ones mod_distance mod_apart exp_explored mod_explored → L_Law xs L n (nI i) net_sorts net_ranks net_starts net_literals net_nextLiterals net_outputs net_gateTotal net_inputTotal net_latchTotal net_outputTotal par_names par_finer par_behind par_total tab_known tab_settled tab_values tab_nextStates wlk_distances wlk_order wlk_parents wlk_steps wlk_settledPairs wlk_words wlk_reached wlk_doubts wlk_doubtState wlk_doubtChoice exp_explored mod_code mod_gates mod_feeds mod_inputs mod_latches mod_outputs mod_sort mod_number mod_value mod_made mod_to mod_from mod_outputOf mod_negated mod_explored mod_settles mod_next mod_ones mod_distance mod_apart mod_leads out = some 1 := by
  intro n
  induction n with
  | zero => intros; omega
  | succ n ih =>
    intro i net_sorts net_ranks net_starts net_literals net_nextLiterals net_outputs net_gateTotal net_inputTotal net_latchTotal net_outputTotal par_names par_finer par_behind par_total tab_known tab_settled tab_values tab_nextStates wlk_distances wlk_order wlk_parents wlk_steps wlk_settledPairs wlk_words wlk_reached wlk_doubts wlk_doubtState wlk_doubtChoice exp_explored mod_code mod_gates mod_feeds mod_inputs mod_latches mod_outputs mod_sort mod_number mod_value mod_made mod_to mod_from mod_outputOf mod_negated mod_explored mod_settles mod_next mod_ones mod_distance mod_apart mod_leads out gs fs os hiL hf hw hR hM hX
    have hcl : Int32.ofNat L - (4 : Int32) = nI L - nI 4 := rfl
    by_cases hend : L < i + 4
    · have hlt : Int32.ofNat L - (4 : Int32) < nI i := by
        rw [hcl]
        by_cases h4 : L < 4
        · have h1 := pk_sneg (a := L) (b := 4) (by decide) h4
          have h2 := nI_pos' (n := i) (by omega)
          exact Int32.lt_of_lt_of_le h1 h2
        · rw [pk_sub (by omega)]
          exact (nI_ltI (by omega) (by omega)).mpr (by omega)
      rw [L_Law, if_pos hlt]
    · have hnlt : ¬ Int32.ofNat L - (4 : Int32) < nI i := by
        rw [hcl, pk_sub (by omega), nI_ltI (by omega) (by omega)]; omega
      have a1 : nI i + (1 : Int32) = nI (i + 1) := nI_1 i
      have a2 : nI i + (2 : Int32) = nI (i + 2) := by rw [i2, nI_add]
      have a3 : nI i + (3 : Int32) = nI (i + 3) := by rw [i3, nI_add]
      have a4 : nI i + (4 : Int32) = nI (i + 4) := by rw [i4, nI_add]
      obtain rfl := hR.1
      obtain rfl := hR.2.1
      obtain rfl := hR.2.2.1
      obtain rfl := hR.2.2.2.1
      obtain rfl := hM.1
      obtain rfl := hM.2.1
      obtain rfl := hM.2.2.1
      obtain rfl := hM.2.2.2.1
      obtain rfl := hM.2.2.2.2.1
      have hi4 : i + 4 ≤ L := by omega
      have hf4 : L + 4 < (i + 4) + 4 * n := by omega
      have hp1 : ∀ {α : Type} {a : Option α}, gd (vp_in (nI (i + 1)) L) a = a := gd_nI (by omega) (by omega)
      have hp2 : ∀ {α : Type} {a : Option α}, gd (vp_in (nI (i + 2)) L) a = a := gd_nI (by omega) (by omega)
      have hp3 : ∀ {α : Type} {a : Option α}, gd (vp_in (nI (i + 3)) L) a = a := gd_nI (by omega) (by omega)
      have c1 : (nI (i + 1)).toNatClampNeg = i + 1 := nI_clamp (by omega)
      have c2 : (nI (i + 2)).toNatClampNeg = i + 2 := nI_clamp (by omega)
      have c3 : (nI (i + 3)).toNatClampNeg = i + 3 := nI_clamp (by omega)
      rw [L_Law, if_neg hnlt, gd_nI (show i < L by omega) (show L < 2 ^ 31 by omega), nI_clamp (show i < 2 ^ 31 by omega), a1, a2, a3, a4]
      generalize xs i &&& (15 : Int32) = op
      by_cases h0 : op = (0 : Int32)
      · obtain ⟨r, v, e1, e2, e3, e4, g2, f1, f2, f3, f4⟩ := q_gate hw hR hM exp_explored mod_explored mod_code out (xs (i + 1))
        rw [if_pos h0, hp1, c1, e1, Option.bind_some, hp1, e2, Option.bind_some]
        have f5 : XX g2 fs os par_names par_total tab_settled tab_values tab_nextStates wlk_distances wlk_order wlk_parents wlk_steps wlk_settledPairs wlk_words wlk_reached wlk_doubts wlk_doubtState wlk_doubtChoice mod_settles mod_next mod_ones mod_distance mod_apart r.2.2.2.2.2.2.2.2.1 v.2.2.2.2.2.2.2 := by
          rcases f4 with ⟨rfl, f6, f7⟩ | ⟨f6, f7⟩
          · rw [f6, f7]; exact hX
          · exact Or.inl ⟨f6, f7⟩
        exact ih (i + 4) hi4 hf4 f1 f2 f3 f5
      rw [if_neg h0]
      by_cases h1 : op = (1 : Int32)
      · simp only [sx_let]
        rw [if_pos h1, hp1, hp2, hp3, c1, c2, c3]
        by_cases s0 : xs (i + 3) = 0
        · obtain ⟨r, v, e1, e2, e3, e4, f2, f1, g2, g3, f4⟩ := q_feed hw hR hM exp_explored mod_explored mod_code out (xs (i + 1)) (xs (i + 2)) (ng := 0) (Or.inl rfl)
          have f5 : XX gs f2 os par_names par_total tab_settled tab_values tab_nextStates wlk_distances wlk_order wlk_parents wlk_steps wlk_settledPairs wlk_words wlk_reached wlk_doubts wlk_doubtState wlk_doubtChoice mod_settles mod_next mod_ones mod_distance mod_apart r.2.2.2.2.1 v.2.2.2.2.2.2 := by
            rcases f4 with ⟨rfl, f6, f7⟩ | ⟨f6, f7⟩
            · rw [f6, f7]; exact hX
            · exact Or.inl ⟨f6, f7⟩
          rw [if_pos s0, e1, Option.bind_some, hp1, hp2, hp3, if_pos s0, e2, Option.bind_some]
          exact ih (i + 4) hi4 hf4 f1 g2 g3 f5
        · obtain ⟨r, v, e1, e2, e3, e4, f2, f1, g2, g3, f4⟩ := q_feed hw hR hM exp_explored mod_explored mod_code out (xs (i + 1)) (xs (i + 2)) (ng := 1) (Or.inr rfl)
          have f5 : XX gs f2 os par_names par_total tab_settled tab_values tab_nextStates wlk_distances wlk_order wlk_parents wlk_steps wlk_settledPairs wlk_words wlk_reached wlk_doubts wlk_doubtState wlk_doubtChoice mod_settles mod_next mod_ones mod_distance mod_apart r.2.2.2.2.1 v.2.2.2.2.2.2 := by
            rcases f4 with ⟨rfl, f6, f7⟩ | ⟨f6, f7⟩
            · rw [f6, f7]; exact hX
            · exact Or.inl ⟨f6, f7⟩
          rw [if_neg s0, e1, Option.bind_some, hp1, hp2, hp3, if_neg s0, e2, Option.bind_some]
          exact ih (i + 4) hi4 hf4 f1 g2 g3 f5
      rw [if_neg h1]
      by_cases h2 : op = (2 : Int32)
      · obtain ⟨r, v, e1, e2, e3, e4, o2, f1, f2, f3, f4⟩ := q_output hw hR hM exp_explored mod_explored mod_code out (xs (i + 1))
        rw [if_pos h2, hp1, c1, e1, Option.bind_some, hp1, e2, Option.bind_some]
        have f5 : XX gs fs o2 par_names par_total tab_settled tab_values tab_nextStates wlk_distances wlk_order wlk_parents wlk_steps wlk_settledPairs wlk_words wlk_reached wlk_doubts wlk_doubtState wlk_doubtChoice mod_settles mod_next mod_ones mod_distance mod_apart r.2.2.2.1 v.2.2.2.2 := by
          rcases f4 with ⟨rfl, f6, f7⟩ | ⟨f6, f7⟩
          · rw [f6, f7]; exact hX
          · exact Or.inl ⟨f6, f7⟩
        exact ih (i + 4) hi4 hf4 f1 f2 f3 f5
      rw [if_neg h2]
      by_cases h3 : op = (3 : Int32)
      · obtain ⟨r, v, e1, e2, e3, e4, e5, e6, e7, e8⟩ := q_clear hw hR hM exp_explored mod_explored mod_code
        rw [if_pos h3, e1, Option.bind_some, e2, Option.bind_some, if_pos e3]
        exact ih (i + 4) hi4 hf4 WF_nil e5 e6 (Or.inl ⟨e7, e8⟩)
      rw [if_neg h3]
      by_cases h4 : op = (4 : Int32)
      · obtain ⟨r, v, e1, e2, e3, e4, e5⟩ := q_explore hw hR hM hX par_finer par_behind tab_known mod_code mod_value mod_made
        rw [if_pos h4, e1, Option.bind_some, e2, Option.bind_some]
        exact ih (i + 4) hi4 hf4 hw hR hM e5
      rw [if_neg h4]
      by_cases h5 : op = (5 : Int32)
      · obtain ⟨k, o, b, e1, e2, e3⟩ := q_distance hw hX mod_code out (xs (i + 1))
        rw [if_pos h5, hp1, c1, e1, Option.bind_some, hp1, e2, Option.bind_some]
        exact ih (i + 4) hi4 hf4 hw hR hM hX
      rw [if_neg h5]
      by_cases h6 : op = (6 : Int32)
      · obtain ⟨k, o, b, e1, e2⟩ := q_way0 hw hX mod_code mod_leads out (xs (i + 1)) (xs (i + 2))
        rw [if_pos h6, hp1, hp2, c1, c2, e1, Option.bind_some, hp1, hp2, e2, Option.bind_some]
        exact ih (i + 4) hi4 hf4 hw hR hM hX
      rw [if_neg h6]
      by_cases h7 : op = (7 : Int32)
      · obtain ⟨k, o, b, e1, e2, e3⟩ := q_many hw hX mod_code out (xs (i + 1))
        rw [if_pos h7, hp1, c1, e1, Option.bind_some, hp1, e2, Option.bind_some]
        exact ih (i + 4) hi4 hf4 hw hR hM hX
      rw [if_neg h7]
      by_cases h8 : op = (8 : Int32)
      · obtain ⟨k, o, b, e1, e2, e3⟩ := q_next hw hX mod_code out (xs (i + 1)) (xs (i + 2))
        rw [if_pos h8, hp1, hp2, c1, c2, e1, Option.bind_some, hp1, hp2, e2, Option.bind_some]
        exact ih (i + 4) hi4 hf4 hw hR hM hX
      rw [if_neg h8]
      by_cases h9 : op = (9 : Int32)
      · obtain ⟨k, o, b, e1, e2, e3⟩ := q_doubt hw hX mod_code out (xs (i + 1))
        rw [if_pos h9, hp1, c1, e1, Option.bind_some, hp1, e2, Option.bind_some]
        exact ih (i + 4) hi4 hf4 hw hR hM hX
      rw [if_neg h9]
      by_cases h10 : op = (10 : Int32)
      · obtain ⟨k, o, b, e1, e2, e3⟩ := q_always hw hX mod_code out (xs (i + 1))
        rw [if_pos h10, hp1, c1, e1, Option.bind_some, hp1, e2, Option.bind_some]
        exact ih (i + 4) hi4 hf4 hw hR hM hX
      rw [if_neg h10]
      by_cases h11 : op = (11 : Int32)
      · obtain ⟨k, o, b, e1, e2, e4, e3⟩ := q_isSame hw hX mod_code out (xs (i + 1)) (xs (i + 2))
        rw [if_pos h11, hp1, hp2, c1, c2, e1, Option.bind_some, hp1, hp2, e2, Option.bind_some]
        exact ih (i + 4) hi4 hf4 hw hR hM hX
      rw [if_neg h11]
      by_cases h12 : op = (12 : Int32)
      · obtain ⟨k, o, b, e1, e2, e3⟩ := q_group hw hX mod_code out (xs (i + 1))
        rw [if_pos h12, hp1, c1, e1, Option.bind_some, hp1, e2, Option.bind_some]
        exact ih (i + 4) hi4 hf4 hw hR hM hX
      rw [if_neg h12]
      by_cases h13 : op = (13 : Int32)
      · obtain ⟨b, e1, e2⟩ := q_count hw hR hM hX mod_code (xs (i + 1))
        rw [if_pos h13, hp1, c1, e1, Option.bind_some, hp1, e2, Option.bind_some]
        exact ih (i + 4) hi4 hf4 hw hR hM hX
      rw [if_neg h13]
      exact ih (i + 4) hi4 hf4 hw hR hM hX
theorem RC_0 : RC (fun _ => 0) (fun _ => 0) (fun _ => 0) (fun _ => 0) (fun _ => 0) (fun _ => 0) 0 0 0 0 [] [] [] := by
  refine ⟨rfl, rfl, rfl, rfl, fun g hg => absurd hg (by simp), fun g hg => ?_, fun g hg => absurd hg (by simp), fun g hg => absurd hg (by simp), fun o ho => absurd ho (by simp)⟩
  have h0 : g = 0 := by simpa using hg
  subst h0
  rfl
theorem RM_0 : RM 0 0 0 0 0 (fun _ => 0) (fun _ => 0) (fun _ => 0) (fun _ => 0) (fun _ => 0) (fun _ => 0) [] [] [] := ⟨rfl, rfl, rfl, rfl, rfl, fun g hg => absurd hg (by simp), fun g hg => absurd hg (by simp), fun o ho => absurd ho (by simp)⟩
theorem law_true : sx_law := by
  intro xs L hL
  exact law_go xs L hL fu 0 (Nat.zero_le _) (by rw [fu]; omega) WF_nil RC_0 RM_0 (Or.inl ⟨rfl, rfl⟩)
end
section
/-! the owed statement -/
theorem i_vc : Claimed_1_1 ∧ Claimed_1_2 := i_vc_open law_true
end
