theorem fOf_app {fs : List (Nat × Nat)} {t l g : Nat} : fOf (fs ++ [(t, l)]) g = if t = g then fOf fs g ++ [l] else fOf fs g := by
  rw [fOf, fOf, List.filter_append, List.map_append]
  by_cases h : t = g
  · subst h; simp
  · rw [if_neg h]; simp [h]
theorem Sf_app {fs : List (Nat × Nat)} {t l : Nat} : ∀ g, Sf (fs ++ [(t, l)]) g = Sf fs g + if t < g then 1 else 0
  | 0 => by simp [Sf]
  | g + 1 => by
    rw [Sf, Sf, Sf_app g, fOf_app]
    by_cases h : t = g
    · subst h; simp; omega
    · rw [if_neg h]
      by_cases h2 : t < g
      · rw [if_pos h2, if_pos (by omega)]; omega
      · rw [if_neg h2, if_neg (by omega)]; omega
theorem Sf_mono {fs : List (Nat × Nat)} {a b : Nat} (h : a ≤ b) : Sf fs a ≤ Sf fs b := by
  induction h with
  | refl => exact Nat.le_refl _
  | step _ ih => rw [Nat.succ_eq_add_one, Sf]; omega
theorem Sf_cons {fs : List (Nat × Nat)} {x : Nat × Nat} : ∀ g, Sf (x :: fs) g = Sf fs g + if x.1 < g then 1 else 0
  | 0 => by simp [Sf]
  | g + 1 => by
    have e : (fOf (x :: fs) g).length = (fOf fs g).length + if x.1 = g then 1 else 0 := by
      rw [fOf, fOf, List.filter_cons]
      by_cases h : x.1 = g
      · rw [if_pos (by simp [h]), if_pos h]; simp
      · rw [if_neg (by simp [h]), if_neg h]; simp
    rw [Sf, Sf, Sf_cons g, e]
    by_cases h : x.1 = g
    · rw [if_pos h, if_neg (by omega), if_pos (by omega)]; omega
    · rw [if_neg h]
      by_cases h2 : x.1 < g
      · rw [if_pos h2, if_pos (by omega)]; omega
      · rw [if_neg h2, if_neg (by omega)]; omega
/-- all feeds are counted -/
theorem Sf_all {G : Nat} : ∀ {fs : List (Nat × Nat)}, (∀ f ∈ fs, f.1 < G) → Sf fs G = fs.length := by
  intro fs
  induction fs with
  | nil =>
    intro _
    have : ∀ g, Sf [] g = 0 := by
      intro g
      induction g with
      | zero => rfl
      | succ g ih => rw [Sf, ih]; rfl
    exact this G
  | cons x fs ih =>
    intro h
    rw [Sf_cons, ih (fun f hf => h f (List.mem_cons_of_mem _ hf)), if_pos (h x List.mem_cons_self)]
    simp
theorem p_L63 {G : Nat} (hG : G ≤ 60) : ∀ (k n i : Nat) (st : Nat → Int32), i ≤ G + 1 → G + 1 - i = k → k < n → L_Net_addFeed_63 (nI G) n (nI i) st = some (fun j => if i ≤ j ∧ j ≤ G then st j + 1 else st j) := by
  intro k
  induction k with
  | zero =>
    intro n i st h1 h2 h3
    obtain ⟨n, rfl⟩ : ∃ z, n = z + 1 := ⟨n - 1, by omega⟩
    rw [L_Net_addFeed_63, if_pos ((nI_ltI (by omega) (by omega)).mpr (by omega))]
    congr 1
    funext j
    rw [if_neg (by omega)]
  | succ k ih =>
    intro n i st h1 h2 h3
    obtain ⟨n, rfl⟩ : ∃ z, n = z + 1 := ⟨n - 1, by omega⟩
    rw [L_Net_addFeed_63, if_neg (by rw [nI_ltI (by omega) (by omega)]; omega), gd_nI (by omega) (by decide), gd_nI (by omega) (by decide), nI_1, nI_clamp (by omega), ih n (i + 1) _ (by omega) (by omega) (by omega)]
    congr 1
    funext j
    rw [upd_eq]
    by_cases c : j = i
    · subst c
      rw [if_neg (by omega), if_pos rfl, if_pos (by omega)]
    · rw [if_neg c]
      by_cases c2 : i ≤ j ∧ j ≤ G
      · rw [if_pos c2, if_pos (by omega)]
      · rw [if_neg c2, if_neg (by omega)]
/-- the state behind a feed -/
theorem RC_feed {so ra st li nl ou : Nat → Int32} {gT iT lT oT : Int32} {gs : List Nat} {fs : List (Nat × Nat)} {os : List Nat} {t f : Nat} {neg : Int32} (h : RC so ra st li nl ou gT iT lT oT gs fs os) (hw : WF gs fs os) (ht : t < gs.length) (hf : f < gs.length) (h0 : gs.getD t 9 ≠ 0) (h1 : gs.getD t 9 = 1 → fOf fs t = []) (hn : fs.length < 240) :
    ∃ v, m_Net_addFeed so ra st li nl gT (nI t) (nI f) neg = some v ∧ v.1 = nI ((fOf fs t).length + 1) ∧ RC so ra v.2.1 v.2.2.1 v.2.2.2 ou gT iT lT oT gs (fs ++ [(t, 2 * f + if neg = 0 then 0 else 1)]) os ∧ WF gs (fs ++ [(t, 2 * f + if neg = 0 then 0 else 1)]) os := by
  obtain ⟨rfl, rfl, rfl, rfl, hso, hst, hli, hnl, hou⟩ := h
  obtain ⟨w1, w2, w3, w4, w5, w6, w7, w8⟩ := hw
  obtain ⟨x, hx⟩ : ∃ x, x = 2 * f + (if neg = 0 then 0 else 1) := ⟨_, rfl⟩
  have hx2 : x < 2 * gs.length := by rw [hx]; split <;> omega
  have hSG : Sf fs gs.length = fs.length := Sf_all fun q hq => (w6 q hq).1
  have hpl : Sf fs (t + 1) ≤ fs.length := by rw [← hSG]; exact Sf_mono (by omega)
  obtain ⟨P, hP⟩ : ∃ P, P = Sf fs (t + 1) := ⟨_, rfl⟩
  rw [← hP] at hpl
  -- the new rows
  obtain ⟨st', hst'⟩ : ∃ z : Nat → Int32, z = fun j => if t + 1 ≤ j ∧ j ≤ gs.length then st j + 1 else st j := ⟨_, rfl⟩
  obtain ⟨li', hli'⟩ : ∃ z : Nat → Int32, z = upd (va_cpy li li P (P + 1) (fs.length - P)) P (nI x) := ⟨_, rfl⟩
  have hWF : WF gs (fs ++ [(t, x)]) os := by
    refine ⟨w1, w2, w3, w4, by simp; omega, fun q hq => ?_, w7, w8⟩
    have hlen : ∀ g, g < gs.length → gs.getD g 9 = 1 → (fOf fs g).length ≤ 1 ∧ (g = t → fOf fs g = []) := by
      intro g _ hg1
      refine ⟨?_, fun e => by subst e; exact h1 hg1⟩
      cases hfo : fOf fs g with
      | nil => simp
      | cons a r =>
        have hm : a ∈ fOf fs g := by rw [hfo]; exact List.mem_cons_self
        rw [fOf] at hm
        obtain ⟨q2, hq2, -⟩ := List.mem_map.mp hm
        have h2 := List.mem_filter.mp hq2
        have e : q2.1 = g := by simpa using h2.2
        have := (w6 q2 h2.1).2.2.2
        rw [e] at this
        rw [← hfo]
        exact this hg1
    rcases List.mem_append.mp hq with hq | hq
    · obtain ⟨a, b, c, d⟩ := w6 q hq
      refine ⟨a, b, c, fun e => ?_⟩
      obtain ⟨l1, l2⟩ := hlen q.1 a e
      rw [fOf_app]
      by_cases e2 : t = q.1
      · rw [if_pos e2, l2 e2.symm]; simp
      · rw [if_neg e2]; exact l1
    · rw [List.mem_singleton.mp hq]
      refine ⟨ht, hx2, h0, fun e => ?_⟩
      rw [fOf_app, if_pos rfl, h1 e]; simp
  have hRC : ∀ nl', (∀ g, g < gs.length → gs.getD g 9 = 1 → nl' (rk gs g) = nI ((fOf (fs ++ [(t, x)]) g).getD 0 (2 * g))) → RC so ra st' li' nl' ou (nI gs.length) (nI (gs.count 0)) (nI (gs.count 1)) (nI os.length) gs (fs ++ [(t, x)]) os := by
    intro nl' hnl'
    refine ⟨rfl, rfl, rfl, rfl, hso, ?_, ?_, hnl', hou⟩
    · intro g hg
      rw [hst', Sf_app]
      by_cases c : t < g
      · show (if t + 1 ≤ g ∧ g ≤ gs.length then st g + 1 else st g) = _
        rw [if_pos ⟨c, hg⟩, if_pos c, hst g hg, nI_1]
      · show (if t + 1 ≤ g ∧ g ≤ gs.length then st g + 1 else st g) = _
        rw [if_neg (by omega), if_neg c, hst g hg]; rfl
    · intro g hg j hj
      rw [Sf_app, hli', upd_eq]
      rw [fOf_app] at hj ⊢
      have hb : Sf fs g + (fOf fs g).length = Sf fs (g + 1) := rfl
      rcases Nat.lt_trichotomy g t with c | c | c
      · rw [if_neg (show ¬ t = g by omega)] at hj ⊢
        have : Sf fs (g + 1) ≤ Sf fs (t + 1) := Sf_mono (by omega)
        rw [if_neg (show ¬ t < g by omega), Nat.add_zero, if_neg (show ¬ Sf fs g + j = P by omega), pk_cpy_out (Or.inl (by omega))]
        exact hli g hg j hj
      · subst c
        rw [if_pos rfl] at hj ⊢
        rw [if_neg (Nat.lt_irrefl _)]
        have hj' : j < (fOf fs g).length + 1 := by simpa using hj
        rcases Nat.lt_or_ge j (fOf fs g).length with c2 | c2
        · rw [if_neg (by omega), pk_cpy_out (by omega)]
          rw [show Sf fs g + 0 + j = Sf fs g + j by omega, hli g hg j c2]
          simp [List.getD_eq_getElem?_getD, List.getElem?_append_left c2]
        · have : j = (fOf fs g).length := by omega
          subst this
          rw [if_pos (by omega)]
          simp [List.getD_eq_getElem?_getD]
      · rw [if_neg (show ¬ t = g by omega)] at hj ⊢
        have h9 : Sf fs (t + 1) ≤ Sf fs g := Sf_mono (by omega)
        have h10 : Sf fs (g + 1) ≤ fs.length := by rw [← hSG]; exact Sf_mono (by omega)
        rw [if_pos c, if_neg (show ¬ Sf fs g + 1 + j = P by omega), pk_cpy_in (by omega) (by omega)]
        rw [show P + (Sf fs g + 1 + j - (P + 1)) = Sf fs g + j by omega]
        exact hli g hg j hj
  -- the walk
  have et : nI t + (1 : Int32) = nI (t + 1) := nI_1 t
  have ct : (nI t).toNatClampNeg = t := nI_clamp (by omega)
  have ct1 : (nI (t + 1)).toNatClampNeg = t + 1 := nI_clamp (by omega)
  have sP : st (t + 1) = nI P := by rw [hst (t + 1) (by omega), hP]
  have cP : (nI P).toNatClampNeg = P := nI_clamp (by omega)
  have eP1 : nI P + (1 : Int32) = nI (P + 1) := nI_1 P
  have cP1 : (nI (P + 1)).toNatClampNeg = P + 1 := nI_clamp (by omega)
  have eft : m_Net_feedTotal st (nI gs.length) = some (nI fs.length) := by
    rw [m_Net_feedTotal, gd_nI (by omega) (by decide), nI_clamp (by omega), hst _ (Nat.le_refl _), hSG]
  have esub : nI fs.length - nI P = nI (fs.length - P) := pk_sub hpl
  have csub : (nI (fs.length - P)).toNatClampNeg = fs.length - P := nI_clamp (by omega)
  have hcond : ¬ nI P < 0 ∧ ¬ nI (P + 1) < 0 ∧ ¬ nI (fs.length - P) < 0 ∧ P + (fs.length - P) ≤ 240 ∧ P + 1 + (fs.length - P) ≤ 240 := ⟨nI_pos (by omega), nI_pos (by omega), nI_pos (by omega), by omega, by omega⟩
  have eL : L_Net_addFeed_63 (nI gs.length) fu (nI (t + 1)) st = some st' := by
    rw [p_L63 w1 (gs.length + 1 - (t + 1)) fu (t + 1) st (by omega) rfl (by rw [fu]; omega), hst']
  have hb : Sf fs t + (fOf fs t).length = P := hP.symm
  have efo : m_Net_feedsOf st' (nI t) = some (nI ((fOf fs t).length + 1)) := by
    rw [m_Net_feedsOf, et, gd_nI (by omega) (by decide), gd_nI (by omega) (by decide), ct, ct1, hst']
    show some ((if t + 1 ≤ t + 1 ∧ t + 1 ≤ gs.length then st (t + 1) + 1 else st (t + 1)) - (if t + 1 ≤ t ∧ t ≤ gs.length then st t + 1 else st t)) = _
    rw [if_pos (by omega), if_neg (by omega), sP, hst t (by omega), nI_1, pk_sub (by omega)]
    congr 2
    omega
  have e1 : (nI (gs.getD t 9) = (1 : Int32)) ↔ gs.getD t 9 = 1 := by rw [i1]; exact nI_eq (by have := w4 _ (getD_mem ht); omega) (by omega)
  have ef2 : nI f * (2 : Int32) = nI (2 * f) := by rw [i2, pk_mul, Nat.mul_comm]
  rw [m_Net_addFeed, ← hx, et, ef2]
  simp only [sx_let]
  by_cases cn : neg = 0
  · rw [if_pos cn]
    have hz : nI (2 * f) + (0 : Int32) = nI x := by rw [if_pos cn] at hx; rw [hx, i0, nI_add]
    rw [gd_nI (by omega) (by decide), eft]
    simp only [Option.bind_some, ct1, sP, cP, eP1, cP1, esub, csub, hz, ct, eL]
    rw [gd_in hcond, gd_nI (by omega) (by decide), gd_nI (by omega) (by decide), (hso t ht).1]
    simp only [e1, efo, Option.bind_some]
    by_cases c : gs.getD t 9 = 1
    · rw [if_pos c, (hso t ht).2 (by omega), nI_clamp (by have := rk_lt ht; rw [c] at this; omega)]
      have hr8 : rk gs t < 8 := by have := rk_lt ht; rw [c] at this; omega
      rw [gd_nI (by omega) (by decide), gd_nI hr8 (by decide)]
      refine ⟨_, rfl, rfl, ?_, hWF⟩
      dsimp only
      rw [← hli']
      refine hRC _ fun g hg hg1 => ?_
      rw [upd_eq, fOf_app]
      by_cases e : g = t
      · subst e
        rw [if_pos rfl, if_pos rfl, h1 hg1]
        rfl
      · rw [if_neg (fun q => e (rk_inj hg ht (by rw [hg1, c]) q)), if_neg (fun q => e q.symm)]
        exact hnl g hg hg1
    · rw [if_neg c]
      refine ⟨_, rfl, rfl, ?_, hWF⟩
      dsimp only
      rw [← hli']
      refine hRC _ fun g hg hg1 => ?_
      rw [fOf_app, if_neg (fun q => c (by rw [q]; exact hg1))]
      exact hnl g hg hg1
  · rw [if_neg cn]
    have hz : nI (2 * f) + (1 : Int32) = nI x := by rw [if_neg cn] at hx; rw [hx, i1, nI_add]
    rw [gd_nI (by omega) (by decide), eft]
    simp only [Option.bind_some, ct1, sP, cP, eP1, cP1, esub, csub, hz, ct, eL]
    rw [gd_in hcond, gd_nI (by omega) (by decide), gd_nI (by omega) (by decide), (hso t ht).1]
    simp only [e1, efo, Option.bind_some]
    by_cases c : gs.getD t 9 = 1
    · rw [if_pos c, (hso t ht).2 (by omega), nI_clamp (by have := rk_lt ht; rw [c] at this; omega)]
      have hr8 : rk gs t < 8 := by have := rk_lt ht; rw [c] at this; omega
      rw [gd_nI (by omega) (by decide), gd_nI hr8 (by decide)]
      refine ⟨_, rfl, rfl, ?_, hWF⟩
      dsimp only
      rw [← hli']
      refine hRC _ fun g hg hg1 => ?_
      rw [upd_eq, fOf_app]
      by_cases e : g = t
      · subst e
        rw [if_pos rfl, if_pos rfl, h1 hg1]
        rfl
      · rw [if_neg (fun q => e (rk_inj hg ht (by rw [hg1, c]) q)), if_neg (fun q => e q.symm)]
        exact hnl g hg hg1
    · rw [if_neg c]
      refine ⟨_, rfl, rfl, ?_, hWF⟩
      dsimp only
      rw [← hli']
      refine hRC _ fun g hg hg1 => ?_
      rw [fOf_app, if_neg (fun q => c (by rw [q]; exact hg1))]
      exact hnl g hg hg1
