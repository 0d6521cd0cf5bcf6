/-! group and count, side by side -/
theorem sum_one {f : Nat → Nat} {x : Nat} : ∀ {L : List Nat}, L.Nodup → (L.map (fun s => if s = x then f s else 0)).sum = if x ∈ L then f x else 0
  | [], _ => by simp
  | y :: L, h => by
    have h2 := List.nodup_cons.mp h
    rw [List.map_cons, List.sum_cons, sum_one h2.2]
    by_cases c : y = x
    · subst c
      rw [if_pos rfl, if_neg h2.1, if_pos List.mem_cons_self, Nat.add_zero]
    · rw [if_neg c, Nat.zero_add]
      by_cases d : x ∈ L
      · rw [if_pos d, if_pos (List.mem_cons_of_mem _ d)]
      · rw [if_neg d, if_neg (fun z => by rcases List.mem_cons.mp z with z | z; exact c z.symm; exact d z)]
theorem sum_add {f g : Nat → Nat} : ∀ (L : List Nat), (L.map (fun s => f s + g s)).sum = (L.map f).sum + (L.map g).sum
  | [] => rfl
  | x :: L => by
    rw [List.map_cons, List.map_cons, List.map_cons, List.sum_cons, List.sum_cons, List.sum_cons, sum_add L]
    omega
theorem sum_in {f : Nat → Nat} {S : Nat} : ∀ {l : List Nat}, l.Nodup → (∀ s, s ∈ l → s < S) → ((List.range' 0 S).map (fun s => if s ∈ l then f s else 0)).sum = (l.map f).sum
  | [], _, _ => by
    have : ∀ L : List Nat, (L.map (fun s => if s ∈ ([] : List Nat) then f s else 0)).sum = 0 := by
      intro L
      induction L with
      | nil => rfl
      | cons x L ih => rw [List.map_cons, List.sum_cons, ih, if_neg (by simp)]
    rw [this]; rfl
  | x :: l, h, hl => by
    have h2 := List.nodup_cons.mp h
    have e : (fun s => if s ∈ x :: l then f s else 0) = fun s => (if s = x then f s else 0) + (if s ∈ l then f s else 0) := by
      funext s
      by_cases c : s = x
      · subst c
        rw [if_pos List.mem_cons_self, if_pos rfl, if_neg h2.1, Nat.add_zero]
      · by_cases d : s ∈ l
        · rw [if_pos (List.mem_cons_of_mem _ d), if_neg c, if_pos d, Nat.zero_add]
        · rw [if_neg (fun z => by rcases List.mem_cons.mp z with z | z; exact c z; exact d z), if_neg c, if_neg d]
    rw [e, sum_add, sum_one List.nodup_range', if_pos (List.mem_range'_1.mpr ⟨by omega, by have := hl x List.mem_cons_self; omega⟩), sum_in h2.2 (fun s hs => hl s (List.mem_cons_of_mem _ hs)), List.map_cons, List.sum_cons]
section QG
variable {gs : List Nat} {fs : List (Nat × Nat)} {os : List Nat} {pn : Nat → Int32} {pt : Int32} {se va : Nat → Int64} {ns di od pa st : Nat → Int32} {sp : Nat → Int64} {wd re du dS dC : Int32}
  {mse mne : Nat → Int32} {mon : Nat → Int64} {mdi map : Nat → Int32}
theorem mdi_lt (hw : WF gs fs os) (hM : EM gs fs os mse mne mon mdi map) {t : Nat} (ht : t < 2 ^ gs.count 1) : mdi t < 0 ↔ t ∉ (WG gs fs).1 := by
  have hd := WG_di hw hM.2.1 t ht
  rw [rdK, decide_eq_false_iff_not] at hd
  exact hd
theorem p_leastL (hw : WF gs fs os) (hM : EM gs fs os mse mne mon mdi map) {s : Nat} (hs : s < 2 ^ gs.count 1) (hr : s ∈ (WG gs fs).1) : ∀ (k n t : Nat), t + k = s → k < n → ∃ u, L_Mod_least_2 mdi map (nI s) n (nI t) = some (nI u) ∧ t ≤ u ∧ u ≤ s ∧ u ∈ (WG gs fs).1 ∧ map (256 * s + u) = 0 ∧ ∀ v, t ≤ v → v < u → v ∈ (WG gs fs).1 → map (256 * s + v) ≠ 0 := by
  have hp8 := pow8 hw.2.2.1
  intro k
  induction k with
  | zero =>
    intro n t h1 h2
    obtain ⟨n, rfl⟩ : ∃ z, n = z + 1 := ⟨n - 1, by omega⟩
    have e : t = s := by omega
    subst e
    rw [L_Mod_least_2, gd_nI (by omega) (by decide), nI_clamp (by omega), if_neg (fun z => (mdi_lt hw hM hs).mp z hr), i256m, gd_nI (by omega) (by decide), nI_clamp (by omega), if_pos (hM.2.2.2.1 t (by omega))]
    exact ⟨t, rfl, Nat.le_refl _, Nat.le_refl _, hr, hM.2.2.2.1 t (by omega), fun v h3 h4 => absurd h4 (by omega)⟩
  | succ k ih =>
    intro n t h1 h2
    obtain ⟨n, rfl⟩ : ∃ z, n = z + 1 := ⟨n - 1, by omega⟩
    have ht : t < 2 ^ gs.count 1 := by omega
    have skip : (t ∈ (WG gs fs).1 → map (256 * s + t) ≠ 0) → ∃ u, L_Mod_least_2 mdi map (nI s) n (nI (t + 1)) = some (nI u) ∧ t ≤ u ∧ u ≤ s ∧ u ∈ (WG gs fs).1 ∧ map (256 * s + u) = 0 ∧ ∀ v, t ≤ v → v < u → v ∈ (WG gs fs).1 → map (256 * s + v) ≠ 0 := by
      intro h
      obtain ⟨u, u1, u2, u3, u4, u5, u6⟩ := ih n (t + 1) (by omega) (by omega)
      refine ⟨u, u1, by omega, u3, u4, u5, fun v h3 h4 => ?_⟩
      by_cases z : v = t
      · rw [z]; exact h
      · exact u6 v (by omega) h4
    rw [L_Mod_least_2, gd_nI (by omega) (by decide), nI_clamp (show t < 2 ^ 31 by omega), i256m, gd_nI (show 256 * s + t < 65536 by omega) (by decide), nI_clamp (show 256 * s + t < 2 ^ 31 by omega), nI_1]
    by_cases c1 : mdi t < 0
    · rw [if_pos c1]
      exact skip (fun z => absurd z ((mdi_lt hw hM ht).mp c1))
    · rw [if_neg c1]
      by_cases c2 : map (256 * s + t) = 0
      · rw [if_pos c2]
        exact ⟨t, rfl, Nat.le_refl _, by omega, Classical.byContradiction fun z => c1 ((mdi_lt hw hM ht).mpr z), c2, fun v h3 h4 => absurd h4 (by omega)⟩
      · rw [if_neg c2]
        exact skip (fun _ => c2)
/-- names of groups that fit both sides -/
def NG (gs : List Nat) (fs : List (Nat × Nat)) (os : List Nat) (N : Nat → Nat) : Prop := (∀ q, q < 2 ^ gs.count 1 → rdK gs fs (nvF gs fs) q = true → N q ≤ q ∧ rdK gs fs (nvF gs fs) (N q) = true ∧ N (N q) = N q) ∧ ∀ a b, a < 2 ^ gs.count 1 → b < 2 ^ gs.count 1 → rdK gs fs (nvF gs fs) a = true → rdK gs fs (nvF gs fs) b = true → (N a = N b ↔ ¬ TA (nxG gs fs) (2 ^ gs.count 0) (shN gs fs os) a b)
theorem p_least (hw : WF gs fs os) (hM : EM gs fs os mse mne mon mdi map) {N : Nat → Nat} (hN : NG gs fs os N) {s : Nat} (hs : s < 2 ^ gs.count 1) (hr : s ∈ (WG gs fs).1) : m_Mod_least mdi map (nI s) = some (nI (N s)) := by
  have hp8 := pow8 hw.2.2.1
  obtain ⟨u, u1, u2, u3, u4, u5, u6⟩ := p_leastL hw hM hs hr s fu 0 (by omega) (by rw [fu]; omega)
  have u1' : L_Mod_least_2 mdi map (nI s) fu (0 : Int32) = some (nI u) := u1
  rw [m_Mod_least, u1', Option.bind_some]
  have hrs : rdK gs fs (nvF gs fs) s = true := decide_eq_true hr
  have hru : rdK gs fs (nvF gs fs) u = true := decide_eq_true u4
  obtain ⟨n1, n2, n3⟩ := hN.1 s hs hrs
  have n2' : N s ∈ (WG gs fs).1 := of_decide_eq_true n2
  have e1 : N s = N u := (hN.2 s u hs (by omega) hrs hru).mpr (fun z => (hM.2.2.2.2 s u hs (by omega) hr u4).mpr z u5)
  have e2 : ¬ TA (nxG gs fs) (2 ^ gs.count 0) (shN gs fs os) s (N s) := (hN.2 s (N s) hs (by omega) hrs n2).mp n3.symm
  have e3 : N u ≤ u := (hN.1 u (by omega) hru).1
  have e4 : u ≤ N s := Classical.byContradiction fun z => e2 ((hM.2.2.2.2 s (N s) hs (by omega) hr n2').mp (u6 (N s) (Nat.zero_le _) (by omega) n2'))
  rw [show u = N s by omega]
theorem EX_NG (hw : WF gs fs os) (hE : EX gs fs os (nvF gs fs) pn pt se va ns di od pa st sp wd re du dS dC) : ∃ N, NG gs fs os N ∧ (∀ q, q < 2 ^ gs.count 1 → q ∈ (WG gs fs).1 → pn q = nI (N q)) ∧ pt = nI (nPt (rdK gs fs (nvF gs fs)) N 0 (2 ^ gs.count 1)) := by
  obtain ⟨N, h1, h2, h3⟩ := names_TA hw hE
  exact ⟨N, ⟨fun q hq hr => (h1 q hq hr).2, h3⟩, fun q hq hr => (h1 q hq (decide_eq_true hr)).1, h2⟩
theorem q_group (hw : WF gs fs os) {x y : Int32} (hX : XX gs fs os pn pt se va ns di od pa st sp wd re du dS dC mse mne mon mdi map x y) (co : Int32) (out : Nat → Int64) (a : Int32) :
    ∃ k o b, m_Law_group (nI (gs.count 1)) pn di x out a = some (k, o) ∧ m_Mod_group co (nI (gs.count 1)) y mdi map a = some (b, k) ∧ (k = 0 → o 0 = b.toInt64) := by
  have hK := hw.2.2.1
  have hp8 := pow8 hK
  rw [m_Law_group, m_Exp_group, m_Mod_group]
  simp only [sx_let]
  rcases ix_cases a (n := 2 ^ gs.count 1) (by omega) with h | ⟨j, hj, rfl⟩
  · obtain ⟨e1, e2⟩ := rs_no hK h
    rcases hX with ⟨rfl, rfl⟩ | ⟨rfl, rfl, _, _⟩
    · exact ⟨1, out, 0, by rw [rx_0]; rfl, by rw [if_pos rfl, e2, Option.bind_some, if_pos rfl, fails_1]; rfl, fun q => absurd q (by decide)⟩
    · exact ⟨2, out, 0, by rw [rx_1, Option.bind_some, se_r, e1]; rfl, by rw [if_neg (by decide), e2, Option.bind_some, if_pos rfl, fails_2]; rfl, fun q => absurd q (by decide)⟩
  · obtain ⟨e1, e2⟩ := rs_yes hK hj
    rcases hX with ⟨rfl, rfl⟩ | ⟨rfl, rfl, hE, hM⟩
    · exact ⟨1, out, 0, by rw [rx_0]; rfl, by rw [if_pos rfl, e2, Option.bind_some, if_neg (by decide), fails_1]; rfl, fun q => absurd q (by decide)⟩
    · obtain ⟨N, n1, n2, _⟩ := EX_NG hw hE
      have hIA := WG_IA (fs := fs) hw
      have hlen := WG_len (fs := fs) hw
      have hr : ∀ X : Int32, (if (0 : Int32) ≤ mdi j then (m_Mod_least mdi map (nI j)).bind (fun v10 => some (v10, (0 : Int32))) else some ((-1 : Int32), (0 : Int32))) = some (X, 0) → (if (1 : Int32) = 0 then (m_Mod_isState (nI (gs.count 1)) (nI j)).bind (fun v2 => (if v2 = (0 : Int32) then (m_Mod_fails co 1 1).bind (fun v5 => (if v5.1 = (0 : Int32) then gd (vp_in (nI j) 256) ((if (0 : Int32) ≤ mdi (nI j).toNatClampNeg then (m_Mod_least mdi map (nI j)).bind (fun v10 => some (v10, v5.2)) else some ((-1 : Int32), v5.2))) else some ((0 : Int32), v5.2))) else (m_Mod_fails co 1 0).bind (fun v5 => (if v5.1 = (0 : Int32) then gd (vp_in (nI j) 256) ((if (0 : Int32) ≤ mdi (nI j).toNatClampNeg then (m_Mod_least mdi map (nI j)).bind (fun v10 => some (v10, v5.2)) else some ((-1 : Int32), v5.2))) else some ((0 : Int32), v5.2))))) else (m_Mod_isState (nI (gs.count 1)) (nI j)).bind (fun v2 => (if v2 = (0 : Int32) then (m_Mod_fails co 0 1).bind (fun v5 => (if v5.1 = (0 : Int32) then gd (vp_in (nI j) 256) ((if (0 : Int32) ≤ mdi (nI j).toNatClampNeg then (m_Mod_least mdi map (nI j)).bind (fun v10 => some (v10, v5.2)) else some ((-1 : Int32), v5.2))) else some ((0 : Int32), v5.2))) else (m_Mod_fails co 0 0).bind (fun v5 => (if v5.1 = (0 : Int32) then gd (vp_in (nI j) 256) ((if (0 : Int32) ≤ mdi (nI j).toNatClampNeg then (m_Mod_least mdi map (nI j)).bind (fun v10 => some (v10, v5.2)) else some ((-1 : Int32), v5.2))) else some ((0 : Int32), v5.2)))))) = some (X, 0) := by
        intro X hX
        rw [if_neg (show ¬ (1 : Int32) = 0 by decide), e2, Option.bind_some, if_neg (show ¬ (1 : Int32) = 0 by decide), fails_0, Option.bind_some, if_pos rfl, gd_nI (by omega) (by decide), nI_clamp (by omega)]
        exact hX
      by_cases c : j ∈ (WG gs fs).1
      · have hdl := (hIA.2.1 _ c).2
        have hne : ¬ di j = -1 := by rw [hE.2.1.1 j hj, if_pos c]; exact m1_ne (show (WG gs fs).2.1 j < 2 ^ 31 by omega)
        refine ⟨0, vp_updL out 0 (pn j).toInt64, nI (N j), ?_, hr _ ?_, fun _ => by rw [out0, n2 j hj c]⟩
        · rw [rx_1, Option.bind_some, se_r, e1, Option.bind_some, se_r, gd_nI (by omega) (by decide), nI_clamp (by omega), if_neg hne, gd_nI (by omega) (by decide), Option.bind_some, se_r, in01, cl0]
        · rw [if_pos (Int32.not_lt.mp (fun z => (mdi_lt hw hM hj).mp z c)), p_least hw hM n1 hj c, Option.bind_some]
      · have he : di j = -1 := by rw [hE.2.1.1 j hj, if_neg c]
        refine ⟨0, vp_updL out 0 (-1 : Int32).toInt64, -1, ?_, hr _ ?_, fun _ => by rw [out0]⟩
        · rw [rx_1, Option.bind_some, se_r, e1, Option.bind_some, se_r, gd_nI (by omega) (by decide), nI_clamp (by omega), if_pos he, Option.bind_some, se_r, in01, cl0]
        · rw [if_neg (fun z => Int32.not_lt.mpr z ((mdi_lt hw hM hj).mpr c))]
end QG
