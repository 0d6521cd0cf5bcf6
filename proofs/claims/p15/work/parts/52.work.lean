/-! the reference's work, whole -/
def nbN (V : Nat → Nat) (s : Nat) (ls : List Nat) (k : Nat) : Bool := match ls.getLast? with
  | none => s.testBit k
  | some l => decide (tk V l = 1)
theorem i16m {s c : Nat} : ((16 : Int32) * nI s) + nI c = nI (16 * s + c) := by rw [i16, pk_mul, nI_add]
section REFN
variable {so nu to fr ne : Nat → Int32} {gs : List Nat} {fs : List (Nat × Nat)} {os : List Nat} {V : Nat → Nat} {v : Nat → Int32}
theorem p_w209 (hw : WF gs fs os) (hso : ∀ g, g < gs.length → so g = nI (gs.getD g 9) ∧ (gs.getD g 9 ≤ 1 → nu g = nI (rk gs g))) (hfs : ∀ k, k < fs.length → to k = nI (fs.getD k (0, 0)).1 ∧ fr k = nI ((fs.getD k (0, 0)).2 / 2) ∧ ne k = nI ((fs.getD k (0, 0)).2 % 2))
    (hv : ∀ g, g < gs.length → v g = nI (V g) ∧ V g ≤ 2) (hset : ∀ g, g < gs.length → V g ≠ 2) {a s : Nat} (ha : a < 4096) {se : Nat → Int32} (hse : se a = 1) :
    ∀ (k n i : Nat) (nx : Nat → Int32), i + k = fs.length → k < n → (∃ x, nx a = nI x ∧ x < 2 ^ gs.count 1 ∧ ∀ j, j < gs.count 1 → x.testBit j = nbN V s (fOf (fs.take i) (gk gs j)) j) →
      ∃ r, L_Mod_work_209 (nI fs.length) so nu v to fr ne se (nI a) n (nI i) nx = some r ∧ (∃ x, r a = nI x ∧ x < 2 ^ gs.count 1 ∧ ∀ j, j < gs.count 1 → x.testBit j = nbN V s (fOf fs (gk gs j)) j) ∧ ∀ j, j ≠ a → r j = nx j := by
  have hG := hw.1
  have hK := hw.2.2.1
  have hF : fs.length ≤ 240 := hw.2.2.2.2.1
  have hp := pow8 hK
  intro k
  induction k with
  | zero =>
    intro n i nx h1 h2 hx
    obtain ⟨n, rfl⟩ : ∃ z, n = z + 1 := ⟨n - 1, by omega⟩
    rw [L_Mod_work_209, if_pos ((nI_leI (by omega) (by omega)).mpr (by omega))]
    rw [List.take_of_length_le (by omega)] at hx
    exact ⟨_, rfl, hx, fun _ _ => rfl⟩
  | succ k ih =>
    intro n i nx h1 h2 hx
    obtain ⟨n, rfl⟩ : ∃ z, n = z + 1 := ⟨n - 1, by omega⟩
    obtain ⟨f1, f2, f3⟩ := hfs i (by omega)
    have eg : fs.getD i (0, 0) = fs[i]'(by omega) := by rw [List.getD_eq_getElem?_getD, List.getElem?_eq_getElem (by omega)]; rfl
    have hmem : fs.getD i (0, 0) ∈ fs := by rw [eg]; exact List.getElem_mem _
    have ht : fs.take (i + 1) = fs.take i ++ [fs.getD i (0, 0)] := by rw [eg, List.take_succ_eq_append_getElem (by omega)]
    generalize fs.getD i (0, 0) = f at *
    obtain ⟨t, l⟩ := f
    obtain ⟨w1, w2, _⟩ := hw.2.2.2.2.2.1 _ hmem
    dsimp only at *
    have h3 := so_le hw w1
    have htk : tk V l < 2 := by
      have a1 := hset (l / 2) (by omega)
      have a2 := (hv (l / 2) (by omega)).2
      rw [tk]; split <;> omega
    obtain ⟨s1, s2⟩ := hso t w1
    obtain ⟨x, x1, x2, x3⟩ := hx
    rw [L_Mod_work_209, if_neg (by rw [nI_leI (by omega) (by omega)]; omega)]
    simp only [gd_nI ha (show 4096 < 2 ^ 31 by decide), gd_nI (show i < 240 by omega) (show 240 < 2 ^ 31 by decide), nI_clamp (show a < 2 ^ 31 by omega), nI_clamp (show i < 2 ^ 31 by omega), f1, gd_nI (show t < 60 by omega) (show 60 < 2 ^ 31 by decide), nI_clamp (show t < 2 ^ 31 by omega), s1, hse, q1 (show gs.getD t 9 < 2 ^ 31 by omega), p_taken hG hv (show i < 240 by omega) w2 f2 f3, Option.bind_some, nI_1, if_neg (show ¬ (1 : Int32) = 0 by decide)]
    by_cases c : gs.getD t 9 = 1
    · have hr := rk_lt w1
      rw [c] at hr
      have hr8 : rk gs t < 8 := by omega
      rw [if_pos c, s2 (by omega), x1, (stb_I (by omega) hr8 htk).1]
      have hb := (stb_I (x := x) (by omega) hr8 htk).2
      have hx2 : ∃ y, upd nx a (nI (stb x (rk gs t) (tk V l))) a = nI y ∧ y < 2 ^ gs.count 1 ∧ ∀ j, j < gs.count 1 → y.testBit j = nbN V s (fOf (fs.take (i + 1)) (gk gs j)) j := by
        refine ⟨stb x (rk gs t) (tk V l), by rw [upd_eq, if_pos rfl], ?_, fun j hj => ?_⟩
        · refine Nat.lt_pow_two_of_testBit _ (fun j hj => ?_)
          by_cases c8 : j < 8
          · rw [stb_bit (by omega) hr8 htk c8, if_neg (by omega)]
            exact Nat.testBit_lt_two_pow (Nat.lt_of_lt_of_le x2 (Nat.pow_le_pow_right (by decide) hj))
          · refine Nat.testBit_lt_two_pow (Nat.lt_of_lt_of_le hb ?_)
            have : 2 ^ 8 ≤ 2 ^ j := Nat.pow_le_pow_right (by decide) (by omega)
            omega
        · rw [stb_bit (by omega) hr8 htk (by omega), ht, fOf_app]
          by_cases z : j = rk gs t
          · rw [if_pos z, z, if_pos (gk_rk w1 c).symm, nbN, List.getLast?_concat]
          · have : ¬ t = gk gs j := fun q => z (by rw [q]; exact (gk_of hj).2.2.symm)
            rw [if_neg z, if_neg this]
            exact x3 j hj
      obtain ⟨r, r1, r2, r3⟩ := ih n (i + 1) (upd nx a (nI (stb x (rk gs t) (tk V l)))) (by omega) (by omega) hx2
      refine ⟨r, r1, r2, fun j hj => ?_⟩
      rw [r3 j hj, upd_eq, if_neg hj]
    · rw [if_neg c]
      refine ih n (i + 1) nx (by omega) (by omega) ⟨x, x1, x2, fun j hj => ?_⟩
      have : ¬ t = gk gs j := fun q => c (by rw [q]; exact (gk_of hj).2.1)
      rw [ht, fOf_app, if_neg this]
      exact x3 j hj
theorem eq_bits {x y K : Nat} (hx : x < 2 ^ K) (hy : y < 2 ^ K) (h : ∀ j, j < K → x.testBit j = y.testBit j) : x = y := by
  apply Nat.eq_of_testBit_eq
  intro j
  rcases Nat.lt_or_ge j K with c | c
  · exact h j c
  · rw [Nat.testBit_lt_two_pow (Nat.lt_of_lt_of_le hx (Nat.pow_le_pow_right (by decide) c)), Nat.testBit_lt_two_pow (Nat.lt_of_lt_of_le hy (Nat.pow_le_pow_right (by decide) c))]
theorem unN_le {V : Nat → Nat} : unN gs V ≤ gs.length := by
  have := List.countP_le_length (p := fun g => decide (V g = 2)) (l := List.range' 0 gs.length)
  rw [List.length_range'] at this
  exact this
theorem p_work {ga fe inp la ou : Int32} {oo : Nat → Int32} (hw : WF gs fs os) (hR : RM ga fe inp la ou so nu to fr oo ne gs fs os) {s c : Nat} (hs : s < 2 ^ gs.count 1) (hc : c < 16) (v ma se nx : Nat → Int32) (on : Nat → Int64) :
    ∃ r, m_Mod_work ga fe so nu v ma to fr ne se nx on (nI s) (nI c) = some r ∧ r.2.2.1 (16 * s + c) = (if stN gs fs s c = true then 1 else 0) ∧ (∀ t, nxA gs fs (nvF gs fs) s c = some t → r.2.2.2.1 (16 * s + c) = nI t) ∧
      (∀ g, g < gs.length → bL (r.2.2.2.2 (16 * s + c)) g = vaN gs fs g s c) ∧ ∀ j, j ≠ 16 * s + c → r.2.2.1 j = se j ∧ r.2.2.2.1 j = nx j ∧ r.2.2.2.2 j = on j := by
  have hG := hw.1
  have hK := hw.2.2.1
  have hF : fs.length ≤ 240 := hw.2.2.2.2.1
  have hp := pow8 hK
  obtain ⟨rfl, rfl, rfl, rfl, rfl, hso, hfs, -⟩ := hR
  have hs256 : s < 256 := by omega
  have ha : 16 * s + c < 4096 := by omega
  obtain ⟨v1, a1, a2, -⟩ := p_w10 hw hso hs256 (show c < 256 by omega) gs.length fu 0 v (by omega) (by rw [fu]; omega)
  obtain ⟨v2, V, b1, b2, b3, b4⟩ := p_w85 hw (fun g hg => (hso g hg).1) hfs gs.length fu (V0N gs s c) v1 ma SV_0 (fun g hg => a2 g (Nat.zero_le _) hg) unN_le (by rw [fu]; omega)
  have hv : ∀ g, g < gs.length → v2.1 g = nI (V g) ∧ V g ≤ 2 := fun g hg => ⟨b2 g hg, (b3 g hg).1⟩
  have is := fun g (hg : g < gs.length) => SV_is hw b3 b4 hg
  obtain ⟨v3, c1, c2, c3, c4⟩ := p_w116 hw hv ha gs.length fu 0 (upd se (16 * s + c) 1) (vp_updL on (16 * s + c) 0) (by omega) (by rw [fu]; omega) (Or.inl ⟨by rw [upd_eq, if_pos rfl], fun g hg => absurd hg (by omega)⟩) (fun g hg => absurd hg (by omega)) (fun g _ _ => by rw [updL_eq, if_pos rfl, bL_0])
  have a1' : L_Mod_work_10 (nI gs.length) so nu (nI s) (nI c) fu (0 : Int32) v = some v1 := a1
  have c1' : L_Mod_work_116 (nI gs.length) v2.1 (nI (16 * s + c)) fu (0 : Int32) (upd se (16 * s + c) 1) (vp_updL on (16 * s + c) 0) = some v3 := c1
  have hst : v3.1 (16 * s + c) = (if stN gs fs s c = true then 1 else 0) := by
    rcases c2 with ⟨z, h⟩ | ⟨z, g, hg, h⟩
    · rw [z, if_pos]
      rw [stN_iff hw hs256 hc]
      intro g hg
      have := h g hg
      exact Classical.byContradiction fun q => this ((is g hg).2.2.mpr q)
    · rw [z, if_neg]
      rw [stN_iff hw hs256 hc]
      intro q
      exact (is g hg).2.2.mp h (q g hg)
  have hon : ∀ g, g < gs.length → bL (v3.2 (16 * s + c)) g = vaN gs fs g s c := by
    intro g hg
    rw [c3 g hg]
    apply Bool.eq_iff_iff.mpr
    rw [vaN_iff hw hs256 hc, decide_eq_true_eq]
    exact (is g hg).1
  rw [m_Mod_work, a1', Option.bind_some, b1, Option.bind_some]
  simp only [i16m, gd_nI ha (show 4096 < 2 ^ 31 by decide), nI_clamp (show 16 * s + c < 2 ^ 31 by omega), nar1]
  rw [c1', Option.bind_some]
  cases e : stN gs fs s c with
  | false =>
    rw [e] at hst
    have hst0 : v3.1 (16 * s + c) = 0 := hst
    have z : L_Mod_work_209 (nI fs.length) so nu v2.1 to fr ne v3.1 (nI (16 * s + c)) fu (0 : Int32) (upd nx (16 * s + c) (nI s)) = some (upd nx (16 * s + c) (nI s)) := by
      rw [show fu = (fu - 1) + 1 by rw [fu], L_Mod_work_209, nI_clamp (by omega), hst0, gd_nI ha (by decide), if_pos rfl]
      split <;> rfl
    rw [z, Option.bind_some]
    refine ⟨_, rfl, by rw [hst], fun t ht => ?_, hon, fun j hj => ?_⟩
    · rw [nxA_none.mpr e] at ht; cases ht
    · obtain ⟨d1, d2⟩ := c4 j hj
      dsimp only
      rw [d1, d2, upd_eq, upd_eq, updL_eq, if_neg hj, if_neg hj, if_neg hj]
      exact ⟨rfl, rfl, rfl⟩
  | true =>
    rw [e] at hst
    have hst1 : v3.1 (16 * s + c) = 1 := hst
    have hset : ∀ g, g < gs.length → V g ≠ 2 := fun g hg q => (is g hg).2.2.mp q ((stN_iff hw hs256 hc).mp e g hg)
    obtain ⟨r, d1, ⟨x, d2, d3, d4⟩, d5⟩ := p_w209 (s := s) hw hso hfs hv hset ha hst1 fs.length fu 0 (upd nx (16 * s + c) (nI s)) (by omega) (by rw [fu]; omega) ⟨s, by rw [upd_eq, if_pos rfl], hs, fun j _ => rfl⟩
    have d1' : L_Mod_work_209 (nI fs.length) so nu v2.1 to fr ne v3.1 (nI (16 * s + c)) fu (0 : Int32) (upd nx (16 * s + c) (nI s)) = some r := d1
    rw [d1', Option.bind_some]
    refine ⟨_, rfl, by rw [hst], fun t ht => ?_, hon, fun j hj => ?_⟩
    · dsimp only
      rw [d2]
      congr 1
      refine eq_bits d3 (nxA_lt ht) (fun j hj => ?_)
      apply Bool.eq_iff_iff.mpr
      rw [nxA_bit hw hs256 hc ht hj, d4 j hj, nvF]
      obtain ⟨g1, g2, g3⟩ := gk_of hj
      have hlen : (fOf fs (gk gs j)).length ≤ 1 := by
        cases q : fOf fs (gk gs j) with
        | nil => simp
        | cons l ls =>
          have := (hw.2.2.2.2.2.1 _ (fOf_mem (show l ∈ fOf fs (gk gs j) by rw [q]; exact List.mem_cons_self))).2.2.2 g2
          rw [q] at this; exact this
      have tkD : ∀ l, l < 2 * gs.length → (tk V l = 1 ↔ Dv gs fs (bvS gs s c) l) := fun l hl => ⟨(tk_Dv b3 hl).2.1, fun q => SV_fix hw b3 b4 q⟩
      cases q : fOf fs (gk gs j) with
      | nil =>
        rw [nbN]
        dsimp only [List.getLast?_nil]
        rw [List.getD_nil, ← (is _ g1).1, (b3 _ g1).2.2.2 (by omega), bvS, if_neg (show ¬ gs.getD (gk gs j) 9 = 0 by omega), g3]
        cases s.testBit j <;> simp
      | cons l ls =>
        rw [q] at hlen
        have hnil : ls = [] := by
          cases ls with
          | nil => rfl
          | cons _ _ => simp at hlen
        subst hnil
        rw [nbN]
        dsimp only [List.getLast?_singleton]
        rw [decide_eq_true_eq, List.getD_cons_zero]
        exact tkD l (fOf_lt hw (show l ∈ fOf fs (gk gs j) by rw [q]; exact List.mem_cons_self))
    · obtain ⟨k1, k2⟩ := c4 j hj
      dsimp only
      rw [k1, k2, d5 j hj, upd_eq, upd_eq, updL_eq, if_neg hj, if_neg hj, if_neg hj]
      exact ⟨rfl, rfl, rfl⟩
end REFN
