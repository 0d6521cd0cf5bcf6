/-! always and isSame -/
theorem and_full {x m : Int64} : x &&& m = m ↔ ∀ j, j < 64 → bL m j = true → bL x j = true := by
  rw [← Int64.toBitVec_inj, Int64.toBitVec_and]
  constructor
  · intro h j hj hm
    have e : (x.toBitVec &&& m.toBitVec).getLsbD j = m.toBitVec.getLsbD j := by rw [h]
    rw [BitVec.getLsbD_and] at e
    have hm' : m.toBitVec.getLsbD j = true := hm
    rw [hm', Bool.and_true] at e
    exact e
  · intro h
    apply BitVec.eq_of_getLsbD_eq
    intro j hj
    rw [BitVec.getLsbD_and]
    cases e : m.toBitVec.getLsbD j with
    | false => rw [Bool.and_false]
    | true => rw [show x.toBitVec.getLsbD j = true from h j hj e]; rfl
theorem cnt_two {R p q : Nat → Bool} : ∀ {l : List Nat}, (∀ a, a ∈ l → p a = true → q a = false) → l.countP (fun a => R a && p a) + l.countP (fun a => R a && q a) = l.countP (fun a => R a && (p a || q a))
  | [], _ => rfl
  | a :: l, h => by
    have ih := cnt_two (R := R) (p := p) (q := q) (l := l) (fun b hb => h b (List.mem_cons_of_mem _ hb))
    have ha := h a List.mem_cons_self
    rw [List.countP_cons, List.countP_cons, List.countP_cons, ← ih]
    cases e1 : R a <;> cases e2 : p a <;> cases e3 : q a <;> simp_all <;> omega
section QH
variable {gs : List Nat} {fs : List (Nat × Nat)} {os : List Nat} {pn : Nat → Int32} {pt : Int32} {se va : Nat → Int64} {ns di od pa st : Nat → Int32} {sp : Nat → Int64} {wd re du dS dC : Int32}
  {mse mne : Nat → Int32} {mon : Nat → Int64} {mdi map : Nat → Int32}
/-- the pair number a is of a reached state and a choice with which the net settles -/
def RSa (gs : List Nat) (fs : List (Nat × Nat)) (a : Nat) : Bool := decide (a / 16 ∈ (WG gs fs).1) && (decide (a % 16 < 2 ^ gs.count 0) && stN gs fs (a / 16) (a % 16))
def hcB (on : Nat → Int64) (m : Int64) (x : Int32) (a : Nat) : Bool := if x = 0 then decide (on a &&& m = 0) else decide (on a &&& m = m)
theorem p_heldL (hw : WF gs fs os) (hM : EM gs fs os mse mne mon mdi map) {m : Int64} {x : Int32} : ∀ (k n i q : Nat), i + k = 16 * 2 ^ gs.count 1 → k < n → L_Mod_held_6 (nI (gs.count 0)) (nI (gs.count 1)) mse mon mdi m x n (nI q) (nI i) = some (nI (q + (List.range' i k).countP (fun a => RSa gs fs a && hcB mon m x a))) := by
  have hI := hw.2.1
  have hK := hw.2.2.1
  have hp4 := pow4 hI
  have hp8 := pow8 hK
  intro k
  induction k with
  | zero =>
    intro n i q h1 h2
    obtain ⟨n, rfl⟩ : ∃ z, n = z + 1 := ⟨n - 1, by omega⟩
    rw [L_Mod_held_6, p_mstates hK, Option.bind_some, i16, pk_mul, if_pos ((nI_leI (by omega) (by omega)).mpr (by omega))]
    rfl
  | succ k ih =>
    intro n i q h1 h2
    obtain ⟨n, rfl⟩ : ∃ z, n = z + 1 := ⟨n - 1, by omega⟩
    have hq : i / 16 < 2 ^ gs.count 1 := by omega
    have hd := WG_di hw hM.2.1 (i / 16) hq
    rw [rdK, decide_eq_false_iff_not] at hd
    have no : RSa gs fs i = false → L_Mod_held_6 (nI (gs.count 0)) (nI (gs.count 1)) mse mon mdi m x n (nI q) (nI (i + 1)) = some (nI (q + (List.range' i (k + 1)).countP (fun a => RSa gs fs a && hcB mon m x a))) := by
      intro h
      rw [ih n (i + 1) q (by omega) (by omega), List.range'_succ, List.countP_cons, h]
      rfl
    have yes : RSa gs fs i = true → (if x = (0 : Int32) then (if lg_cmp (mon i &&& m) (0 : Int64) = (0 : Int32) then (L_Mod_held_6 (nI (gs.count 0)) (nI (gs.count 1)) mse mon mdi m x n (nI (q + 1)) (nI (i + 1))) else (L_Mod_held_6 (nI (gs.count 0)) (nI (gs.count 1)) mse mon mdi m x n (nI q) (nI (i + 1)))) else (if lg_cmp (mon i &&& m) m = (0 : Int32) then (L_Mod_held_6 (nI (gs.count 0)) (nI (gs.count 1)) mse mon mdi m x n (nI (q + 1)) (nI (i + 1))) else (L_Mod_held_6 (nI (gs.count 0)) (nI (gs.count 1)) mse mon mdi m x n (nI q) (nI (i + 1))))) = some (nI (q + (List.range' i (k + 1)).countP (fun a => RSa gs fs a && hcB mon m x a))) := by
      intro h
      simp only [lg_cmp0]
      rw [ih n (i + 1) q (by omega) (by omega), ih n (i + 1) (q + 1) (by omega) (by omega), List.range'_succ, List.countP_cons, h, hcB, Bool.true_and]
      by_cases c : x = 0
      · rw [if_pos c, if_pos c]
        by_cases c2 : mon i &&& m = 0
        · rw [if_pos c2, if_pos (decide_eq_true c2), Nat.add_assoc, Nat.add_comm 1]
        · rw [if_neg c2, if_neg (by simpa using c2)]; rfl
      · rw [if_neg c, if_neg c]
        by_cases c2 : mon i &&& m = m
        · rw [if_pos c2, if_pos (decide_eq_true c2), Nat.add_assoc, Nat.add_comm 1]
        · rw [if_neg c2, if_neg (by simpa using c2)]; rfl
    have hrem : nI i - nI (i / 16) * nI 16 = nI (i % 16) := by rw [pk_mul, pk_sub (by omega)]; congr 1; omega
    rw [L_Mod_held_6, p_mstates hK, Option.bind_some, i16, pk_mul, if_neg (by rw [nI_leI (by omega) (by omega)]; omega), ← i16, gd_in (by decide), i16, pk_div (by omega) (by omega) (by omega), gd_nI (show i / 16 < 256 by omega) (by decide)]
    simp only [sx_let, hrem, gd_nI (show i < 4096 by omega) (show 4096 < 2 ^ 31 by decide), nI_clamp (show i < 2 ^ 31 by omega), nI_clamp (show i / 16 < 2 ^ 31 by omega), p_mchoices (show gs.count 0 ≤ 8 by omega), Option.bind_some, nI_1, if_true, if_neg (show ¬ (1 : Int32) = 0 by decide), nI_leI (show 2 ^ gs.count 0 < 2 ^ 31 by omega) (show i % 16 < 2 ^ 31 by omega)]
    by_cases c1 : mdi (i / 16) < 0
    · rw [if_pos c1]
      exact no (by rw [RSa, decide_eq_false (hd.mp c1)]; rfl)
    · rw [if_neg c1, gd_in (by decide)]
      have hin : i / 16 ∈ (WG gs fs).1 := Classical.byContradiction fun z => c1 (hd.mpr z)
      by_cases c2 : 2 ^ gs.count 0 ≤ i % 16
      · rw [if_pos c2]
        exact no (by rw [RSa, decide_eq_false (show ¬ i % 16 < 2 ^ gs.count 0 by omega)]; simp)
      · rw [if_neg c2]
        have hT := (hM.1 (i / 16) hq (i % 16) (by omega)).1
        rw [show 16 * (i / 16) + i % 16 = i by omega] at hT
        rw [hT]
        cases e : stN gs fs (i / 16) (i % 16) with
        | false =>
          rw [if_pos (by simp)]
          exact no (by rw [RSa, e]; simp)
        | true =>
          rw [if_neg (by simp)]
          exact yes (by rw [RSa, e, decide_eq_true hin, decide_eq_true (show i % 16 < 2 ^ gs.count 0 by omega)]; rfl)
theorem p_held (hw : WF gs fs os) (hM : EM gs fs os mse mne mon mdi map) (m : Int64) (x : Int32) : m_Mod_held (nI (gs.count 0)) (nI (gs.count 1)) mse mon mdi m x = some (nI ((List.range' 0 (16 * 2 ^ gs.count 1)).countP (fun a => RSa gs fs a && hcB mon m x a))) := by
  have hp8 := pow8 hw.2.2.1
  have e := p_heldL hw hM (m := m) (x := x) (16 * 2 ^ gs.count 1) fu 0 0 (by omega) (by rw [fu]; omega)
  have e' : L_Mod_held_6 (nI (gs.count 0)) (nI (gs.count 1)) mse mon mdi m x fu (0 : Int32) (0 : Int32) = _ := e
  rw [m_Mod_held, e', Option.bind_some, Nat.zero_add]
theorem cnt_le16 {S : Nat} (hS : S ≤ 256) (p : Nat → Bool) : (List.range' 0 (16 * S)).countP p ≤ 4096 := by
  have := List.countP_le_length (p := p) (l := List.range' 0 (16 * S))
  rw [List.length_range'] at this
  omega
theorem cnt_pos {S : Nat} {p : Nat → Bool} : 0 < (List.range' 0 (16 * S)).countP p ↔ ∃ a, a < 16 * S ∧ p a = true := by
  rw [List.countP_pos_iff]
  constructor
  · intro ⟨a, ha, h⟩
    have := List.mem_range'_1.mp ha
    exact ⟨a, by omega, h⟩
  · intro ⟨a, ha, h⟩
    exact ⟨a, List.mem_range'_1.mpr ⟨by omega, by omega⟩, h⟩
theorem RSa_on (hw : WF gs fs os) (hM : EM gs fs os mse mne mon mdi map) {a g : Nat} (h : RSa gs fs a = true) (hg : g < gs.length) : bL (mon a) g = vaN gs fs g (a / 16) (a % 16) := by
  rw [RSa, Bool.and_eq_true, Bool.and_eq_true, decide_eq_true_eq, decide_eq_true_eq] at h
  have hs := ((WG_IA (fs := fs) hw).2.1 _ h.1).1
  have := (hM.1 (a / 16) hs (a % 16) h.2.1).2.2 g hg
  rw [show 16 * (a / 16) + a % 16 = a by omega] at this
  exact this
/-- pairs by number, and by state and choice -/
theorem RSa_ex (hw : WF gs fs os) {Q : Nat → Nat → Prop} (hQ : ∀ s c, s < 256 → c < 16 → (Q s c ↔ Q s (c % 2 ^ gs.count 0))) : (∃ a, a < 16 * 2 ^ gs.count 1 ∧ RSa gs fs a = true ∧ Q (a / 16) (a % 16)) ↔ ∃ s, s ∈ (WG gs fs).1 ∧ ∃ c, c < 16 ∧ stN gs fs s c = true ∧ Q s c := by
  have hp4 := pow4 hw.2.1
  have hp8 := pow8 hw.2.2.1
  have hI := WG_IA (fs := fs) hw
  constructor
  · intro ⟨a, _, h, q⟩
    rw [RSa, Bool.and_eq_true, Bool.and_eq_true, decide_eq_true_eq, decide_eq_true_eq] at h
    exact ⟨a / 16, h.1, a % 16, by omega, h.2.2, q⟩
  · intro ⟨s, hs, c, hc, h, q⟩
    have hsS := (hI.2.1 s hs).1
    have hm : c % 2 ^ gs.count 0 < 2 ^ gs.count 0 := Nat.mod_lt _ (by omega)
    have e1 : (16 * s + c % 2 ^ gs.count 0) / 16 = s := by omega
    have e2 : (16 * s + c % 2 ^ gs.count 0) % 16 = c % 2 ^ gs.count 0 := by omega
    refine ⟨16 * s + c % 2 ^ gs.count 0, by omega, ?_, ?_⟩
    · rw [RSa, e1, e2, decide_eq_true hs, decide_eq_true hm, ← stN_mod hw (by omega) hc, h]; rfl
    · rw [e1, e2]; exact (hQ s c (by omega) hc).mp q
theorem TI_sb (hw : WF gs fs os) (hT : TI gs fs (nvF gs fs) se va ns) {s c : Nat} (hs : s < 2 ^ gs.count 1) : sb se s c = stN gs fs s c := by
  rw [sb, stN, (hT.1 _ (wt_of hs)).1]
theorem TI_vb (hw : WF gs fs os) (hT : TI gs fs (nvF gs fs) se va ns) {s c g : Nat} (hs : s < 2 ^ gs.count 1) (hg : g < gs.length) : vb va g s c = vaN gs fs g s c := by
  rw [vb, vaN, (hT.1 _ (wt_of hs)).2 g hg]
theorem bit_iff {x : Int64} {g : Nat} (hg : g < 60) : (x &&& ((1 : Int64) <<< ((nI g).toInt64 &&& 63)) = ((1 : Int64) <<< ((nI g).toInt64 &&& 63)) ↔ bL x g = true) ∧ (x &&& ((1 : Int64) <<< ((nI g).toInt64 &&& 63)) = 0 ↔ bL x g = false) := by
  constructor
  · rw [and_full]
    constructor
    · intro h; exact h g (by omega) (by rw [shl1_bit hg (by omega)]; simp)
    · intro h j hj q
      rw [shl1_bit hg hj, decide_eq_true_eq] at q
      rw [q]; exact h
  · rw [bL_and0]
    constructor
    · intro h
      have := h g (by omega)
      rw [shl1_bit hg (by omega)] at this
      simpa using this
    · intro h j hj q
      rw [shl1_bit hg hj, decide_eq_true_eq] at q
      rw [q.2, h] at q
      exact absurd q.1 (by simp)
theorem q_always (hw : WF gs fs os) {x y : Int32} (hX : XX gs fs os pn pt se va ns di od pa st sp wd re du dS dC mse mne mon mdi map x y) (co : Int32) (out : Nat → Int64) (a : Int32) :
    ∃ k o b, m_Law_always (nI gs.length) va sp wd x out a = some (k, o) ∧ m_Mod_always co (nI gs.length) (nI (gs.count 0)) (nI (gs.count 1)) y mse mon mdi a = some (b, k) ∧ (k = 0 → o 0 = b.toInt64) := by
  have hG := hw.1
  have hp8 := pow8 hw.2.2.1
  rw [m_Law_always, m_Exp_always, m_Mod_always]
  simp only [sx_let]
  rcases ix_cases a (n := gs.length) (by omega) with h | ⟨g, hg, rfl⟩
  · obtain ⟨e1, e2⟩ := rg_no h
    rcases hX with ⟨rfl, rfl⟩ | ⟨rfl, rfl, _, _⟩
    · exact ⟨1, out, 0, by rw [rx_0]; rfl, by rw [if_pos rfl, e2, Option.bind_some, if_pos rfl, fails_1]; rfl, fun q => absurd q (by decide)⟩
    · exact ⟨2, out, 0, by rw [rx_1, Option.bind_some, se_r, e1]; rfl, by rw [if_neg (by decide), e2, Option.bind_some, if_pos rfl, fails_2]; rfl, fun q => absurd q (by decide)⟩
  · obtain ⟨e1, e2⟩ := rg_yes hG hg
    rcases hX with ⟨rfl, rfl⟩ | ⟨rfl, rfl, hE, hM⟩
    · exact ⟨1, out, 0, by rw [rx_0]; rfl, by rw [if_pos rfl, e2, Option.bind_some, if_neg (by decide), fails_1]; rfl, fun q => absurd q (by decide)⟩
    · have hI := WG_IA (fs := fs) hw
      have hg60 : g < 60 := by omega
      have hwd : wd = nI (wt (gs.count 1)) := hE.2.2.2.2.1
      have hl : ∀ s, s ∈ (WG gs fs).1 → s / 4 < wt (gs.count 1) := fun s hs => wt_of (hI.2.1 s hs).1
      have ev := fun z => p_isEver (va := va) (wt_le hw.2.2.1).2 hg60 hE.2.2.2.1 hl z
      have conv : ∀ z, (∃ s, s ∈ (WG gs fs).1 ∧ ∃ c, c < 16 ∧ sb se s c = true ∧ vb va g s c = z) ↔ ∃ q, q < 16 * 2 ^ gs.count 1 ∧ RSa gs fs q = true ∧ vaN gs fs g (q / 16) (q % 16) = z := by
        intro z
        rw [RSa_ex hw (Q := fun s c => vaN gs fs g s c = z) (fun s c hs hc => by rw [vaN_mod hw hs hc])]
        constructor
        · intro ⟨s, hs, c, hc, h1, h2⟩
          have hsS := (hI.2.1 s hs).1
          rw [TI_sb hw hE.1 hsS] at h1
          rw [TI_vb hw hE.1 hsS hg] at h2
          exact ⟨s, hs, c, hc, h1, h2⟩
        · intro ⟨s, hs, c, hc, h1, h2⟩
          have hsS := (hI.2.1 s hs).1
          rw [← TI_sb hw hE.1 hsS] at h1
          rw [← TI_vb hw hE.1 hsS hg] at h2
          exact ⟨s, hs, c, hc, h1, h2⟩
      -- the reference's two counts
      have hU : 0 < (List.range' 0 (16 * 2 ^ gs.count 1)).countP (fun a => RSa gs fs a && hcB mon ((1 : Int64) <<< ((nI g).toInt64 &&& 63)) 1 a) ↔ ∃ q, q < 16 * 2 ^ gs.count 1 ∧ RSa gs fs q = true ∧ vaN gs fs g (q / 16) (q % 16) = true := by
        rw [cnt_pos]
        constructor
        · intro ⟨q, hq, h⟩
          rw [Bool.and_eq_true, hcB, if_neg (by decide), decide_eq_true_eq, (bit_iff hg60).1] at h
          exact ⟨q, hq, h.1, by rw [← RSa_on hw hM h.1 hg]; exact h.2⟩
        · intro ⟨q, hq, h, h2⟩
          refine ⟨q, hq, ?_⟩
          rw [Bool.and_eq_true, hcB, if_neg (by decide), decide_eq_true_eq, (bit_iff hg60).1]
          exact ⟨h, by rw [RSa_on hw hM h hg]; exact h2⟩
      have hD : 0 < (List.range' 0 (16 * 2 ^ gs.count 1)).countP (fun a => RSa gs fs a && hcB mon ((1 : Int64) <<< ((nI g).toInt64 &&& 63)) 0 a) ↔ ∃ q, q < 16 * 2 ^ gs.count 1 ∧ RSa gs fs q = true ∧ vaN gs fs g (q / 16) (q % 16) = false := by
        rw [cnt_pos]
        constructor
        · intro ⟨q, hq, h⟩
          rw [Bool.and_eq_true, hcB, if_pos rfl, decide_eq_true_eq, (bit_iff hg60).2] at h
          exact ⟨q, hq, h.1, by rw [← RSa_on hw hM h.1 hg]; exact h.2⟩
        · intro ⟨q, hq, h, h2⟩
          refine ⟨q, hq, ?_⟩
          rw [Bool.and_eq_true, hcB, if_pos rfl, decide_eq_true_eq, (bit_iff hg60).2]
          exact ⟨h, by rw [RSa_on hw hM h hg]; exact h2⟩
      have b1 := cnt_le16 hp8.2 (fun a => RSa gs fs a && hcB mon ((1 : Int64) <<< ((nI g).toInt64 &&& 63)) 1 a)
      have b0 := cnt_le16 hp8.2 (fun a => RSa gs fs a && hcB mon ((1 : Int64) <<< ((nI g).toInt64 &&& 63)) 0 a)
      have h1 := p_held hw hM ((1 : Int64) <<< ((nI g).toInt64 &&& 63)) 1
      have h0 := p_held hw hM ((1 : Int64) <<< ((nI g).toInt64 &&& 63)) 0
      generalize (List.range' 0 (16 * 2 ^ gs.count 1)).countP (fun a => RSa gs fs a && hcB mon ((1 : Int64) <<< ((nI g).toInt64 &&& 63)) 1 a) = U at *
      generalize (List.range' 0 (16 * 2 ^ gs.count 1)).countP (fun a => RSa gs fs a && hcB mon ((1 : Int64) <<< ((nI g).toInt64 &&& 63)) 0 a) = D at *
      have eU : (m_Wlk_isEver va sp wd (nI g) 1 = some 1 ∧ 0 < U) ∨ (m_Wlk_isEver va sp wd (nI g) 1 = some 0 ∧ U = 0) := by
        rw [hwd]
        rcases ev true with ⟨p, q⟩ | ⟨p, q⟩
        · exact Or.inl ⟨p, hU.mpr ((conv true).mp q)⟩
        · refine Or.inr ⟨p, ?_⟩
          rcases Nat.eq_zero_or_pos U with z | z
          · exact z
          · obtain ⟨s, hs, c, hc, r1, r2⟩ := (conv true).mpr (hU.mp z)
            exact absurd r2 (q s hs c hc r1)
      have eD : (m_Wlk_isEver va sp wd (nI g) 0 = some 1 ∧ 0 < D) ∨ (m_Wlk_isEver va sp wd (nI g) 0 = some 0 ∧ D = 0) := by
        rw [hwd]
        rcases ev false with ⟨p, q⟩ | ⟨p, q⟩
        · exact Or.inl ⟨p, hD.mpr ((conv false).mp q)⟩
        · refine Or.inr ⟨p, ?_⟩
          rcases Nat.eq_zero_or_pos D with z | z
          · exact z
          · obtain ⟨s, hs, c, hc, r1, r2⟩ := (conv false).mpr (hD.mp z)
            exact absurd r2 (q s hs c hc r1)
      have le0 : ∀ n : Nat, n ≤ 4096 → ((nI n ≤ (0 : Int32)) ↔ n = 0) := fun n hn => by
        rw [i0, nI_leI (by omega) (by decide)]; omega
      rw [rx_1, Option.bind_some, se_r, e1, Option.bind_some, se_r, if_neg (by decide), e2, Option.bind_some, if_neg (by decide), fails_0, Option.bind_some, if_pos rfl, h1, Option.bind_some, h0, Option.bind_some]
      simp only [le0 U b1, le0 D b0, q0 (show U < 2 ^ 31 by omega), q0 (show D < 2 ^ 31 by omega)]
      rcases eU with ⟨u1, u2⟩ | ⟨u1, u2⟩ <;> rcases eD with ⟨d1, d2⟩ | ⟨d1, d2⟩
      · rw [u1, d1, Option.bind_some, Option.bind_some, if_pos rfl, if_neg (show ¬ U = 0 by omega), if_neg (show ¬ D = 0 by omega), if_neg (show ¬ U = 0 by omega)]
        refine ⟨0, vp_updL out 0 (Int32.toInt64 2), 2, ?_, by first | rfl | (split <;> rfl), fun _ => by rw [out0]⟩
        rw [Option.bind_some, se_r, in01, cl0]
      · rw [u1, d1, Option.bind_some, Option.bind_some, if_neg (by decide), if_neg (by decide), if_neg (show ¬ U = 0 by omega), if_pos d2]
        refine ⟨0, vp_updL out 0 (Int32.toInt64 1), 1, ?_, rfl, fun _ => by rw [out0]⟩
        rw [Option.bind_some, se_r, in01, cl0]
      · rw [u1, d1, Option.bind_some, Option.bind_some, if_neg (by decide), if_pos rfl, if_pos u2, if_neg (show ¬ D = 0 by omega), if_pos u2]
        refine ⟨0, vp_updL out 0 (Int32.toInt64 0), 0, ?_, rfl, fun _ => by rw [out0]⟩
        rw [Option.bind_some, se_r, in01, cl0]
      · rw [u1, d1, Option.bind_some, Option.bind_some, if_pos rfl, if_pos u2, if_pos d2]
        refine ⟨0, vp_updL out 0 (Int32.toInt64 2), 2, ?_, by first | rfl | (split <;> rfl), fun _ => by rw [out0]⟩
        rw [Option.bind_some, se_r, in01, cl0]
end QH
