/-! THE TABLE: what one word's 64 pairs come to -/
theorem nx_xor' (a b : Nat) (ha : a < 128) (hb : b < 2) : nI a ^^^ nI b = nI (a ^^^ b) := by
  have : ∀ a : Fin 128, ∀ b : Fin 2, nI a.val ^^^ nI b.val = nI (a.val ^^^ b.val) := by decide +kernel
  exact this ⟨a, ha⟩ ⟨b, hb⟩
theorem xor_lt {a b G : Nat} (ha : a < 2 * G) (hG : G ≤ 60) (hb : b < 2) : a ^^^ b < 2 * G := by
  have key : ∀ a : Fin 120, ∀ b : Fin 2, (a.val ^^^ b.val) / 2 = a.val / 2 := by decide +kernel
  have := key ⟨a, by omega⟩ ⟨b, hb⟩
  simp only at this
  omega
/-- the words of a gate: where all feeds are 1, where one is 0 -/
def andW (kn : Nat → Int64) (fl : Nat) (ls : List Nat) (a : Int64) : Int64 := ls.foldl (fun a l => a &&& kn (l ^^^ fl)) a
def orW (kn : Nat → Int64) (fl : Nat) (ls : List Nat) (a : Int64) : Int64 := ls.foldl (fun a l => a ||| kn (l ^^^ fl ^^^ 1)) a
theorem p_L26 {li : Nat → Int32} {kn : Nat → Int64} {fl S G : Nat} {ls : List Nat} (hfl : fl < 2) (hG : G ≤ 60) (hS : S + ls.length ≤ 240) (hls : ∀ l ∈ ls, l < 2 * G) (hli : ∀ j, j < ls.length → li (S + j) = nI (ls.getD j 0)) :
    ∀ (k n j : Nat) (a b : Int64), j ≤ ls.length → ls.length - j = k → k < n → L_Tab_learn_26 li kn (nI fl) (nI (S + ls.length)) n a b (nI (S + j)) = some (andW kn fl (ls.drop j) a, orW kn fl (ls.drop j) b) := by
  intro k
  induction k with
  | zero =>
    intro n j a b h1 h2 h3
    obtain ⟨n, rfl⟩ : ∃ z, n = z + 1 := ⟨n - 1, by omega⟩
    rw [L_Tab_learn_26, if_pos ((nI_leI (by omega) (by omega)).mpr (by omega)), List.drop_eq_nil_of_le (by omega)]
    rfl
  | succ k ih =>
    intro n j a b h1 h2 h3
    obtain ⟨n, rfl⟩ : ∃ z, n = z + 1 := ⟨n - 1, by omega⟩
    have hj : j < ls.length := by omega
    have hx : ls.getD j 0 = ls[j] := by simp [List.getD_eq_getElem?_getD, hj]
    have hl : ls[j] < 2 * G := hls _ (List.getElem_mem hj)
    have hl2 := xor_lt hl hG hfl
    have hl3 := xor_lt hl2 hG (show 1 < 2 by decide)
    rw [L_Tab_learn_26, if_neg (by rw [nI_leI (by omega) (by omega)]; omega), gd_nI (by omega) (by decide), nI_clamp (by omega), hli j hj, hx, nx_xor' _ _ (by omega) hfl, gd_nI (by omega) (by decide), i1, nx_xor' _ _ (by omega) (by decide), gd_nI (by omega) (by decide), nI_clamp (by omega), nI_clamp (by omega), ← i1, nI_1, Nat.add_assoc, ih n (j + 1) _ _ (by omega) (by omega) (by omega)]
    rw [List.drop_eq_getElem_cons hj]
    rfl
theorem lg_cmp0 (x y : Int64) : (lg_cmp x y = (0 : Int32)) ↔ x = y := by
  unfold lg_cmp
  by_cases h1 : y < x
  · rw [if_pos h1]
    exact ⟨fun h => absurd h (by decide), fun h => absurd h1 (by rw [h]; exact Int64.lt_irrefl)⟩
  · rw [if_neg h1]
    by_cases h2 : x = y
    · rw [if_pos h2]; exact ⟨fun _ => h2, fun _ => rfl⟩
    · rw [if_neg h2]
      exact ⟨fun h => absurd h (by decide), fun h => absurd h h2⟩
theorem gd_z0 {α : Type} {a : Option α} : gd (sx_zok (0 : Int32)) a = a := gd_in sx_z0
theorem gd_z1 {α : Type} {a : Option α} : gd (sx_zok (1 : Int32)) a = a := gd_in sx_z1
theorem p_learn {st li : Nat → Int32} {kn : Nat → Int64} {fl S G g : Nat} {ls : List Nat} (hfl : fl < 2) (hG : G ≤ 60) (hg : g < G) (hS : S + ls.length ≤ 240) (hls : ∀ l ∈ ls, l < 2 * G) (hli : ∀ j, j < ls.length → li (S + j) = nI (ls.getD j 0)) (hs : st g = nI S) (hs1 : st (g + 1) = nI (S + ls.length)) :
    m_Tab_learn st li kn (nI g) (nI fl) = some (if kn (2 * g + fl) = andW kn fl ls (-1) ∧ kn ((2 * g + fl) ^^^ 1) = orW kn fl ls 0 then 0 else 1, vp_updL (vp_updL kn (2 * g + fl) (andW kn fl ls (-1))) ((2 * g + fl) ^^^ 1) (orW kn fl ls 0)) := by
  have hL := p_L26 (li := li) (kn := kn) (fl := fl) (S := S) (G := G) (ls := ls) hfl hG hS hls hli ls.length fu 0 (-1) 0 (Nat.zero_le _) rfl (by rw [fu]; omega)
  rw [List.drop_zero, Nat.add_zero] at hL
  have h2 : nI g * (2 : Int32) + nI fl = nI (2 * g + fl) := by rw [i2, pk_mul, nI_add, Nat.mul_comm]
  have hx := xor_lt (a := 2 * g + fl) (G := G) (by omega) hG (show 1 < 2 by decide)
  rw [m_Tab_learn, nI_1, gd_nI (by omega) (by decide), gd_nI (by omega) (by decide), nI_clamp (by omega), nI_clamp (by omega), hs, hs1, hL, Option.bind_some, h2, gd_nI (by omega) (by decide), nI_clamp (by omega)]
  have hxx : nI (2 * g + fl) ^^^ (1 : Int32) = nI ((2 * g + fl) ^^^ 1) := by rw [i1]; exact nx_xor' _ _ (by omega) (by decide)
  have hcx : (nI ((2 * g + fl) ^^^ 1)).toNatClampNeg = (2 * g + fl) ^^^ 1 := nI_clamp (by omega)
  simp only [sx_let, lg_cmp0, hxx, hcx, gd_nI (show 2 * g + fl < 120 by omega) (by decide), gd_nI (show (2 * g + fl) ^^^ 1 < 120 by omega) (by decide), gd_z0, gd_z1]
  by_cases c1 : kn (2 * g + fl) = andW kn fl ls (-1)
  · by_cases c2 : kn ((2 * g + fl) ^^^ 1) = orW kn fl ls 0
    · rw [if_pos c1, if_pos c2, if_pos ⟨c1, c2⟩]
    · rw [if_pos c1, if_neg c2, if_neg (fun h => c2 h.2)]
  · rw [if_neg c1, if_neg (fun h => c1 h.1)]
