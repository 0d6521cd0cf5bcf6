/-- bit b of a word -/
def bL (x : Int64) (b : Nat) : Bool := x.toBitVec.getLsbD b
theorem sh_bits {v : Int64} {b : Nat} (hb : b < 64) : ((v.toUInt64 >>> ((nI b).toInt64.toUInt64 &&& Int64.toUInt64 63)).toInt64).toBitVec = v.toBitVec >>> b := by
  have hs : ((nI b).toInt64.toUInt64 &&& Int64.toUInt64 63).toNat = b := by
    have key : ∀ b : Fin 64, ((nI b.val).toInt64.toUInt64 &&& Int64.toUInt64 63).toNat = b.val := by decide +kernel
    exact key ⟨b, hb⟩
  apply BitVec.eq_of_toNat_eq
  show (v.toUInt64 >>> _).toNat = _
  rw [UInt64.toNat_shiftRight, hs, Nat.mod_eq_of_lt hb, BitVec.toNat_ushiftRight]
  rfl
theorem sh_and1 {v : Int64} {b : Nat} (hb : b < 64) : (((v.toUInt64 >>> ((nI b).toInt64.toUInt64 &&& Int64.toUInt64 63)).toInt64) &&& (1 : Int64) = 0) ↔ bL v b = false := by
  rw [← Int64.toBitVec_inj, Int64.toBitVec_and, sh_bits hb]
  show v.toBitVec >>> b &&& 1#64 = 0#64 ↔ _
  rw [bL]
  constructor
  · intro h
    have t := congrArg (fun x => x.getLsbD 0) h
    simpa using t
  · intro h
    apply BitVec.eq_of_getLsbD_eq
    intro i hi
    rw [BitVec.getLsbD_and, BitVec.getLsbD_ushiftRight]
    by_cases c : i = 0
    · subst c; simp [h]
    · have : (1#64).getLsbD i = false := by
        rw [BitVec.getLsbD_one]; simp [c]
      rw [this]; simp
theorem sh_par {v : Int64} {b l : Nat} (hb : b < 64) (hl : l < 128) : ((((v.toUInt64 >>> ((nI b).toInt64.toUInt64 &&& Int64.toUInt64 63)).toInt64).toInt32) ^^^ nI l) &&& (1 : Int32) = nI (if bL v b = decide (l % 2 = 1) then 0 else 1) := by
  have hp : ∀ x : Int32, x &&& (1 : Int32) = nI (x.toBitVec.toNat % 2 ^ 1) := fun x => pk_and x 1 (by decide)
  rw [hp]
  congr 1
  have e1 : ((((v.toUInt64 >>> ((nI b).toInt64.toUInt64 &&& Int64.toUInt64 63)).toInt64).toInt32) ^^^ nI l).toBitVec.getLsbD 0 = ((bL v b) ^^ decide (l % 2 = 1)) := by
    rw [Int32.toBitVec_xor, BitVec.getLsbD_xor]
    have a1 : ((v.toUInt64 >>> ((nI b).toInt64.toUInt64 &&& Int64.toUInt64 63)).toInt64).toInt32.toBitVec.getLsbD 0 = bL v b := by
      have : ((v.toUInt64 >>> ((nI b).toInt64.toUInt64 &&& Int64.toUInt64 63)).toInt64).toInt32.toBitVec = (((v.toUInt64 >>> ((nI b).toInt64.toUInt64 &&& Int64.toUInt64 63)).toInt64).toBitVec).signExtend 32 := rfl
      rw [this, sh_bits hb, BitVec.getLsbD_signExtend]
      simp [bL]
    have a2 : (nI l).toBitVec.getLsbD 0 = decide (l % 2 = 1) := by
      have key : ∀ l : Fin 128, (nI l.val).toBitVec.getLsbD 0 = decide (l.val % 2 = 1) := by decide +kernel
      exact key ⟨l, hl⟩
    rw [a1, a2]
  generalize ((((v.toUInt64 >>> ((nI b).toInt64.toUInt64 &&& Int64.toUInt64 63)).toInt64).toInt32) ^^^ nI l).toBitVec = z at e1
  have e2 : z.toNat % 2 ^ 1 = if z.getLsbD 0 then 1 else 0 := by
    rw [BitVec.getLsbD, Nat.testBit_zero]
    have : z.toNat % 2 < 2 := Nat.mod_lt _ (by decide)
    by_cases c : z.toNat % 2 = 1
    · simp [c]
    · have : z.toNat % 2 = 0 := by omega
      simp [this]
  rw [e2, e1]
  cases bL v b <;> cases decide (l % 2 = 1) <;> rfl
theorem p_wordOf {s : Nat} (h : s < 256) : m_Exp_wordOf (nI s) = some (nI (s / 4)) := by
  have key : ∀ s : Fin 256, nI s.val >>> ((2 : Int32) &&& 31) = nI (s.val / 4) := by decide +kernel
  rw [m_Exp_wordOf, key ⟨s, h⟩]
theorem p_shiftOf {s : Nat} (h : s < 256) : m_Exp_shiftOf (nI s) = some (nI (s % 4 * 16)) := by
  have key : ∀ s : Fin 256, (nI s.val &&& (3 : Int32)) <<< ((4 : Int32) &&& 31) = nI (s.val % 4 * 16) := by decide +kernel
  rw [m_Exp_shiftOf, key ⟨s, h⟩]
