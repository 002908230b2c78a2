/-! running: floorMod by 64 is the last six bits -/
theorem rn_xs (x : Int32) : (0 ≤ x ^^^ 64) ↔ 0 ≤ x := by
  have m : ∀ y : Int32, (0 ≤ y) ↔ y.toBitVec.msb = false := fun y => by
    rw [Int32.le_iff_toInt_le, BitVec.msb_eq_toInt, decide_eq_false_iff_not]
    show (0 : Int) ≤ y.toInt ↔ ¬ y.toInt < 0
    omega
  rw [m, m, Int32.toBitVec_xor, BitVec.msb_xor]
  show ((x.toBitVec.msb ^^ false) = false) ↔ _
  rw [Bool.xor_false]
theorem rn_fm (x : Int32) : M_C_Math_floorMod x 64 = some (x &&& 63) := by
  have e63 : x &&& 63 = nI (x.toBitVec.toNat % 64) := pk_and x 6 (by decide)
  unfold M_C_Math_floorMod rt_rem
  rw [if_neg (by decide), rq_b]
  by_cases h : 0 ≤ x
  · rw [if_pos ((rn_xs x).mpr h)]
    obtain ⟨j, hj, rfl⟩ := nI_of (Int32.not_lt.mpr h)
    rw [pk_andN (by omega) 6 (by decide)]
    exact congrArg some (pk_rem (d := 64) hj (by decide) (by decide))
  · rw [if_neg (fun q => h ((rn_xs x).mp q))]
    have hx : x.toInt < 0 := by
      rw [Int32.le_iff_toInt_le] at h
      have : ¬ (0 : Int) ≤ x.toInt := h
      omega
    have lo : -2147483648 ≤ x.toInt := Int32.le_toInt x
    have tc := BitVec.toInt_eq_toNat_cond x.toBitVec
    have hlt := x.toBitVec.isLt
    have tc' : x.toInt = if 2 * x.toBitVec.toNat < 2 ^ 32 then (x.toBitVec.toNat : Int) else (x.toBitVec.toNat : Int) - 2 ^ 32 := tc
    have tn : (x.toBitVec.toNat : Int) = x.toInt + 4294967296 := by
      by_cases c : 2 * x.toBitVec.toNat < 2 ^ 32
      · rw [if_pos c] at tc'; omega
      · rw [if_neg c] at tc'; omega
    obtain ⟨m, hm⟩ : ∃ m : Nat, x.toInt = Int.negSucc m := by
      cases hq : x.toInt with
      | ofNat n => rw [hq] at hx; exact absurd hx (by simp)
      | negSucc n => exact ⟨n, rfl⟩
    have hm' : x.toInt = -((m : Int) + 1) := by rw [hm]; rfl
    have dv : (x / 64).toInt = -(((m + 1) / 64 : Nat) : Int) := by
      rw [Int32.toInt_div, hm]
      show (-(((m + 1) / 64 : Nat) : Int)).bmod (2 ^ 32) = _
      exact Int.bmod_eq_of_le (by omega) (by omega)
    have ml : (x / 64 * 64).toInt = -(((m + 1) / 64 : Nat) : Int) * 64 := by
      rw [Int32.toInt_mul, dv]
      exact Int.bmod_eq_of_le (by show _ ≤ -(((m + 1) / 64 : Nat) : Int) * 64; omega) (by show -(((m + 1) / 64 : Nat) : Int) * 64 < _; omega)
    have sb : (x - x / 64 * 64).toInt = -((m : Int) + 1) + (((m + 1) / 64 : Nat) : Int) * 64 := by
      rw [Int32.toInt_sub, ml, hm', show -((m : Int) + 1) - -(((m + 1) / 64 : Nat) : Int) * 64 = -((m : Int) + 1) + (((m + 1) / 64 : Nat) : Int) * 64 by omega]
      exact Int.bmod_eq_of_le (by omega) (by omega)
    by_cases c : x - x / 64 * 64 = 0
    · rw [if_pos c, c, e63]
      have z : (x - x / 64 * 64).toInt = 0 := by rw [c]; rfl
      rw [show x.toBitVec.toNat % 64 = 0 by omega]
      rfl
    · rw [if_neg c, e63]
      have z : (x - x / 64 * 64).toInt ≠ 0 := fun e => c (Int32.toInt_inj.mp e)
      refine congrArg some (Int32.toInt_inj.mp ?_)
      rw [Int32.toInt_add, sb, nI_toInt (by omega)]
      show (-((m : Int) + 1) + (((m + 1) / 64 : Nat) : Int) * 64 + 64).bmod (2 ^ 32) = _
      rw [Int.bmod_eq_of_le (by omega) (by omega)]
      omega
