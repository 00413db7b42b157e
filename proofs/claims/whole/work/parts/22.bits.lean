theorem bt_ext {x y : Int64} (h : ∀ i, i < 64 → bt64 x i = bt64 y i) : x = y := Int64.toBitVec_inj.mp (BitVec.eq_of_getLsbD_eq (fun i hi => h i hi))
theorem bt_big {x : Int64} {i : Nat} (h : 64 ≤ i) : bt64 x i = false := BitVec.getLsbD_of_ge _ _ h
theorem bt_lt {x : Int64} {i : Nat} (h : bt64 x i = true) : i < 64 := by
  rcases Nat.lt_or_ge i 64 with q | q
  · exact q
  · rw [bt_big q] at h; cases h
theorem bt_or (x y : Int64) (i : Nat) : bt64 (x ||| y) i = (bt64 x i || bt64 y i) := by simp [bt64]
theorem bt_and (x y : Int64) (i : Nat) : bt64 (x &&& y) i = (bt64 x i && bt64 y i) := by simp [bt64]
theorem bt_xor (x y : Int64) (i : Nat) : bt64 (x ^^^ y) i = (bt64 x i ^^ bt64 y i) := by simp [bt64]
theorem bt_0 (i : Nat) : bt64 0 i = false := by simp [bt64]
theorem bt_m1 {i : Nat} (h : i < 64) : bt64 (-1) i = true := by
  have : ∀ i, i < 64 → bt64 (-1) i = true := by decide +kernel
  exact this i h
theorem bt_not (x : Int64) {i : Nat} (h : i < 64) : bt64 (x ^^^ (-1)) i = !bt64 x i := by rw [bt_xor, bt_m1 h]; cases bt64 x i <;> rfl
theorem bt_andn (x y : Int64) (i : Nat) : bt64 (x &&& (y ^^^ (-1))) i = (bt64 x i && !bt64 y i) := by
  rcases Nat.lt_or_ge i 64 with q | q
  · rw [bt_and, bt_not y q]
  · rw [bt_big q, bt_big (x := x) q]; rfl
theorem sh_amt : ∀ k, k < 64 → (((nI k).toInt64 &&& 63).toBitVec.smod 64).toNat = k := by decide +kernel
theorem sh_amu : ∀ k, k < 64 → ((nI k).toInt64.toUInt64 &&& Int64.toUInt64 63).toNat % 64 = k := by decide +kernel
theorem bt_shl (x : Int64) {k : Nat} (hk : k < 64) (i : Nat) : bt64 (jlshl x (nI k)) i = (decide (k ≤ i ∧ i < 64) && bt64 x (i - k)) := by
  unfold bt64 jlshl
  rw [Int64.toBitVec_shiftLeft]
  rw [BitVec.shiftLeft_eq', BitVec.getLsbD_shiftLeft]
  have e := sh_amt k hk
  rw [show ((((nI k).toInt64 &&& 63).toBitVec.smod 64).toNat) = k from e]
  by_cases h1 : i < 64 <;> by_cases h2 : k ≤ i
  · simp [h1, h2, Nat.not_lt.mpr h2]
  · simp [h1, h2, Nat.lt_of_not_le h2]
  · simp [h1]
  · simp [h1]
theorem bt_one {k : Nat} (hk : k < 64) (i : Nat) : bt64 (jlshl 1 (nI k)) i = decide (i = k) := by
  rw [bt_shl 1 hk]
  have h1 : ∀ j, bt64 1 j = decide (j = 0) := fun j => by
    unfold bt64
    show (BitVec.getLsbD 1#64 j) = _
    simp [BitVec.getLsbD_one]
  rw [h1]
  by_cases h : i = k
  · subst h; simp [hk]
  · by_cases h2 : k ≤ i
    · have : ¬ (i - k = 0) := by omega
      simp [h, this]
    · simp [h, h2]
theorem bt_ushr (x : Int64) {k : Nat} (hk : k < 64) (i : Nat) : bt64 (jlushr x (nI k)) i = bt64 x (k + i) := by
  unfold bt64 jlushr
  show ((x.toUInt64 >>> ((nI k).toInt64.toUInt64 &&& Int64.toUInt64 63)).toBitVec).getLsbD i = _
  rw [UInt64.toBitVec_shiftRight, BitVec.ushiftRight_eq', BitVec.getLsbD_ushiftRight]
  have e := sh_amu k hk
  rw [show (((nI k).toInt64.toUInt64 &&& Int64.toUInt64 63).toBitVec % 64).toNat = k from e]
  rfl
theorem bt_sshr (x : Int64) {k : Nat} (hk : k < 64) {i : Nat} (hi : k + i < 64) : bt64 (jlshr x (nI k)) i = bt64 x (k + i) := by
  unfold bt64 jlshr
  rw [Int64.toBitVec_shiftRight, BitVec.sshiftRight_eq', BitVec.getLsbD_sshiftRight]
  have e := sh_amt k hk
  rw [show ((((nI k).toInt64 &&& 63).toBitVec.smod 64).toNat) = k from e]
  have h1 : i < 64 := by omega
  simp [h1, hi, Nat.not_le.mpr h1]
theorem bt_a1 (x : Int64) (i : Nat) : bt64 (x &&& 1) i = (decide (i = 0) && bt64 x 0) := by
  rw [bt_and]
  have h1 : bt64 1 i = decide (i = 0) := by
    unfold bt64
    show (BitVec.getLsbD 1#64 i) = _
    simp [BitVec.getLsbD_one]
  rw [h1]
  by_cases h : i = 0
  · subst h; simp
  · simp [h]
theorem and1_eq (x : Int64) : x &&& 1 = if bt64 x 0 then 1 else 0 := by
  apply bt_ext
  intro i hi
  rw [bt_a1]
  cases h : bt64 x 0
  · simp [bt_0]
  · have h1 : bt64 1 i = decide (i = 0) := by
      unfold bt64
      show (BitVec.getLsbD 1#64 i) = _
      simp [BitVec.getLsbD_one]
    simp [h1]
theorem has_eq (x : Int64) {k : Nat} (hk : k < 64) : mX8_has x (nI k) = if bt64 x k then 1 else 0 := by
  unfold mX8_has
  rw [and1_eq, bt_sshr x hk (by omega)]
  cases bt64 x k <;> simp
theorem bitAt_eq (x : Int64) {k : Nat} (hk : k < 64) : ((jlushr x (nI k)) &&& 1).toInt32 = if bt64 x k then 1 else 0 := by
  rw [and1_eq, bt_ushr x hk]
  cases bt64 x k <;> rfl
theorem eq0_iff (x : Int64) : x = 0 ↔ ∀ i, i < 64 → bt64 x i = false := by
  constructor
  · intro h i _; rw [h]; exact bt_0 i
  · intro h; exact bt_ext (fun i hi => by rw [h i hi, bt_0])
theorem ne0_ex {x : Int64} (h : ¬ x = 0) : ∃ i, i < 64 ∧ bt64 x i = true := by
  refine Classical.byContradiction (fun hc => h ((eq0_iff x).mpr (fun i hi => ?_)))
  cases hb : bt64 x i
  · rfl
  · exact absurd ⟨i, hi, hb⟩ hc
