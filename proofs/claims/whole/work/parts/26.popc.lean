def bsum (f : Nat → Nat) : Nat → Nat → Nat
  | 0, _ => 0
  | n + 1, m => f (m % 256) + bsum f n (m / 256)
theorem cnt_b : ∀ (n m : Nat), cnt (m.testBit) (8 * n) = bsum (fun b => cnt (b.testBit) 8) n m
  | 0, _ => rfl
  | n + 1, m => by
    rw [show 8 * (n + 1) = 8 + 8 * n by omega, cnt_split, bsum, ← cnt_b n (m / 256)]
    have h1 : cnt (m.testBit) 8 = cnt ((m % 256).testBit) 8 := cnt_cong (fun i hi => by rw [show (256 : Nat) = 2 ^ 8 from rfl, Nat.testBit_mod_two_pow]; simp [hi])
    have h2 : cnt (fun i => m.testBit (8 + i)) (8 * n) = cnt ((m / 256).testBit) (8 * n) := cnt_cong (fun i hi => by rw [show (256 : Nat) = 2 ^ 8 from rfl, Nat.testBit_div_two_pow, Nat.add_comm])
    rw [h1, h2]
theorem sum8b {g : Nat → Nat} (hg : ∀ b, g b ≤ 8) {m u : Nat} (h : m = byF g 8 u) :
    (m + m / 256 + (m + m / 256) / 65536 + (m + m / 256 + (m + m / 256) / 65536) / 4294967296) % 128 = bsum g 8 u ∧
    (m + m / 256 < 2 ^ 64 ∧ m + m / 256 + (m + m / 256) / 65536 < 2 ^ 64 ∧ m + m / 256 + (m + m / 256) / 65536 + (m + m / 256 + (m + m / 256) / 65536) / 4294967296 < 2 ^ 64) := by
  simp only [byF] at h
  simp only [bsum]
  exact sum8 (hg _) (hg _) (hg _) (hg _) (hg _) (hg _) (hg _) (hg _) h
theorem l2i_nat (z : Int64) : z.toInt32.toBitVec.toNat = uNN z % 2 ^ 32 := by
  have hz : z = lN (uNN z) := Int64.toBitVec_inj.mp (BitVec.eq_of_toNat_eq (by
    show z.toBitVec.toNat = (BitVec.ofNat 64 (uNN z)).toNat
    rw [BitVec.toNat_ofNat]
    exact (Nat.mod_eq_of_lt (uNN_lt z)).symm))
  generalize uNN z = u at hz
  subst hz
  rw [lN_i]
  show (BitVec.ofNat 32 u).toNat = _
  rw [BitVec.toNat_ofNat]
theorem swar6 (y : Int64) {g : Nat → Nat} (hg : ∀ b, g b ≤ 8) {u : Nat} (h : uNN y = byF g 8 u) : uNN (qs6 (qs5 (qs4 y))) % 128 = bsum g 8 u := by
  obtain ⟨fin, hov⟩ := sum8b hg h
  have u4 : uNN (qs4 y) = uNN y + uNN y / 256 := by
    unfold qs4
    rw [uNN_add, show (8 : Int32) = nI 8 from rfl, uNN_ushr _ (by decide), show (2 : Nat) ^ 8 = 256 from rfl, Nat.mod_eq_of_lt hov.1]
  have u5 : uNN (qs5 (qs4 y)) = uNN (qs4 y) + uNN (qs4 y) / 65536 := by
    unfold qs5
    rw [uNN_add, show (16 : Int32) = nI 16 from rfl, uNN_ushr _ (by decide), show (2 : Nat) ^ 16 = 65536 from rfl, u4, Nat.mod_eq_of_lt hov.2.1]
  have u6 : uNN (qs6 (qs5 (qs4 y))) = uNN (qs5 (qs4 y)) + uNN (qs5 (qs4 y)) / 4294967296 := by
    unfold qs6
    rw [uNN_add, show (32 : Int32) = nI 32 from rfl, uNN_ushr _ (by decide), show (2 : Nat) ^ 32 = 4294967296 from rfl, u5, u4, Nat.mod_eq_of_lt hov.2.2]
  rw [u6, u5, u4]
  exact fin
theorem low7 (z : Int64) : z.toInt32 &&& 127 = nI (uNN z % 128) := by
  rw [pk_and z.toInt32 (m := 127) 7 (by decide), l2i_nat, show (2 : Nat) ^ 7 = 128 from rfl, show (2 : Nat) ^ 32 = 128 * 33554432 from rfl, Nat.mod_mul_right_mod]
theorem bitCount_eq (x : Int64) : mJ13_bitCount_95d88 x = nI (pcn x) := by
  rw [bc_chain, low7, swar6 _ (fun b => cnt_le _ 8) (swar3 x), ← cnt_b 8 (uNN x)]
  rfl
