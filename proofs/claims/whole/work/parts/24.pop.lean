/-! counting bits: bitCount and the reference's many are one number -/
def cnt (f : Nat → Bool) : Nat → Nat
  | 0 => 0
  | n + 1 => cnt f n + (if f n then 1 else 0)
theorem cnt_le (f : Nat → Bool) : ∀ n, cnt f n ≤ n
  | 0 => Nat.le_refl 0
  | n + 1 => by have := cnt_le f n; rw [cnt]; split <;> omega
theorem cnt_cong {f g : Nat → Bool} : ∀ {n : Nat}, (∀ i, i < n → f i = g i) → cnt f n = cnt g n
  | 0, _ => rfl
  | n + 1, h => by rw [cnt, cnt, cnt_cong (fun i hi => h i (by omega)), h n (by omega)]
theorem cnt_split (f : Nat → Bool) (m : Nat) : ∀ n, cnt f (m + n) = cnt f m + cnt (fun i => f (m + i)) n
  | 0 => rfl
  | n + 1 => by rw [← Nat.add_assoc, cnt, cnt_split f m n, cnt]; omega
theorem cnt_false {f : Nat → Bool} : ∀ {n : Nat}, (∀ i, i < n → f i = false) → cnt f n = 0
  | 0, _ => rfl
  | n + 1, h => by rw [cnt, cnt_false (fun i hi => h i (by omega)), h n (by omega)]; rfl
theorem cnt_mono {f g : Nat → Bool} : ∀ {n : Nat}, (∀ i, i < n → f i = true → g i = true) → cnt f n ≤ cnt g n
  | 0, _ => Nat.le_refl 0
  | n + 1, h => by
    have h1 := cnt_mono (f := f) (g := g) (n := n) (fun i hi => h i (by omega))
    rw [cnt, cnt]
    by_cases hf : f n = true
    · rw [if_pos hf, if_pos (h n (by omega) hf)]; omega
    · rw [if_neg hf]; split <;> omega
theorem cnt_lt {f g : Nat → Bool} {j : Nat} : ∀ {n : Nat}, (∀ i, i < n → f i = true → g i = true) → j < n → f j = false → g j = true → cnt f n < cnt g n
  | 0, _, h, _, _ => absurd h (Nat.not_lt_zero j)
  | n + 1, h, hj, h1, h2 => by
    rw [cnt, cnt]
    by_cases e : j = n
    · subst e
      have := cnt_mono (f := f) (g := g) (n := j) (fun i hi => h i (by omega))
      rw [h1, h2]
      simp only [if_true]
      simp
      omega
    · have h3 := cnt_lt (f := f) (g := g) (j := j) (n := n) (fun i hi => h i (by omega)) (by omega) h1 h2
      by_cases hf : f n = true
      · rw [if_pos hf, if_pos (h n (by omega) hf)]; omega
      · rw [if_neg hf]; split <;> omega
def pcn (x : Int64) : Nat := cnt (bt64 x) 64
/-- the lowest bit taken away -/
theorem nat_low : ∀ (n m : Nat), m < 2 ^ n → 0 < m → cnt ((m &&& (m - 1)).testBit) n + 1 = cnt (m.testBit) n := by
  intro n
  induction n with
  | zero => intro m h1 h2; omega
  | succ n ih =>
    intro m h1 h2
    have hs : ∀ q : Nat, cnt (q.testBit) (n + 1) = (if q.testBit 0 then 1 else 0) + cnt ((q / 2).testBit) n := by
      intro q
      rw [Nat.add_comm n 1, cnt_split]
      congr 1
      · exact Nat.zero_add _
      · exact cnt_cong (fun i _ => by rw [Nat.add_comm 1 i, Nat.testBit_succ])
    rw [hs, hs]
    have hp := Nat.pow_succ (n := 2) (m := n)
    rcases Nat.mod_two_eq_zero_or_one m with e | e
    · have hm : 0 < m / 2 := by omega
      have e1 : (m &&& (m - 1)) / 2 = (m / 2) &&& (m / 2 - 1) := by
        have := Nat.and_div_two_pow (a := m) (b := m - 1) (n := 1)
        rw [Nat.pow_one] at this
        rw [this, show (m - 1) / 2 = m / 2 - 1 by omega]
      have t1 : (m &&& (m - 1)).testBit 0 = false := by rw [Nat.testBit_and, Nat.testBit_zero, e]; rfl
      have t2 : m.testBit 0 = false := by rw [Nat.testBit_zero, e]; rfl
      rw [e1, t1, t2]
      have := ih (m / 2) (by omega) hm
      simp only [Bool.false_eq_true, if_false]
      omega
    · have e1 : (m &&& (m - 1)) / 2 = m / 2 := by
        have := Nat.and_div_two_pow (a := m) (b := m - 1) (n := 1)
        rw [Nat.pow_one] at this
        rw [this, show (m - 1) / 2 = m / 2 by omega, Nat.and_self]
      have t1 : (m &&& (m - 1)).testBit 0 = false := by rw [Nat.testBit_and, Nat.testBit_zero, Nat.testBit_zero, show (m - 1) % 2 = 0 by omega]; simp
      have t2 : m.testBit 0 = true := by rw [Nat.testBit_zero, e]; rfl
      rw [e1, t1, t2]
      simp only [Bool.false_eq_true, if_false, if_true]
      omega
def uNN (x : Int64) : Nat := x.toBitVec.toNat
theorem uNN_lt (x : Int64) : uNN x < 2 ^ 64 := x.toBitVec.isLt
theorem bt_uNN (x : Int64) (i : Nat) : bt64 x i = (uNN x).testBit i := rfl
theorem pcn_uNN (x : Int64) : pcn x = cnt ((uNN x).testBit) 64 := rfl
theorem uNN_0 {x : Int64} : x = 0 ↔ uNN x = 0 := by
  constructor
  · intro h; subst h; rfl
  · intro h; exact Int64.toBitVec_inj.mp (BitVec.eq_of_toNat_eq h)
theorem uNN_and (x y : Int64) : uNN (x &&& y) = uNN x &&& uNN y := by simp [uNN]
theorem uNN_add (x y : Int64) : uNN (x + y) = (uNN x + uNN y) % 2 ^ 64 := by simp [uNN]
theorem uNN_sub (x y : Int64) : uNN (x - y) = (2 ^ 64 - uNN y + uNN x) % 2 ^ 64 := by simp [uNN, BitVec.toNat_sub]
theorem uNN_ushr (x : Int64) {k : Nat} (hk : k < 64) : uNN (jlushr x (nI k)) = uNN x / 2 ^ k := by
  unfold uNN jlushr
  show ((x.toUInt64 >>> ((nI k).toInt64.toUInt64 &&& Int64.toUInt64 63)).toBitVec).toNat = _
  rw [UInt64.toBitVec_shiftRight, BitVec.ushiftRight_eq', BitVec.toNat_ushiftRight]
  have e := sh_amu k hk
  rw [show (((nI k).toInt64.toUInt64 &&& Int64.toUInt64 63).toBitVec % 64).toNat = k from e, Nat.shiftRight_eq_div_pow]
  rfl
theorem low_pc {x : Int64} (h : ¬ x = 0) : pcn (x &&& (x - 1)) + 1 = pcn x := by
  have h0 : 0 < uNN x := Nat.pos_of_ne_zero (fun e => h (uNN_0.mpr e))
  have hl := uNN_lt x
  have e1 : uNN (x - 1) = uNN x - 1 := by
    rw [uNN_sub]
    show (2 ^ 64 - 1 + uNN x) % 2 ^ 64 = _
    omega
  rw [pcn_uNN, pcn_uNN, uNN_and, e1]
  exact nat_low 64 (uNN x) hl h0
theorem many_L (n : Nat) : ∀ (k : Nat) (c : Nat) (x : Int64), pcn x < k → mX8_many_L4 n k (nI c) x = some (nI (c + pcn x)) := by
  intro k
  induction k with
  | zero => intro c x h; omega
  | succ k ih =>
    intro c x h
    rw [mX8_many_L4]
    by_cases h0 : x = 0
    · rw [if_pos h0]
      subst h0
      rw [show pcn 0 = 0 from cnt_false (fun i _ => bt_0 i), Nat.add_zero]
    · rw [if_neg h0, nI_1]
      have := low_pc h0
      rw [ih _ _ (by omega), show c + 1 + pcn (x &&& (x - 1)) = c + pcn x by omega]
theorem pcn_le (x : Int64) : pcn x ≤ 64 := cnt_le _ 64
theorem many_eq {n : Nat} (hn : 10 ^ 80 ≤ n) (x : Int64) : mX8_many n x = some (nI (pcn x)) := by
  unfold mX8_many
  have := pcn_le x
  have h := many_L n n 0 x (by omega)
  rw [Nat.zero_add] at h
  rw [show (0 : Int32) = nI 0 from rfl, h]
  rfl
