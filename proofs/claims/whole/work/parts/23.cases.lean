theorem gd_t {α : Type} {b : Prop} [Decidable b] {k : Option α} (h : b) : gd b k = k := if_pos h
theorem jl_s {α β : Type} (e : α) (k : α → β) : jl e k = k e := rfl
theorem jb_s {α β : Type} (a : α) (k : α → Option β) : jb (some a) k = k a := rfl
theorem jb0_s {β : Type} (k : Option β) : jb0 (some ()) k = k := rfl
theorem jb2_s {A B β : Type} (a : A) (b : B) (k : A → B → Option β) : jb2 (some (a, b)) k = k a b := rfl
theorem jb3_s {A B C β : Type} (a : A) (b : B) (c : C) (k : A → B → C → Option β) : jb3 (some (a, b, c)) k = k a b c := rfl
theorem jb4_s {A B C D β : Type} (a : A) (b : B) (c : C) (d : D) (k : A → B → C → D → Option β) : jb4 (some (a, b, c, d)) k = k a b c d := rfl
theorem ib_nI {j N : Nat} (h : j < N) (hN : N < 2 ^ 31) : ib (nI j) N := vp_in_nI h hN
theorem in_lo {a : Int32} {b : Int64} (h : a < 0) : mX8_in a.toInt64 0 b = 0 := by
  unfold mX8_in
  rw [if_pos]
  rw [Int64.lt_iff_toInt_lt, Int32.toInt_toInt64]
  rw [Int32.lt_iff_toInt_lt] at h
  exact h
theorem in_hi {a : Int32} {B : Nat} {b : Int64} (hB : B + 1 < 2 ^ 31) (eb : b = lN B) (h : nI (B + 1) ≤ a) : mX8_in a.toInt64 0 b = 0 := by
  subst eb
  unfold mX8_in
  by_cases h0 : a.toInt64 < 0
  · rw [if_pos h0]
  · rw [if_neg h0, if_pos]
    rw [Int64.lt_iff_toInt_lt, Int32.toInt_toInt64, lN_toInt (by omega)]
    rw [Int32.le_iff_toInt_le, nI_toInt hB] at h
    omega
theorem in_ok {j B : Nat} {b : Int64} (h : j ≤ B) (hB : B < 2 ^ 31) (eb : b = lN B) : mX8_in (nI j).toInt64 0 b = 1 := by
  subst eb
  unfold mX8_in
  have e1 : (nI j).toInt64.toInt = (j : Int) := by rw [Int32.toInt_toInt64, nI_toInt (by omega)]
  rw [if_neg, if_neg]
  · rw [Int64.lt_iff_toInt_lt, e1, lN_toInt hB]; omega
  · rw [Int64.lt_iff_toInt_lt, e1]; show ¬ (j : Int) < 0; omega
theorem ix_cases (a : Int32) {N : Nat} (hN : N < 2 ^ 31) : (a < 0 ∨ nI N ≤ a) ∨ ∃ j, j < N ∧ a = nI j := by
  rcases pk_ix a hN with h | h | h
  · exact Or.inl (Or.inl h)
  · exact Or.inl (Or.inr h)
  · exact Or.inr h
/-- the tests of both sides on one index -/
theorem rng_cases (a : Int32) {N : Nat} {b : Int64} (hN : 0 < N) (hN2 : N < 2 ^ 31) (eb : b = lN (N - 1)) : ((if a < 0 then (0 : Int32) else if nI N ≤ a then 0 else 1) = 0 ∧ mX8_in a.toInt64 0 b = 0) ∨ ∃ j, j < N ∧ a = nI j ∧ (if a < 0 then (0 : Int32) else if nI N ≤ a then 0 else 1) = 1 ∧ mX8_in a.toInt64 0 b = 1 := by
  rcases ix_cases a hN2 with (h | h) | ⟨j, hj, e⟩
  · exact Or.inl ⟨by rw [if_pos h], in_lo h⟩
  · refine Or.inl ⟨?_, in_hi (B := N - 1) (by omega) eb (by rw [show N - 1 + 1 = N by omega]; exact h)⟩
    by_cases h0 : a < 0
    · rw [if_pos h0]
    · rw [if_neg h0, if_pos h]
  · refine Or.inr ⟨j, hj, e, ?_, ?_⟩
    · subst e
      rw [if_neg (nI_pos (by omega)), if_neg (nI_ge hj hN2)]
    · subst e
      exact in_ok (B := N - 1) (by omega) (by omega) eb
theorem pic_cases (a : Int32) : (mX7_isPicture a = 0 ∧ mX8_isPicture a = 0) ∨ ∃ j, j < 5 ∧ a = nI j ∧ mX7_isPicture a = 1 ∧ mX8_isPicture a = 1 := rng_cases a (N := 5) (by decide) (by decide) rfl
theorem prg_cases (a : Int32) : (mX7_isProgram a = 0 ∧ mX8_isProgram a = 0) ∨ ∃ j, j < 3 ∧ a = nI j ∧ mX7_isProgram a = 1 ∧ mX8_isProgram a = 1 := rng_cases a (N := 3) (by decide) (by decide) rfl
theorem sta_cases (a : Int32) : (mX6_isStamp a = 0 ∧ mX8_in a.toInt64 0 3 = 0) ∨ ∃ j, j < 4 ∧ a = nI j ∧ mX6_isStamp a = 1 ∧ mX8_in a.toInt64 0 3 = 1 := rng_cases a (N := 4) (by decide) (by decide) rfl
theorem wh_lt {w h : Nat} (hw : 2 ≤ w ∧ w ≤ 7 ∧ 2 ≤ h ∧ h ≤ 7) : 4 ≤ w * h ∧ w * h ≤ 49 := by
  obtain ⟨a, b, c, d⟩ := hw
  exact ⟨Nat.mul_le_mul a c, Nat.mul_le_mul b d⟩
theorem cells_eq (w h : Nat) : mX8_cells (nI w) (nI h) = nI (w * h) := pk_mul w h
theorem cell_cases {w h : Nat} (hw : 2 ≤ w ∧ w ≤ 7 ∧ 2 ≤ h ∧ h ≤ 7) (a : Int32) : (mX1_isCell (nI (w * h)) a = 0 ∧ mX8_isCell (nI w) (nI h) a = 0) ∨ ∃ j, j < w * h ∧ a = nI j ∧ mX1_isCell (nI (w * h)) a = 1 ∧ mX8_isCell (nI w) (nI h) a = 1 := by
  have h1 := wh_lt hw
  refine rng_cases a (N := w * h) (by omega) (by omega) ?_
  rw [cells_eq]
  rw [show (nI (w * h) - 1 : Int32) = nI (w * h - 1) from pk_sub (b := 1) (by omega), nI_l (by omega)]
theorem act_small : ∀ a, a < 41 → ((a = 40 ∨ (a < 40 ∧ a % 10 < 4)) ∧ mX6_isAct (nI a) = 1 ∧ mX8_isAct (nI a) = 1) ∨ (mX6_isAct (nI a) = 0 ∧ mX8_isAct (nI a) = 0) := by decide +kernel
theorem act_cases (a : Int32) : (mX6_isAct a = 0 ∧ mX8_isAct a = 0) ∨ (isA a ∧ mX6_isAct a = 1 ∧ mX8_isAct a = 1) := by
  rcases ix_cases a (N := 41) (by decide) with (h | h) | ⟨j, hj, e⟩
  · have n40 : ¬ a = 40 := by intro e; subst e; exact absurd h (by decide)
    refine Or.inl ⟨?_, ?_⟩
    · unfold mX6_isAct; rw [if_neg n40, if_pos h]
    · unfold mX8_isAct; rw [if_neg n40, if_pos (in_lo h)]
  · have n40 : ¬ a = 40 := by intro e; subst e; exact absurd h (by decide)
    have h40 : (40 : Int32) ≤ a := Int32.le_trans (by decide) h
    have n0 : ¬ a < 0 := by
      rw [Int32.lt_iff_toInt_lt]
      rw [Int32.le_iff_toInt_le] at h40
      have : (40 : Int32).toInt = 40 := rfl
      have : (0 : Int32).toInt = 0 := rfl
      omega
    refine Or.inl ⟨?_, ?_⟩
    · unfold mX6_isAct; rw [if_neg n40, if_neg n0, if_pos h40]
    · unfold mX8_isAct; rw [if_neg n40, if_pos (in_hi (B := 39) (b := 39) (by decide) rfl h40)]
  · subst e
    rcases act_small j hj with ⟨h1, h2, h3⟩ | h
    · exact Or.inr ⟨⟨j, rfl, h1⟩, h2, h3⟩
    · exact Or.inl h
