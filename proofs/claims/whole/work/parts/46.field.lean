theorem side_cases (a : Int32) : (mX7_isSide a = 0 ∧ mX8_in a.toInt64 2 7 = 0) ∨ ∃ k, 2 ≤ k ∧ k ≤ 7 ∧ a = nI k ∧ mX7_isSide a = 1 ∧ mX8_in a.toInt64 2 7 = 1 := by
  have key : ∀ k : Nat, k < 8 → (k < 2 → mX7_isSide (nI k) = 0 ∧ mX8_in (nI k).toInt64 2 7 = 0) ∧ (2 ≤ k → mX7_isSide (nI k) = 1 ∧ mX8_in (nI k).toInt64 2 7 = 1) := by decide +kernel
  rcases ix_cases a (N := 8) (by decide) with (h | h) | ⟨j, hj, e⟩
  · left
    rw [Int32.lt_iff_toInt_lt] at h
    have z0 : (0 : Int32).toInt = 0 := rfl
    constructor
    · unfold mX7_isSide
      rw [if_pos (by rw [Int32.lt_iff_toInt_lt]; have : (2 : Int32).toInt = 2 := rfl; omega)]
    · unfold mX8_in
      rw [if_pos (by rw [Int64.lt_iff_toInt_lt, Int32.toInt_toInt64]; have : (2 : Int64).toInt = 2 := rfl; omega)]
  · left
    rw [Int32.le_iff_toInt_le] at h
    have z8 : (nI 8).toInt = 8 := rfl
    constructor
    · unfold mX7_isSide
      rw [if_neg (by rw [Int32.lt_iff_toInt_lt]; have : (2 : Int32).toInt = 2 := rfl; omega), if_pos (by rw [Int32.lt_iff_toInt_lt]; have : (7 : Int32).toInt = 7 := rfl; omega)]
    · unfold mX8_in
      rw [if_neg (by rw [Int64.lt_iff_toInt_lt, Int32.toInt_toInt64]; have : (2 : Int64).toInt = 2 := rfl; omega), if_pos (by rw [Int64.lt_iff_toInt_lt, Int32.toInt_toInt64]; have : (7 : Int64).toInt = 7 := rfl; omega)]
  · subst e
    rcases Nat.lt_or_ge j 2 with q | q
    · exact Or.inl ((key j hj).1 q)
    · exact Or.inr ⟨j, q, by omega, rfl, (key j hj).2 q⟩
theorem zer_X (n : Nat) : ∀ (q k : Nat) (xpi : Nat → Int64), k ≤ 5 → 5 - k < q → ∃ X, mX7_field_L28 n q (nI k) xpi = some X ∧ ∀ i, (k ≤ i ∧ i < 5 → X i = 0) ∧ (i < k → X i = xpi i) := by
  intro q
  induction q with
  | zero => intro k xpi h1 h2; omega
  | succ q ih =>
    intro k xpi h1 h2
    rw [mX7_field_L28]
    by_cases h5 : k = 5
    · subst h5
      rw [if_pos (by decide)]
      exact ⟨_, rfl, fun i => ⟨fun g => by omega, fun _ => rfl⟩⟩
    · have b5 : ib (nI k) 5 := ib_nI (by omega) (by decide)
      rw [if_neg (show ¬ (5 : Int32) ≤ nI k from nI_ge (b := 5) (by omega) (by decide)), gd_t b5, nI_clamp (by omega), nI_1]
      obtain ⟨X, e1, e2⟩ := ih (k + 1) (vp_updL xpi k 0) (by omega) (by omega)
      refine ⟨X, e1, fun i => ⟨fun g => ?_, fun g => ?_⟩⟩
      · by_cases e : i = k
        · subst e; rw [(e2 i).2 (by omega), updL_s]
        · exact (e2 i).1 (by omega)
      · rw [(e2 i).2 (by omega), updL_n _ _ (by omega)]
theorem zer_M (n : Nat) : ∀ (q k : Nat) (xpi : Nat → Int64), k ≤ 5 → 5 - k < q → ∃ X, mX8_field_L43 n q (nI k) xpi = some X ∧ ∀ i, (k ≤ i ∧ i < 5 → X i = 0) ∧ (i < k → X i = xpi i) := by
  intro q
  induction q with
  | zero => intro k xpi h1 h2; omega
  | succ q ih =>
    intro k xpi h1 h2
    rw [mX8_field_L43]
    by_cases h5 : k = 5
    · subst h5
      rw [if_pos (by decide)]
      exact ⟨_, rfl, fun i => ⟨fun g => by omega, fun _ => rfl⟩⟩
    · have b5 : ib (nI k) 5 := ib_nI (by omega) (by decide)
      rw [if_neg (show ¬ (5 : Int32) ≤ nI k from nI_ge (b := 5) (by omega) (by decide)), gd_t b5, nI_clamp (by omega), nI_1]
      obtain ⟨X, e1, e2⟩ := ih (k + 1) (vp_updL xpi k 0) (by omega) (by omega)
      refine ⟨X, e1, fun i => ⟨fun g => ?_, fun g => ?_⟩⟩
      · by_cases e : i = k
        · subst e; rw [(e2 i).2 (by omega), updL_s]
        · exact (e2 i).1 (by omega)
      · rw [(e2 i).2 (by omega), updL_n _ _ (by omega)]
theorem jb8_s {A1 A2 A3 A4 A5 A6 A7 A8 β : Type} (a1 : A1) (a2 : A2) (a3 : A3) (a4 : A4) (a5 : A5) (a6 : A6) (a7 : A7) (a8 : A8) (k : A1 → A2 → A3 → A4 → A5 → A6 → A7 → A8 → Option β) : jb8 (some (a1, a2, a3, a4, a5, a6, a7, a8)) k = k a1 a2 a3 a4 a5 a6 a7 a8 := rfl
theorem eq_field {n : Nat} {xpi : Nat → Int64} {gs0 : Int32} {ga0 : Nat → Int32} {gs1 : Int32} {ga1 : Nat → Int32} {gs2 : Int32} {ga2 : Nat → Int32} {ijn : Int32} {rsz : Int32} {rhi : Nat → Int32} {rmi : Nat → Int32} {srim : Int32} {sst : Nat → Int32} {fw : Int32} {fc : Int32} {fwh : Int64} {fbo : Int64} {fra : Nat → Int32} {fst : Nat → Int64} {fco : Nat → Int32} {fro : Nat → Int32} {mw : Int32} {mt : Int32} {mrim : Int32} {mjn : Int32} {mpn : Int32} {mpi : Nat → Int64} {mst : Nat → Int32} {mam : Nat → Int32} {mac : Nat → Int32} {mhi : Nat → Int32} {mmi : Nat → Int32} (hn : 10 ^ 80 ≤ n) (hI : Inv fw fc fwh fbo fra fst fco fro srim sst gs0 gs1 gs2 ga0 ga1 ga2 ijn rsz rhi rmi xpi mw mt mrim mjn mpn mpi mst mam mac mhi mmi) (a1 : Int32) (a2 : Int32) : ∃ (r : Int32) (y_xpi : Nat → Int64) (y_fw : Int32) (y_fc : Int32) (y_fwh : Int64) (y_fbo : Int64) (y_fra : Nat → Int32) (y_fst : Nat → Int64) (y_fco : Nat → Int32) (y_fro : Nat → Int32) (y_mw : Int32) (y_mt : Int32) (y_mpi : Nat → Int64), mX7_field n xpi fw fc fwh fbo fra fst fco fro a1 a2 = some (r, y_xpi, y_fw, y_fc, y_fwh, y_fbo, y_fra, y_fst, y_fco, y_fro) ∧ mX8_field n mw mt mpi a1 a2 = some (r, y_mw, y_mt, y_mpi) ∧ Inv y_fw y_fc y_fwh y_fbo y_fra y_fst y_fco y_fro srim sst gs0 gs1 gs2 ga0 ga1 ga2 ijn rsz rhi rmi y_xpi y_mw y_mt mrim mjn mpn y_mpi mst mam mac mhi mmi := by
  obtain ⟨w, h, hwh, rfl, rfl, hF, hPic, hSt, hri, hjo, hPr, hpa⟩ := id hI
  unfold mX7_field mX8_field
  rcases side_cases a1 with ⟨p1, p2⟩ | ⟨v, v2, v7, rfl, p1, p2⟩
  · exact ⟨-2, xpi, fw, fc, fwh, fbo, fra, fst, fco, fro, nI w, nI h, mpi, by rw [if_pos p1], by rw [if_pos p2], hI⟩
  · have n1 : ¬ mX7_isSide (nI v) = 0 := by rw [p1]; decide
    have n2 : ¬ mX8_in (nI v).toInt64 2 7 = 0 := by rw [p2]; decide
    rw [if_neg n1, if_neg n2]
    rcases side_cases a2 with ⟨p3, p4⟩ | ⟨u, u2, u7, rfl, p3, p4⟩
    · exact ⟨-2, xpi, fw, fc, fwh, fbo, fra, fst, fco, fro, nI w, nI h, mpi, by rw [if_pos p3], by rw [if_pos p4], hI⟩
    · have n3 : ¬ mX7_isSide (nI u) = 0 := by rw [p3]; decide
      have n4 : ¬ mX8_in (nI u).toInt64 2 7 = 0 := by rw [p4]; decide
      rw [if_neg n3, if_neg n4]
      obtain ⟨y1, y2, y3, y4, y5, y6, y7, y8, e1, hF'⟩ := lay_ok (fco := fco) (fro := fro) (fra := fra) (fst := fst) hn (w := v) (h := u) ⟨v2, v7, u2, u7⟩
      obtain ⟨X, x1, x2⟩ := zer_X n n 0 xpi (by omega) (by omega)
      obtain ⟨M, m1, m2⟩ := zer_M n n 0 mpi (by omega) (by omega)
      have x1 : mX7_field_L28 n n 0 xpi = some X := x1
      have m1 : mX8_field_L43 n n 0 mpi = some M := m1
      rw [e1, jb8_s, x1, m1, jb_s, jb_s, pk_mul]
      refine ⟨nI (v * u), X, y1, y2, y3, y4, y5, y6, y7, y8, nI v, nI u, M, ?_, rfl, v, u, ⟨v2, v7, u2, u7⟩, rfl, rfl, hF', fun i hi => ?_, hSt, hri, hjo, hPr, hpa⟩
      · rw [hF'.2.1]
      · rw [(x2 i).1 ⟨Nat.zero_le i, hi⟩, (m2 i).1 ⟨Nat.zero_le i, hi⟩]
        exact ⟨rfl, fun j hj => by rw [bt_0] at hj; cases hj⟩
