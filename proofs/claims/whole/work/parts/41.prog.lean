theorem upd_s (f : Nat → Int32) (k : Nat) (x : Int32) : upd f k x k = x := pk_us
theorem upd_n (f : Nat → Int32) {k j : Nat} (x : Int32) (h : ¬ j = k) : upd f k x j = f j := pk_un h
theorem app_lt {z : Nat} (h : z < 8) (f : Nat → Int32) (a : Int32) : mX4_append (nI z) f a = some (1, nI (z + 1), upd f z a) := by
  have hl : nI z < 8 := nI_lt (b := 8) h (by decide)
  have b8 : ib (nI z) 8 := ib_nI h (by decide)
  unfold mX4_append
  rw [if_pos hl, gd_t b8, nI_clamp (by omega), nI_1]
theorem app_8 (f : Nat → Int32) (a : Int32) : mX4_append (nI 8) f a = some (0, nI 8, f) := rfl
/-- a program's row grows in both -/
theorem madd {j z : Nat} (hj : j < 3) (hz : z < 8) (mam mac : Nat → Int32) (hm : mam j = nI z) (a2 : Int32) (hA : ¬ mX8_isAct a2 = 0) (hP : ¬ mX8_isProgram (nI j) = 0) : mX8_add mam mac (nI j) a2 = some (nI (z + 1), upd mam j (nI (z + 1)), upd mac (8 * j + z) a2) := by
  have b3 : ib (nI j) 3 := ib_nI hj (by decide)
  have hne : ¬ nI z = 8 := fun e => absurd ((nI_eq (b := 8) (by omega) (by decide)).mp e) (by omega)
  have e8 : (8 : Int32) * nI j + nI z = nI (8 * j + z) := by
    rw [show (8 : Int32) = nI 8 from rfl, pk_mul, nI_add]
  have b24 : ib (nI (8 * j + z)) 24 := ib_nI (by omega) (by decide)
  unfold mX8_add
  simp only [if_neg hP, if_neg hA, gd_t b3, nI_clamp (show j < 2 ^ 31 by omega), hm, if_neg hne, e8, gd_t b24, nI_clamp (show 8 * j + z < 2 ^ 31 by omega), nI_1, upd_s]
theorem madd8 {j : Nat} (hj : j < 3) (mam mac : Nat → Int32) (hm : mam j = nI 8) (a2 : Int32) (hA : ¬ mX8_isAct a2 = 0) (hP : ¬ mX8_isProgram (nI j) = 0) : mX8_add mam mac (nI j) a2 = some (-4, mam, mac) := by
  have b3 : ib (nI j) 3 := ib_nI hj (by decide)
  unfold mX8_add
  simp only [if_neg hP, if_neg hA, gd_t b3, nI_clamp (show j < 2 ^ 31 by omega), hm]
  rfl
def zup (z : Nat → Nat) (j v : Nat) : Nat → Nat := fun i => if i = j then v else z i
theorem zup_s (z : Nat → Nat) (j v : Nat) : zup z j v j = v := if_pos rfl
theorem zup_n (z : Nat → Nat) {i j : Nat} (v : Nat) (h : ¬ i = j) : zup z j v i = z i := if_neg h
theorem row_add {ga mac : Nat → Int32} {z o p : Nat} {a2 : Int32} (h : ∀ k, k < z → ga k = mac (o + k) ∧ isA (mac (o + k))) (hA : isA a2) (hp : p = o + z) : ∀ k, k < z + 1 → upd ga z a2 k = upd mac p a2 (o + k) ∧ isA (upd mac p a2 (o + k)) := by
  subst hp
  intro k hk
  by_cases e : k = z
  · subst e; rw [upd_s, upd_s]; exact ⟨rfl, hA⟩
  · rw [upd_n _ _ e, upd_n _ _ (by omega : ¬ o + k = o + z)]; exact h k (by omega)
theorem row_other {ga mac : Nat → Int32} {z o p : Nat} {a2 : Int32} (h : ∀ k, k < z → ga k = mac (o + k) ∧ isA (mac (o + k))) (hz : z ≤ 8) (hp : p < o ∨ o + 8 ≤ p) : ∀ k, k < z → ga k = upd mac p a2 (o + k) ∧ isA (upd mac p a2 (o + k)) := by
  intro k hk
  rw [upd_n _ _ (by omega : ¬ o + k = p)]
  exact h k hk
theorem mam_add {mam : Nat → Int32} {z : Nat → Nat} {j v : Nat} (h : ∀ i, i < 3 → z i ≤ 8 ∧ mam i = nI (z i)) (hv : v ≤ 8) : ∀ i, i < 3 → zup z j v i ≤ 8 ∧ upd mam j (nI v) i = nI (zup z j v i) := by
  intro i hi
  by_cases e : i = j
  · subst e; rw [zup_s, upd_s]; exact ⟨hv, rfl⟩
  · rw [zup_n _ _ e, upd_n _ _ e]; exact h i hi
theorem eq_clear {n : Nat} {xpi : Nat → Int64} {gs0 : Int32} {ga0 : Nat → Int32} {gs1 : Int32} {ga1 : Nat → Int32} {gs2 : Int32} {ga2 : Nat → Int32} {ijn : Int32} {rsz : Int32} {rhi : Nat → Int32} {rmi : Nat → Int32} {srim : Int32} {sst : Nat → Int32} {fw : Int32} {fc : Int32} {fwh : Int64} {fbo : Int64} {fra : Nat → Int32} {fst : Nat → Int64} {fco : Nat → Int32} {fro : Nat → Int32} {mw : Int32} {mt : Int32} {mrim : Int32} {mjn : Int32} {mpn : Int32} {mpi : Nat → Int64} {mst : Nat → Int32} {mam : Nat → Int32} {mac : Nat → Int32} {mhi : Nat → Int32} {mmi : Nat → Int32} (hn : 10 ^ 80 ≤ n) (hI : Inv fw fc fwh fbo fra fst fco fro srim sst gs0 gs1 gs2 ga0 ga1 ga2 ijn rsz rhi rmi xpi mw mt mrim mjn mpn mpi mst mam mac mhi mmi) (a1 : Int32) : ∃ (r : Int32) (y_gs0 : Int32) (y_gs1 : Int32) (y_gs2 : Int32) (y_mam : Nat → Int32), mX7_clear gs0 gs1 gs2 a1 = some (r, y_gs0, y_gs1, y_gs2) ∧ mX8_clear mam a1 = some (r, y_mam) ∧ Inv fw fc fwh fbo fra fst fco fro srim sst y_gs0 y_gs1 y_gs2 ga0 ga1 ga2 ijn rsz rhi rmi xpi mw mt mrim mjn mpn mpi mst y_mam mac mhi mmi := by
  obtain ⟨w, h, hwh, rfl, rfl, hF, hPic, hSt, hri, hjo, ⟨z, hm, ⟨rfl, rfl, rfl⟩, h0, h1, h2⟩, hpa⟩ := id hI
  unfold mX7_clear mX8_clear
  rcases prg_cases a1 with ⟨p1, p2⟩ | ⟨j, hj, rfl, p1, p2⟩
  · exact ⟨-1, _, _, _, _, by rw [if_pos p1], by rw [if_pos p2], hI⟩
  · have n1 : ¬ mX7_isProgram (nI j) = 0 := by rw [p1]; decide
    have n2 : ¬ mX8_isProgram (nI j) = 0 := by rw [p2]; decide
    have b3 : ib (nI j) 3 := ib_nI hj (by decide)
    simp only [if_neg n1, if_neg n2, gd_t b3, nI_clamp (show j < 2 ^ 31 by omega), (hm j hj).2]
    have hmm := mam_add (j := j) (v := 0) hm (by omega)
    match j, hj with
    | 0, _ => exact ⟨_, _, _, _, _, rfl, rfl, w, h, hwh, rfl, rfl, hF, hPic, hSt, hri, hjo, ⟨zup z 0 0, hmm, ⟨rfl, rfl, rfl⟩, fun k hk => absurd hk (Nat.not_lt_zero k), h1, h2⟩, hpa⟩
    | 1, _ => exact ⟨_, _, _, _, _, rfl, rfl, w, h, hwh, rfl, rfl, hF, hPic, hSt, hri, hjo, ⟨zup z 1 0, hmm, ⟨rfl, rfl, rfl⟩, h0, fun k hk => absurd hk (Nat.not_lt_zero k), h2⟩, hpa⟩
    | 2, _ => exact ⟨_, _, _, _, _, rfl, rfl, w, h, hwh, rfl, rfl, hF, hPic, hSt, hri, hjo, ⟨zup z 2 0, hmm, ⟨rfl, rfl, rfl⟩, h0, h1, fun k hk => absurd hk (Nat.not_lt_zero k)⟩, hpa⟩
theorem eq_add {n : Nat} {xpi : Nat → Int64} {gs0 : Int32} {ga0 : Nat → Int32} {gs1 : Int32} {ga1 : Nat → Int32} {gs2 : Int32} {ga2 : Nat → Int32} {ijn : Int32} {rsz : Int32} {rhi : Nat → Int32} {rmi : Nat → Int32} {srim : Int32} {sst : Nat → Int32} {fw : Int32} {fc : Int32} {fwh : Int64} {fbo : Int64} {fra : Nat → Int32} {fst : Nat → Int64} {fco : Nat → Int32} {fro : Nat → Int32} {mw : Int32} {mt : Int32} {mrim : Int32} {mjn : Int32} {mpn : Int32} {mpi : Nat → Int64} {mst : Nat → Int32} {mam : Nat → Int32} {mac : Nat → Int32} {mhi : Nat → Int32} {mmi : Nat → Int32} (hn : 10 ^ 80 ≤ n) (hI : Inv fw fc fwh fbo fra fst fco fro srim sst gs0 gs1 gs2 ga0 ga1 ga2 ijn rsz rhi rmi xpi mw mt mrim mjn mpn mpi mst mam mac mhi mmi) (a1 : Int32) (a2 : Int32) : ∃ (r : Int32) (y_gs0 : Int32) (y_ga0 : Nat → Int32) (y_gs1 : Int32) (y_ga1 : Nat → Int32) (y_gs2 : Int32) (y_ga2 : Nat → Int32) (y_mam : Nat → Int32) (y_mac : Nat → Int32), mX7_add gs0 ga0 gs1 ga1 gs2 ga2 a1 a2 = some (r, y_gs0, y_ga0, y_gs1, y_ga1, y_gs2, y_ga2) ∧ mX8_add mam mac a1 a2 = some (r, y_mam, y_mac) ∧ Inv fw fc fwh fbo fra fst fco fro srim sst y_gs0 y_gs1 y_gs2 y_ga0 y_ga1 y_ga2 ijn rsz rhi rmi xpi mw mt mrim mjn mpn mpi mst y_mam y_mac mhi mmi := by
  obtain ⟨w, h, hwh, rfl, rfl, hF, hPic, hSt, hri, hjo, ⟨z, hm, ⟨rfl, rfl, rfl⟩, h0, h1, h2⟩, hpa⟩ := id hI
  rcases prg_cases a1 with ⟨p1, p2⟩ | ⟨j, hj, rfl, p1, p2⟩
  · unfold mX7_add mX8_add
    exact ⟨-1, _, _, _, _, _, _, _, _, by rw [if_pos p1], by rw [if_pos p2], hI⟩
  · have n1 : ¬ mX7_isProgram (nI j) = 0 := by rw [p1]; decide
    have n2 : ¬ mX8_isProgram (nI j) = 0 := by rw [p2]; decide
    have b3 : ib (nI j) 3 := ib_nI hj (by decide)
    rcases act_cases a2 with ⟨q1, q2⟩ | ⟨hA, q1, q2⟩
    · unfold mX7_add mX8_add
      exact ⟨-2, _, _, _, _, _, _, _, _, by rw [if_neg n1, if_pos q1], by rw [if_neg n2, if_pos q2], hI⟩
    · have m1 : ¬ mX6_isAct a2 = 0 := by rw [q1]; decide
      have m2 : ¬ mX8_isAct a2 = 0 := by rw [q2]; decide
      have h0' : ∀ k, k < z 0 → ga0 k = mac (0 + k) ∧ isA (mac (0 + k)) := fun k hk => by rw [Nat.zero_add]; exact h0 k hk
      by_cases h8 : z j = 8
      · rw [madd8 hj mam mac (by rw [(hm j hj).2, h8]) a2 m2 n2]
        refine ⟨-4, _, _, _, _, _, _, _, _, ?_, rfl, hI⟩
        unfold mX7_add
        simp only [if_neg n1, if_neg m1, gd_t b3]
        match j, hj, h8 with
        | 0, _, h8 => rw [h8]; rfl
        | 1, _, h8 => rw [h8]; rfl
        | 2, _, h8 => rw [h8]; rfl
      · have hz8 : z j < 8 := by have := (hm j hj).1; omega
        rw [madd hj hz8 mam mac (hm j hj).2 a2 m2 n2]
        have hmm := mam_add (j := j) (v := z j + 1) hm (by omega)
        have hz0 := (hm 0 (by decide)).1
        have hz1 := (hm 1 (by decide)).1
        have hz2 := (hm 2 (by decide)).1
        unfold mX7_add
        simp only [if_neg n1, if_neg m1, gd_t b3]
        match j, hj, hz8, hmm with
        | 0, _, hz8, hmm =>
          refine ⟨nI (z 0 + 1), nI (z 0 + 1), upd ga0 (z 0) a2, nI (z 1), ga1, nI (z 2), ga2, _, _, ?_, rfl, w, h, hwh, rfl, rfl, hF, hPic, hSt, hri, hjo, ⟨zup z 0 (z 0 + 1), hmm, ⟨rfl, rfl, rfl⟩, ?_, row_other h1 hz1 (by omega), row_other h2 hz2 (by omega)⟩, hpa⟩
          · rw [if_pos (show nI 0 = 0 from rfl), app_lt hz8]; rfl
          · have := row_add h0' hA (p := 8 * 0 + z 0) (by omega)
            intro k hk
            have h9 := this k hk
            rw [Nat.zero_add k] at h9
            exact h9
        | 1, _, hz8, hmm =>
          refine ⟨nI (z 1 + 1), nI (z 0), ga0, nI (z 1 + 1), upd ga1 (z 1) a2, nI (z 2), ga2, _, _, ?_, rfl, w, h, hwh, rfl, rfl, hF, hPic, hSt, hri, hjo, ⟨zup z 1 (z 1 + 1), hmm, ⟨rfl, rfl, rfl⟩, ?_, row_add h1 hA (by omega), row_other h2 hz2 (by omega)⟩, hpa⟩
          · rw [if_neg (by decide), if_pos (show nI 1 = 1 from rfl), app_lt hz8]; rfl
          · have := row_other (a2 := a2) (p := 8 * 1 + z 1) h0' hz0 (by omega)
            intro k hk
            have h9 := this k hk
            rw [Nat.zero_add] at h9
            exact h9
        | 2, _, hz8, hmm =>
          refine ⟨nI (z 2 + 1), nI (z 0), ga0, nI (z 1), ga1, nI (z 2 + 1), upd ga2 (z 2) a2, _, _, ?_, rfl, w, h, hwh, rfl, rfl, hF, hPic, hSt, hri, hjo, ⟨zup z 2 (z 2 + 1), hmm, ⟨rfl, rfl, rfl⟩, ?_, row_other h1 hz1 (by omega), row_add h2 hA (by omega)⟩, hpa⟩
          · rw [if_neg (by decide), if_neg (by decide), app_lt hz8]; rfl
          · have := row_other (a2 := a2) (p := 8 * 2 + z 2) h0' hz0 (by omega)
            intro k hk
            have h9 := this k hk
            rw [Nat.zero_add] at h9
            exact h9
