theorem rep_eq {j : Nat} (hj : j < 5) (xpi : Nat → Int64) (v : Int64) : mX7_replace xpi (nI j) v = some (nI (pcn v), vp_updL xpi j v) := by
  unfold mX7_replace
  rw [gd_t (ib_nI hj (by decide)), nI_clamp (by omega), bitCount_eq]
theorem eq_mix {n : Nat} {xpi : Nat → Int64} {gs0 : Int32} {ga0 : Nat → Int32} {gs1 : Int32} {ga1 : Nat → Int32} {gs2 : Int32} {ga2 : Nat → Int32} {ijn : Int32} {rsz : Int32} {rhi : Nat → Int32} {rmi : Nat → Int32} {srim : Int32} {sst : Nat → Int32} {fw : Int32} {fc : Int32} {fwh : Int64} {fbo : Int64} {fra : Nat → Int32} {fst : Nat → Int64} {fco : Nat → Int32} {fro : Nat → Int32} {mw : Int32} {mt : Int32} {mrim : Int32} {mjn : Int32} {mpn : Int32} {mpi : Nat → Int64} {mst : Nat → Int32} {mam : Nat → Int32} {mac : Nat → Int32} {mhi : Nat → Int32} {mmi : Nat → Int32} (hn : 10 ^ 80 ≤ n) (hI : Inv fw fc fwh fbo fra fst fco fro srim sst gs0 gs1 gs2 ga0 ga1 ga2 ijn rsz rhi rmi xpi mw mt mrim mjn mpn mpi mst mam mac mhi mmi) (a1 : Int32) (a2 : Int32) (a3 : Int32) (a4 : Int32) : ∃ (r : Int32) (y_xpi : Nat → Int64) (y_mpi : Nat → Int64), mX7_mix xpi a1 a2 a3 a4 = some (r, y_xpi) ∧ mX8_mix n mpi a1 a2 a3 a4 = some (r, y_mpi) ∧ Inv fw fc fwh fbo fra fst fco fro srim sst gs0 gs1 gs2 ga0 ga1 ga2 ijn rsz rhi rmi y_xpi mw mt mrim mjn mpn y_mpi mst mam mac mhi mmi := by
  obtain ⟨w, h, hwh, rfl, rfl, hF, hPic, hrest⟩ := id hI
  unfold mX7_mix mX8_mix
  rcases rng_cases a1 (N := 4) (b := 3) (by decide) (by decide) rfl with ⟨q1, q2⟩ | ⟨t, ht, rfl, q1, q2⟩
  · refine ⟨-2, xpi, mpi, ?_, by rw [if_pos q2], hI⟩
    by_cases h0 : a1 < 0
    · rw [if_pos h0]
    · rw [if_neg h0] at q1 ⊢
      by_cases h4 : nI 4 ≤ a1
      · have : ¬ a1 ≤ 3 := by
          rw [Int32.le_iff_toInt_le] at h4 ⊢
          have e1 : (nI 4).toInt = 4 := rfl
          have e2 : (3 : Int32).toInt = 3 := rfl
          omega
        rw [if_neg this]
      · rw [if_neg h4] at q1; exact absurd q1 (by decide)
  · have n0 : ¬ nI t < 0 := nI_pos (by omega)
    have l3 : nI t ≤ 3 := nI_le (b := 3) (by omega) (by decide)
    have n2 : ¬ mX8_in (nI t).toInt64 0 3 = 0 := by rw [q2]; decide
    rw [if_neg n0, if_pos l3, if_neg n2]
    rcases pic_cases a2 with ⟨p1, p2⟩ | ⟨j, hj, rfl, p1, p2⟩
    · exact ⟨-1, xpi, mpi, by rw [if_pos p1], by rw [if_pos p2], hI⟩
    · have n1 : ¬ mX7_isPicture (nI j) = 0 := by rw [p1]; decide
      have n2 : ¬ mX8_isPicture (nI j) = 0 := by rw [p2]; decide
      rw [if_neg n1, if_neg n2]
      rcases pic_cases a4 with ⟨p3, p4⟩ | ⟨k, hk, rfl, p3, p4⟩
      · refine ⟨-1, xpi, mpi, by rw [if_pos p3], ?_, hI⟩
        by_cases h3 : (3 : Int32) ≤ nI t
        · rw [if_pos h3, if_pos p4]
        · rw [if_neg h3]
          by_cases p5 : mX8_isPicture a3 = 0
          · rw [if_pos p5]
          · rw [if_neg p5, if_pos p4]
      · have n3 : ¬ mX7_isPicture (nI k) = 0 := by rw [p3]; decide
        have n4 : ¬ mX8_isPicture (nI k) = 0 := by rw [p4]; decide
        have bj : ib (nI j) 5 := ib_nI hj (by decide)
        have bk : ib (nI k) 5 := ib_nI hk (by decide)
        have cj := nI_clamp (show j < 2 ^ 31 by omega)
        have ck := nI_clamp (show k < 2 ^ 31 by omega)
        simp only [if_neg n3, if_neg n4, gd_t bj, gd_t bk, cj, ck, many_eq hn, jb_s, jl_s, updL_s]
        have hpj := hPic j hj
        by_cases h3 : t = 3
        · subst h3
          have e3 : nI 3 = 3 := rfl
          have e3' : (3 : Int32) ≤ nI 3 := by decide
          simp only [if_pos e3, if_pos e3', jb_s]
          rw [rep_eq hk, jb2_s, hpj.1]
          have e0 : (0 : Int64) ^^^ -1 = -1 := by decide
          have ev : (if nI 3 = 0 then mpi j &&& 0 else if nI 3 = (1 : Int32) then mpi j ||| 0 else mpi j &&& (0 ^^^ -1)) = mpi j := by
            rw [if_neg (by decide), if_neg (by decide)]
            apply bt_ext
            intro i hi
            rw [bt_andn, bt_0]; simp
          rw [ev]
          exact ⟨_, _, _, rfl, rfl, ⟨w, h, hwh, rfl, rfl, hF, hPic.put k rfl hpj.2, hrest⟩⟩
        · have n5 : ¬ nI t = 3 := fun e => h3 ((nI_eq (b := 3) (by omega) (by decide)).mp e)
          have n6 : ¬ (3 : Int32) ≤ nI t := nI_ge (b := 3) (by omega) (by decide)
          simp only [if_neg n5, if_neg n6]
          rcases pic_cases a3 with ⟨p5, p6⟩ | ⟨i, hi, rfl, p5, p6⟩
          · exact ⟨-1, xpi, mpi, by rw [if_pos p5], by rw [if_pos p6], hI⟩
          · have n7 : ¬ mX7_isPicture (nI i) = 0 := by rw [p5]; decide
            have n8 : ¬ mX8_isPicture (nI i) = 0 := by rw [p6]; decide
            have bi : ib (nI i) 5 := ib_nI hi (by decide)
            have ci := nI_clamp (show i < 2 ^ 31 by omega)
            have hpi := hPic i hi
            simp only [if_neg n7, if_neg n8, gd_t bi, ci, jb_s]
            rw [rep_eq hk, jb2_s, hpj.1, hpi.1]
            have ev : mX7_mixed (nI t) (mpi j) (mpi i) = (if nI t = 0 then mpi j &&& mpi i else if nI t = (1 : Int32) then mpi j ||| mpi i else mpi j &&& (mpi i ^^^ -1)) := rfl
            have hb : ∀ q, bt64 (mX7_mixed (nI t) (mpi j) (mpi i)) q = true → q < w * h := by
              intro q hq
              unfold mX7_mixed at hq
              split at hq
              · rw [bt_and] at hq; simp only [Bool.and_eq_true] at hq; exact hpj.2 q hq.1
              · split at hq
                · rw [bt_or] at hq; simp only [Bool.or_eq_true] at hq
                  rcases hq with hq | hq
                  · exact hpj.2 q hq
                  · exact hpi.2 q hq
                · rw [bt_andn] at hq; simp only [Bool.and_eq_true] at hq; exact hpj.2 q hq.1
            rw [← ev]
            exact ⟨_, _, _, rfl, rfl, ⟨w, h, hwh, rfl, rfl, hF, hPic.put k rfl hb, hrest⟩⟩
