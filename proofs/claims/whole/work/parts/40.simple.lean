theorem updL_s (f : Nat → Int64) (k : Nat) (x : Int64) : vp_updL f k x k = x := if_pos rfl
theorem updL_n (f : Nat → Int64) {k j : Nat} (x : Int64) (h : ¬ j = k) : vp_updL f k x j = f j := if_neg h
theorem PicOK.put {w h : Nat} {xpi mpi : Nat → Int64} (hP : PicOK w h xpi mpi) (j : Nat) {v u : Int64} (e : v = u) (hv : ∀ i, bt64 u i = true → i < w * h) : PicOK w h (vp_updL xpi j v) (vp_updL mpi j u) := by
  intro i hi
  by_cases hj : i = j
  · subst hj; rw [updL_s, updL_s]; exact ⟨e, hv⟩
  · rw [updL_n _ _ hj, updL_n _ _ hj]; exact hP i hi
theorem eq_at {n : Nat} {xpi : Nat → Int64} {gs0 : Int32} {ga0 : Nat → Int32} {gs1 : Int32} {ga1 : Nat → Int32} {gs2 : Int32} {ga2 : Nat → Int32} {ijn : Int32} {rsz : Int32} {rhi : Nat → Int32} {rmi : Nat → Int32} {srim : Int32} {sst : Nat → Int32} {fw : Int32} {fc : Int32} {fwh : Int64} {fbo : Int64} {fra : Nat → Int32} {fst : Nat → Int64} {fco : Nat → Int32} {fro : Nat → Int32} {mw : Int32} {mt : Int32} {mrim : Int32} {mjn : Int32} {mpn : Int32} {mpi : Nat → Int64} {mst : Nat → Int32} {mam : Nat → Int32} {mac : Nat → Int32} {mhi : Nat → Int32} {mmi : Nat → Int32} (hn : 10 ^ 80 ≤ n) (hI : Inv fw fc fwh fbo fra fst fco fro srim sst gs0 gs1 gs2 ga0 ga1 ga2 ijn rsz rhi rmi xpi mw mt mrim mjn mpn mpi mst mam mac mhi mmi) (a1 : Int32) (a2 : Int32) : ∃ (r : Int32), mX7_at fc xpi a1 a2 = some r ∧ mX8_at mw mt mpi a1 a2 = some r ∧ Inv fw fc fwh fbo fra fst fco fro srim sst gs0 gs1 gs2 ga0 ga1 ga2 ijn rsz rhi rmi xpi mw mt mrim mjn mpn mpi mst mam mac mhi mmi := by
  obtain ⟨w, h, hwh, rfl, rfl, hF, hPic, -⟩ := id hI
  obtain ⟨rfl, rfl, -⟩ := hF
  have hb := wh_lt hwh
  unfold mX7_at mX8_at mX7_bitAt
  rcases pic_cases a1 with ⟨p1, p2⟩ | ⟨j, hj, rfl, p1, p2⟩
  · exact ⟨-1, by rw [if_pos p1], by rw [if_pos p2], hI⟩
  · have n1 : ¬ mX7_isPicture (nI j) = 0 := by rw [p1]; decide
    have n2 : ¬ mX8_isPicture (nI j) = 0 := by rw [p2]; decide
    rw [if_neg n1, if_neg n2]
    rcases cell_cases hwh a2 with ⟨p3, p4⟩ | ⟨k, hk, rfl, p3, p4⟩
    · exact ⟨-1, by rw [if_pos p3], by rw [if_pos p4], hI⟩
    · have n3 : ¬ mX1_isCell (nI (w * h)) (nI k) = 0 := by rw [p3]; decide
      have n4 : ¬ mX8_isCell (nI w) (nI h) (nI k) = 0 := by rw [p4]; decide
      rw [if_neg n3, if_neg n4]
      have b5 : ib (nI j) 5 := ib_nI hj (by decide)
      rw [gd_t b5, gd_t b5, nI_clamp (by omega), jb_s, bitAt_eq _ (by omega), has_eq _ (by omega), (hPic j hj).1]
      refine ⟨_, rfl, ?_, hI⟩
      cases bt64 (mpi j) k <;> rfl
theorem eq_number {n : Nat} {xpi : Nat → Int64} {gs0 : Int32} {ga0 : Nat → Int32} {gs1 : Int32} {ga1 : Nat → Int32} {gs2 : Int32} {ga2 : Nat → Int32} {ijn : Int32} {rsz : Int32} {rhi : Nat → Int32} {rmi : Nat → Int32} {srim : Int32} {sst : Nat → Int32} {fw : Int32} {fc : Int32} {fwh : Int64} {fbo : Int64} {fra : Nat → Int32} {fst : Nat → Int64} {fco : Nat → Int32} {fro : Nat → Int32} {mw : Int32} {mt : Int32} {mrim : Int32} {mjn : Int32} {mpn : Int32} {mpi : Nat → Int64} {mst : Nat → Int32} {mam : Nat → Int32} {mac : Nat → Int32} {mhi : Nat → Int32} {mmi : Nat → Int32} (hn : 10 ^ 80 ≤ n) (hI : Inv fw fc fwh fbo fra fst fco fro srim sst gs0 gs1 gs2 ga0 ga1 ga2 ijn rsz rhi rmi xpi mw mt mrim mjn mpn mpi mst mam mac mhi mmi) (a1 : Int32) : ∃ (r : Int64), mX7_number xpi a1 = some r ∧ mX8_number mpi a1 = some r ∧ Inv fw fc fwh fbo fra fst fco fro srim sst gs0 gs1 gs2 ga0 ga1 ga2 ijn rsz rhi rmi xpi mw mt mrim mjn mpn mpi mst mam mac mhi mmi := by
  obtain ⟨w, h, hwh, rfl, rfl, hF, hPic, -⟩ := id hI
  unfold mX7_number mX8_number
  rcases pic_cases a1 with ⟨p1, p2⟩ | ⟨j, hj, rfl, p1, p2⟩
  · exact ⟨-1, by rw [if_pos p1], by rw [if_pos p2], hI⟩
  · have n1 : ¬ mX7_isPicture (nI j) = 0 := by rw [p1]; decide
    have n2 : ¬ mX8_isPicture (nI j) = 0 := by rw [p2]; decide
    have b5 : ib (nI j) 5 := ib_nI hj (by decide)
    rw [if_neg n1, if_neg n2, gd_t b5, gd_t b5, nI_clamp (by omega)]
    exact ⟨_, rfl, by rw [(hPic j hj).1], hI⟩
theorem eq_ink {n : Nat} {xpi : Nat → Int64} {gs0 : Int32} {ga0 : Nat → Int32} {gs1 : Int32} {ga1 : Nat → Int32} {gs2 : Int32} {ga2 : Nat → Int32} {ijn : Int32} {rsz : Int32} {rhi : Nat → Int32} {rmi : Nat → Int32} {srim : Int32} {sst : Nat → Int32} {fw : Int32} {fc : Int32} {fwh : Int64} {fbo : Int64} {fra : Nat → Int32} {fst : Nat → Int64} {fco : Nat → Int32} {fro : Nat → Int32} {mw : Int32} {mt : Int32} {mrim : Int32} {mjn : Int32} {mpn : Int32} {mpi : Nat → Int64} {mst : Nat → Int32} {mam : Nat → Int32} {mac : Nat → Int32} {mhi : Nat → Int32} {mmi : Nat → Int32} (hn : 10 ^ 80 ≤ n) (hI : Inv fw fc fwh fbo fra fst fco fro srim sst gs0 gs1 gs2 ga0 ga1 ga2 ijn rsz rhi rmi xpi mw mt mrim mjn mpn mpi mst mam mac mhi mmi) (a1 : Int32) (a2 : Int32) (a3 : Int32) : ∃ (r : Int32) (y_xpi : Nat → Int64) (y_mpi : Nat → Int64), mX7_ink xpi fc a1 a2 a3 = some (r, y_xpi) ∧ mX8_ink mpi mw mt a1 a2 a3 = some (r, y_mpi) ∧ Inv fw fc fwh fbo fra fst fco fro srim sst gs0 gs1 gs2 ga0 ga1 ga2 ijn rsz rhi rmi y_xpi mw mt mrim mjn mpn y_mpi mst mam mac mhi mmi := by
  obtain ⟨w, h, hwh, rfl, rfl, hF, hPic, hrest⟩ := id hI
  obtain ⟨rfl, rfl, -⟩ := id hF
  have hb := wh_lt hwh
  unfold mX7_ink mX8_ink mX7_bitAt mX7_put
  rcases pic_cases a1 with ⟨p1, p2⟩ | ⟨j, hj, rfl, p1, p2⟩
  · exact ⟨-1, xpi, mpi, by rw [if_pos p1], by rw [if_pos p2], hI⟩
  · have n1 : ¬ mX7_isPicture (nI j) = 0 := by rw [p1]; decide
    have n2 : ¬ mX8_isPicture (nI j) = 0 := by rw [p2]; decide
    rw [if_neg n1, if_neg n2]
    rcases cell_cases hwh a2 with ⟨p3, p4⟩ | ⟨k, hk, rfl, p3, p4⟩
    · exact ⟨-1, xpi, mpi, by rw [if_pos p3], by rw [if_pos p4], hI⟩
    · have n3 : ¬ mX1_isCell (nI (w * h)) (nI k) = 0 := by rw [p3]; decide
      have n4 : ¬ mX8_isCell (nI w) (nI h) (nI k) = 0 := by rw [p4]; decide
      have b5 : ib (nI j) 5 := ib_nI hj (by decide)
      simp only [if_neg n3, if_neg n4, gd_t b5, nI_clamp (show j < 2 ^ 31 by omega), jb_s, bitAt_eq _ (show k < 64 by omega), has_eq _ (show k < 64 by omega), jl_s]
      have hpj := hPic j hj
      by_cases h3 : a3 = 0
      · simp only [if_pos h3, jb_s]
        refine ⟨_, _, _, rfl, ?_, ⟨w, h, hwh, rfl, rfl, hF, hPic.put j (by rw [hpj.1]) ?_, hrest⟩⟩
        · rw [hpj.1]; cases bt64 (mpi j) k <;> rfl
        · intro i hi
          rw [bt_andn] at hi
          exact hpj.2 i (by simp only [Bool.and_eq_true] at hi; exact hi.1)
      · simp only [if_neg h3, jb_s]
        refine ⟨_, _, _, rfl, ?_, ⟨w, h, hwh, rfl, rfl, hF, hPic.put j (by rw [hpj.1]) ?_, hrest⟩⟩
        · rw [hpj.1]; cases bt64 (mpi j) k <;> rfl
        · intro i hi
          rw [bt_or, bt_one (by omega)] at hi
          simp only [Bool.or_eq_true, decide_eq_true_eq] at hi
          rcases hi with hi | hi
          · exact hpj.2 i hi
          · omega
theorem eq_stamp {n : Nat} {xpi : Nat → Int64} {gs0 : Int32} {ga0 : Nat → Int32} {gs1 : Int32} {ga1 : Nat → Int32} {gs2 : Int32} {ga2 : Nat → Int32} {ijn : Int32} {rsz : Int32} {rhi : Nat → Int32} {rmi : Nat → Int32} {srim : Int32} {sst : Nat → Int32} {fw : Int32} {fc : Int32} {fwh : Int64} {fbo : Int64} {fra : Nat → Int32} {fst : Nat → Int64} {fco : Nat → Int32} {fro : Nat → Int32} {mw : Int32} {mt : Int32} {mrim : Int32} {mjn : Int32} {mpn : Int32} {mpi : Nat → Int64} {mst : Nat → Int32} {mam : Nat → Int32} {mac : Nat → Int32} {mhi : Nat → Int32} {mmi : Nat → Int32} (hn : 10 ^ 80 ≤ n) (hI : Inv fw fc fwh fbo fra fst fco fro srim sst gs0 gs1 gs2 ga0 ga1 ga2 ijn rsz rhi rmi xpi mw mt mrim mjn mpn mpi mst mam mac mhi mmi) (a1 : Int32) (a2 : Int32) : ∃ (r : Int32) (y_sst : Nat → Int32) (y_mst : Nat → Int32), mX7_stamp sst a1 a2 = some (r, y_sst) ∧ mX8_stamp mst a1 a2 = some (r, y_mst) ∧ Inv fw fc fwh fbo fra fst fco fro srim y_sst gs0 gs1 gs2 ga0 ga1 ga2 ijn rsz rhi rmi xpi mw mt mrim mjn mpn mpi y_mst mam mac mhi mmi := by
  obtain ⟨w, h, hwh, rfl, rfl, hF, hPic, hSt, hrest⟩ := id hI
  unfold mX7_stamp mX8_stamp
  rcases sta_cases a1 with ⟨p1, p2⟩ | ⟨j, hj, rfl, p1, p2⟩
  · exact ⟨-1, sst, mst, by rw [if_pos p1], by rw [if_pos p2], hI⟩
  · have n1 : ¬ mX6_isStamp (nI j) = 0 := by rw [p1]; decide
    have n2 : ¬ mX8_in (nI j).toInt64 0 3 = 0 := by rw [p2]; decide
    have b4 : ib (nI j) 4 := ib_nI hj (by decide)
    simp only [if_neg n1, if_neg n2, gd_t b4, nI_clamp (show j < 2 ^ 31 by omega)]
    rcases rng_cases a2 (N := 512) (b := 511) (by decide) (by decide) rfl with ⟨q1, q2⟩ | ⟨k, hk, rfl, q1, q2⟩
    · rw [if_pos q2]
      by_cases h0 : a2 < 0
      · exact ⟨-2, sst, mst, by rw [if_pos h0], rfl, hI⟩
      · have h5 : ¬ a2 < 512 := by
          intro hc
          rw [if_neg h0, if_neg (show ¬ nI 512 ≤ a2 from Int32.not_le.mpr hc)] at q1
          exact absurd q1 (by decide)
        exact ⟨-2, sst, mst, by rw [if_neg h0, if_neg h5], rfl, hI⟩
    · have n3 : ¬ mX8_in (nI k).toInt64 0 511 = 0 := by rw [q2]; decide
      have h0 : ¬ nI k < 0 := nI_pos (by omega)
      have h5 : nI k < 512 := nI_lt (b := 512) hk (by decide)
      rw [if_neg n3, if_neg h0, if_pos h5, (hSt j hj).1]
      refine ⟨_, _, _, rfl, rfl, ⟨w, h, hwh, rfl, rfl, hF, hPic, ?_, hrest⟩⟩
      · intro i hi
        by_cases e : i = j
        · subst e; rw [pk_us, pk_us]; exact ⟨rfl, k, hk, rfl⟩
        · rw [pk_un e, pk_un e]; exact hSt i hi
theorem eq_forget {n : Nat} {xpi : Nat → Int64} {gs0 : Int32} {ga0 : Nat → Int32} {gs1 : Int32} {ga1 : Nat → Int32} {gs2 : Int32} {ga2 : Nat → Int32} {ijn : Int32} {rsz : Int32} {rhi : Nat → Int32} {rmi : Nat → Int32} {srim : Int32} {sst : Nat → Int32} {fw : Int32} {fc : Int32} {fwh : Int64} {fbo : Int64} {fra : Nat → Int32} {fst : Nat → Int64} {fco : Nat → Int32} {fro : Nat → Int32} {mw : Int32} {mt : Int32} {mrim : Int32} {mjn : Int32} {mpn : Int32} {mpi : Nat → Int64} {mst : Nat → Int32} {mam : Nat → Int32} {mac : Nat → Int32} {mhi : Nat → Int32} {mmi : Nat → Int32} (hn : 10 ^ 80 ≤ n) (hI : Inv fw fc fwh fbo fra fst fco fro srim sst gs0 gs1 gs2 ga0 ga1 ga2 ijn rsz rhi rmi xpi mw mt mrim mjn mpn mpi mst mam mac mhi mmi)  : ∃ (r : Int32) (y_rsz : Int32) (y_mpn : Int32), mX7_forget rsz = some (r, y_rsz) ∧ mX8_forget mpn = some (r, y_mpn) ∧ Inv fw fc fwh fbo fra fst fco fro srim sst gs0 gs1 gs2 ga0 ga1 ga2 ijn y_rsz rhi rmi xpi mw mt mrim mjn y_mpn mpi mst mam mac mhi mmi := by
  obtain ⟨w, h, hwh, rfl, rfl, hF, hPic, hSt, hri, hjo, hpr, z, hz, rfl, rfl, hpa⟩ := id hI
  unfold mX7_forget mX8_forget
  by_cases h0 : nI z = 0
  · exact ⟨-3, nI z, nI z, by rw [if_pos h0], by rw [if_pos h0], hI⟩
  · have hz0 : 0 < z := by
      rcases Nat.eq_zero_or_pos z with e | e
      · subst e; exact absurd nI_0 h0
      · exact e
    rw [if_neg h0]
    have e1 : nI z - 1 = nI (z - 1) := pk_sub (b := 1) hz0
    refine ⟨_, _, _, rfl, rfl, ⟨w, h, hwh, rfl, rfl, hF, hPic, hSt, hri, hjo, hpr, z - 1, by omega, e1, e1, fun k hk => hpa k (by omega)⟩⟩
theorem eq_pair {n : Nat} {xpi : Nat → Int64} {gs0 : Int32} {ga0 : Nat → Int32} {gs1 : Int32} {ga1 : Nat → Int32} {gs2 : Int32} {ga2 : Nat → Int32} {ijn : Int32} {rsz : Int32} {rhi : Nat → Int32} {rmi : Nat → Int32} {srim : Int32} {sst : Nat → Int32} {fw : Int32} {fc : Int32} {fwh : Int64} {fbo : Int64} {fra : Nat → Int32} {fst : Nat → Int64} {fco : Nat → Int32} {fro : Nat → Int32} {mw : Int32} {mt : Int32} {mrim : Int32} {mjn : Int32} {mpn : Int32} {mpi : Nat → Int64} {mst : Nat → Int32} {mam : Nat → Int32} {mac : Nat → Int32} {mhi : Nat → Int32} {mmi : Nat → Int32} (hn : 10 ^ 80 ≤ n) (hI : Inv fw fc fwh fbo fra fst fco fro srim sst gs0 gs1 gs2 ga0 ga1 ga2 ijn rsz rhi rmi xpi mw mt mrim mjn mpn mpi mst mam mac mhi mmi) (a1 : Int32) (a2 : Int32) : ∃ (r : Int32) (y_rsz : Int32) (y_rhi : Nat → Int32) (y_rmi : Nat → Int32) (y_mpn : Int32) (y_mhi : Nat → Int32) (y_mmi : Nat → Int32), mX7_pair rsz rhi rmi a1 a2 = some (r, y_rsz, y_rhi, y_rmi) ∧ mX8_pair mpn mhi mmi a1 a2 = some (r, y_mpn, y_mhi, y_mmi) ∧ Inv fw fc fwh fbo fra fst fco fro srim sst gs0 gs1 gs2 ga0 ga1 ga2 ijn y_rsz y_rhi y_rmi xpi mw mt mrim mjn y_mpn mpi mst mam mac y_mhi y_mmi := by
  obtain ⟨w, h, hwh, rfl, rfl, hF, hPic, hSt, hri, hjo, hpr, z, hz, rfl, rfl, hpa⟩ := id hI
  unfold mX7_pair mX8_pair mX2_append
  rcases sta_cases a1 with ⟨p1, p2⟩ | ⟨j, hj, rfl, p1, p2⟩
  · exact ⟨-1, nI z, rhi, rmi, nI z, mhi, mmi, by rw [if_pos p1], by rw [if_pos p2], hI⟩
  · have n1 : ¬ mX6_isStamp (nI j) = 0 := by rw [p1]; decide
    have n2 : ¬ mX8_in (nI j).toInt64 0 3 = 0 := by rw [p2]; decide
    rw [if_neg n1, if_neg n2]
    rcases sta_cases a2 with ⟨p3, p4⟩ | ⟨k, hk, rfl, p3, p4⟩
    · exact ⟨-1, nI z, rhi, rmi, nI z, mhi, mmi, by rw [if_pos p3], by rw [if_pos p4], hI⟩
    · have n3 : ¬ mX6_isStamp (nI k) = 0 := by rw [p3]; decide
      have n4 : ¬ mX8_in (nI k).toInt64 0 3 = 0 := by rw [p4]; decide
      rw [if_neg n3, if_neg n4]
      by_cases h8 : z = 8
      · subst h8
        exact ⟨-4, nI 8, rhi, rmi, nI 8, mhi, mmi, rfl, rfl, hI⟩
      · have hl : nI z < 8 := nI_lt (b := 8) (by omega) (by decide)
        have hne : ¬ nI z = 8 := fun e => h8 ((nI_eq (b := 8) (by omega) (by decide)).mp e)
        have b8 : ib (nI z) 8 := ib_nI (by omega) (by decide)
        simp only [if_pos hl, if_neg hne, gd_t b8, nI_clamp (show z < 2 ^ 31 by omega), jb4_s]
        refine ⟨_, _, _, _, _, _, _, by rw [if_neg (by decide)], rfl, ⟨w, h, hwh, rfl, rfl, hF, hPic, hSt, hri, hjo, hpr, z + 1, by omega, nI_1 z, nI_1 z, fun i hi => ?_⟩⟩
        by_cases e : i = z
        · subst e
          rw [pk_us, pk_us, pk_us, pk_us]
          exact ⟨rfl, rfl, ⟨j, hj, rfl⟩, ⟨k, hk, rfl⟩⟩
        · rw [pk_un e, pk_un e, pk_un e, pk_un e]
          exact hpa i (by omega)
theorem eq_rule {n : Nat} {xpi : Nat → Int64} {gs0 : Int32} {ga0 : Nat → Int32} {gs1 : Int32} {ga1 : Nat → Int32} {gs2 : Int32} {ga2 : Nat → Int32} {ijn : Int32} {rsz : Int32} {rhi : Nat → Int32} {rmi : Nat → Int32} {srim : Int32} {sst : Nat → Int32} {fw : Int32} {fc : Int32} {fwh : Int64} {fbo : Int64} {fra : Nat → Int32} {fst : Nat → Int64} {fco : Nat → Int32} {fro : Nat → Int32} {mw : Int32} {mt : Int32} {mrim : Int32} {mjn : Int32} {mpn : Int32} {mpi : Nat → Int64} {mst : Nat → Int32} {mam : Nat → Int32} {mac : Nat → Int32} {mhi : Nat → Int32} {mmi : Nat → Int32} (hn : 10 ^ 80 ≤ n) (hI : Inv fw fc fwh fbo fra fst fco fro srim sst gs0 gs1 gs2 ga0 ga1 ga2 ijn rsz rhi rmi xpi mw mt mrim mjn mpn mpi mst mam mac mhi mmi) (a1 : Int32) (a2 : Int32) : ∃ (r : Int32) (y_ijn : Int32) (y_srim : Int32) (y_mrim : Int32) (y_mjn : Int32), mX7_rule srim ijn a1 a2 = some (r, y_ijn, y_srim) ∧ mX8_rule mrim mjn a1 a2 = some (r, y_mrim, y_mjn) ∧ Inv fw fc fwh fbo fra fst fco fro y_srim sst gs0 gs1 gs2 ga0 ga1 ga2 y_ijn rsz rhi rmi xpi mw mt y_mrim y_mjn mpn mpi mst mam mac mhi mmi := by
  obtain ⟨w, h, hwh, rfl, rfl, hF, hPic, hSt, ⟨rfl, hri⟩, ⟨rfl, hjo⟩, hrest⟩ := id hI
  have key : ∀ (R J : Int32), (R = 0 ∨ R = 1) → (J = 4 ∨ J = 8) → Inv fw fc fwh fbo fra fst fco fro R sst gs0 gs1 gs2 ga0 ga1 ga2 J rsz rhi rmi xpi (nI w) (nI h) R J mpn mpi mst mam mac mhi mmi := fun R J h1 h2 => ⟨w, h, hwh, rfl, rfl, hF, hPic, hSt, ⟨rfl, h1⟩, ⟨rfl, h2⟩, hrest⟩
  unfold mX7_rule mX8_rule
  simp only [jl_s]
  have z1 : (if srim = 0 then (0 : Int32) else 1) = srim := by rcases hri with e | e <;> subst e <;> rfl
  by_cases h0 : a1 = 0
  · subst h0
    by_cases h1 : a2 = 0
    · subst h1
      exact ⟨_, _, _, _, _, rfl, by rw [z1]; rfl, key 0 _ (Or.inl rfl) hjo⟩
    · by_cases h2 : a2 = 1
      · subst h2
        exact ⟨_, _, _, _, _, rfl, by rw [z1]; rfl, key 1 _ (Or.inr rfl) hjo⟩
      · have hin : mX8_in a2.toInt64 0 1 = 0 := by
          rcases rng_cases a2 (N := 2) (b := 1) (by decide) (by decide) rfl with ⟨q1, q2⟩ | ⟨k, hk, e, q1, q2⟩
          · exact q2
          · exfalso
            match k, hk with
            | 0, _ => exact h1 e
            | 1, _ => exact h2 e
        refine ⟨-2, ijn, srim, srim, ijn, ?_, ?_, hI⟩
        · simp [h1, h2]
        · simp [hin]
  · simp only [if_neg h0]
    by_cases h1 : a1 = 1
    · subst h1
      simp only [if_true]
      by_cases h4 : a2 = 4
      · subst h4; exact ⟨_, _, _, _, _, rfl, rfl, key _ 4 hri (Or.inl rfl)⟩
      · by_cases h8 : a2 = 8
        · subst h8; exact ⟨_, _, _, _, _, rfl, rfl, key _ 8 hri (Or.inr rfl)⟩
        · exact ⟨-2, ijn, srim, srim, ijn, by simp [h4, h8], by simp [h4, h8], hI⟩
    · exact ⟨-2, ijn, srim, srim, ijn, by simp [h1], by simp [h1], hI⟩
