theorem eq_act {n : Nat} {xpi : Nat → Int64} {gs0 : Int32} {ga0 : Nat → Int32} {gs1 : Int32} {ga1 : Nat → Int32} {gs2 : Int32} {ga2 : Nat → Int32} {ijn : Int32} {rsz : Int32} {rhi : Nat → Int32} {rmi : Nat → Int32} {srim : Int32} {sst : Nat → Int32} {fw : Int32} {fc : Int32} {fwh : Int64} {fbo : Int64} {fra : Nat → Int32} {fst : Nat → Int64} {fco : Nat → Int32} {fro : Nat → Int32} {mw : Int32} {mt : Int32} {mrim : Int32} {mjn : Int32} {mpn : Int32} {mpi : Nat → Int64} {mst : Nat → Int32} {mam : Nat → Int32} {mac : Nat → Int32} {mhi : Nat → Int32} {mmi : Nat → Int32} (hn : 10 ^ 80 ≤ n) (hI : Inv fw fc fwh fbo fra fst fco fro srim sst gs0 gs1 gs2 ga0 ga1 ga2 ijn rsz rhi rmi xpi mw mt mrim mjn mpn mpi mst mam mac mhi mmi) (a1 : Int32) (a2 : Int32) : ∃ (r : Int32) (y_xpi : Nat → Int64) (y_mpi : Nat → Int64), mX7_act n xpi fra fst sst fwh srim a1 a2 = some (r, y_xpi) ∧ mX8_act n mpi mst mw mt mrim a1 a2 = some (r, y_mpi) ∧ Inv fw fc fwh fbo fra fst fco fro srim sst gs0 gs1 gs2 ga0 ga1 ga2 ijn rsz rhi rmi y_xpi mw mt mrim mjn mpn y_mpi mst mam mac mhi mmi := by
  obtain ⟨w, h, hwh, rfl, rfl, hF, hPic, hSt, ⟨rfl, hri⟩, hrest⟩ := id hI
  unfold mX7_act mX8_act
  rcases pic_cases a1 with ⟨p1, p2⟩ | ⟨j, hj, rfl, p1, p2⟩
  · exact ⟨-1, xpi, mpi, by rw [if_pos p1], by rw [if_pos p2], hI⟩
  · have n1 : ¬ mX7_isPicture (nI j) = 0 := by rw [p1]; decide
    have n2 : ¬ mX8_isPicture (nI j) = 0 := by rw [p2]; decide
    rw [if_neg n1, if_neg n2]
    rcases act_cases a2 with ⟨q1, q2⟩ | ⟨hA, q1, q2⟩
    · exact ⟨-2, xpi, mpi, by rw [if_pos q1], by rw [if_pos q2], hI⟩
    · have m1 : ¬ mX6_isAct a2 = 0 := by rw [q1]; decide
      have m2 : ¬ mX8_isAct a2 = 0 := by rw [q2]; decide
      have bj : ib (nI j) 5 := ib_nI hj (by decide)
      have hpj := hPic j hj
      obtain ⟨g, g1, g2, g3⟩ := made_both hwh hF hSt hri hn (mpi j) hA
      simp only [if_neg m1, if_neg m2, gd_t bj, nI_clamp (show j < 2 ^ 31 by omega), hpj.1, g1, g2, jb_s, rep_eq hj, jb2_s, many_eq hn, updL_s]
      exact ⟨_, _, _, rfl, rfl, w, h, hwh, rfl, rfl, hF, hPic.put j rfl g3, hSt, ⟨rfl, hri⟩, hrest⟩
theorem eq_would {n : Nat} {xpi : Nat → Int64} {gs0 : Int32} {ga0 : Nat → Int32} {gs1 : Int32} {ga1 : Nat → Int32} {gs2 : Int32} {ga2 : Nat → Int32} {ijn : Int32} {rsz : Int32} {rhi : Nat → Int32} {rmi : Nat → Int32} {srim : Int32} {sst : Nat → Int32} {fw : Int32} {fc : Int32} {fwh : Int64} {fbo : Int64} {fra : Nat → Int32} {fst : Nat → Int64} {fco : Nat → Int32} {fro : Nat → Int32} {mw : Int32} {mt : Int32} {mrim : Int32} {mjn : Int32} {mpn : Int32} {mpi : Nat → Int64} {mst : Nat → Int32} {mam : Nat → Int32} {mac : Nat → Int32} {mhi : Nat → Int32} {mmi : Nat → Int32} (hn : 10 ^ 80 ≤ n) (hI : Inv fw fc fwh fbo fra fst fco fro srim sst gs0 gs1 gs2 ga0 ga1 ga2 ijn rsz rhi rmi xpi mw mt mrim mjn mpn mpi mst mam mac mhi mmi) (a1 : Int32) (a2 : Int32) : ∃ (r : Int32), mX7_would n fra fst sst fwh srim xpi a1 a2 = some r ∧ mX8_would n mst mw mt mrim mpi a1 a2 = some r ∧ Inv fw fc fwh fbo fra fst fco fro srim sst gs0 gs1 gs2 ga0 ga1 ga2 ijn rsz rhi rmi xpi mw mt mrim mjn mpn mpi mst mam mac mhi mmi := by
  obtain ⟨w, h, hwh, rfl, rfl, hF, hPic, hSt, ⟨rfl, hri⟩, hrest⟩ := id hI
  unfold mX7_would mX8_would
  rcases pic_cases a1 with ⟨p1, p2⟩ | ⟨j, hj, rfl, p1, p2⟩
  · exact ⟨-1, by rw [if_pos p1], by rw [if_pos p2], hI⟩
  · have n1 : ¬ mX7_isPicture (nI j) = 0 := by rw [p1]; decide
    have n2 : ¬ mX8_isPicture (nI j) = 0 := by rw [p2]; decide
    rw [if_neg n1, if_neg n2]
    rcases act_cases a2 with ⟨q1, q2⟩ | ⟨hA, q1, q2⟩
    · exact ⟨-2, by rw [if_pos q1], by rw [if_pos q2], hI⟩
    · have m1 : ¬ mX6_isAct a2 = 0 := by rw [q1]; decide
      have m2 : ¬ mX8_isAct a2 = 0 := by rw [q2]; decide
      have bj : ib (nI j) 5 := ib_nI hj (by decide)
      have hpj := hPic j hj
      obtain ⟨g, g1, g2, g3⟩ := made_both hwh hF hSt hri hn (mpi j) hA
      simp only [if_neg m1, if_neg m2, gd_t bj, nI_clamp (show j < 2 ^ 31 by omega), hpj.1, g1, g2, jb_s, many_eq hn, bitCount_eq]
      exact ⟨_, rfl, rfl, hI⟩
theorem eq_run {n : Nat} {xpi : Nat → Int64} {gs0 : Int32} {ga0 : Nat → Int32} {gs1 : Int32} {ga1 : Nat → Int32} {gs2 : Int32} {ga2 : Nat → Int32} {ijn : Int32} {rsz : Int32} {rhi : Nat → Int32} {rmi : Nat → Int32} {srim : Int32} {sst : Nat → Int32} {fw : Int32} {fc : Int32} {fwh : Int64} {fbo : Int64} {fra : Nat → Int32} {fst : Nat → Int64} {fco : Nat → Int32} {fro : Nat → Int32} {mw : Int32} {mt : Int32} {mrim : Int32} {mjn : Int32} {mpn : Int32} {mpi : Nat → Int64} {mst : Nat → Int32} {mam : Nat → Int32} {mac : Nat → Int32} {mhi : Nat → Int32} {mmi : Nat → Int32} (hn : 10 ^ 80 ≤ n) (hI : Inv fw fc fwh fbo fra fst fco fro srim sst gs0 gs1 gs2 ga0 ga1 ga2 ijn rsz rhi rmi xpi mw mt mrim mjn mpn mpi mst mam mac mhi mmi) (a1 : Int32) (a2 : Int32) : ∃ (r : Int32) (y_xpi : Nat → Int64) (y_mpi : Nat → Int64), mX7_run n xpi gs0 gs1 gs2 fra fst sst fwh srim ga0 ga1 ga2 a1 a2 = some (r, y_xpi) ∧ mX8_run n mpi mam mst mw mt mrim mac a1 a2 = some (r, y_mpi) ∧ Inv fw fc fwh fbo fra fst fco fro srim sst gs0 gs1 gs2 ga0 ga1 ga2 ijn rsz rhi rmi y_xpi mw mt mrim mjn mpn y_mpi mst mam mac mhi mmi := by
  obtain ⟨w, h, hwh, rfl, rfl, hF, hPic, hSt, ⟨rfl, hri⟩, hjo, hPr, hrest⟩ := id hI
  unfold mX7_run mX8_run
  rcases prg_cases a1 with ⟨p1, p2⟩ | ⟨p, hp, rfl, p1, p2⟩
  · exact ⟨-1, xpi, mpi, by rw [if_pos p1], by rw [if_pos p2], hI⟩
  · have n1 : ¬ mX7_isProgram (nI p) = 0 := by rw [p1]; decide
    have n2 : ¬ mX8_isProgram (nI p) = 0 := by rw [p2]; decide
    rw [if_neg n1, if_neg n2]
    rcases pic_cases a2 with ⟨q1, q2⟩ | ⟨j, hj, rfl, q1, q2⟩
    · exact ⟨-1, xpi, mpi, by rw [if_pos q1], by rw [if_pos q2], hI⟩
    · have m1 : ¬ mX7_isPicture (nI j) = 0 := by rw [q1]; decide
      have m2 : ¬ mX8_isPicture (nI j) = 0 := by rw [q2]; decide
      have bj : ib (nI j) 5 := ib_nI hj (by decide)
      have bp : ib (nI p) 3 := ib_nI hp (by decide)
      have hpj := hPic j hj
      obtain ⟨g, g1, g2, g3⟩ := prog_sel hwh hF hSt hri hn hPr hp (mpi j) hpj.2
      simp only [if_neg m1, if_neg m2, gd_t bj, gd_t bp, nI_clamp (show j < 2 ^ 31 by omega), hpj.1, g1, g2, jb_s, rep_eq hj, jb2_s, many_eq hn, updL_s]
      exact ⟨_, _, _, rfl, rfl, w, h, hwh, rfl, rfl, hF, hPic.put j rfl g3, hSt, ⟨rfl, hri⟩, hjo, hPr, hrest⟩
theorem deep_L {w h : Nat} {fw fc : Int32} {fwh fbo : Int64} {fra fco fro : Nat → Int32} {fst : Nat → Int64} {sst mst : Nat → Int32} {rim : Int32} (hw : 2 ≤ w ∧ w ≤ 7 ∧ 2 ≤ h ∧ h ≤ 7) (hF : FOK w h fw fc fwh fbo fra fst fco fro) (hSt : StaOK sst mst) (hr : rim = 0 ∨ rim = 1) {n : Nat} (hn : 10 ^ 80 ≤ n) {t c : Nat} (ht : t < 4) (hc : c < w * h) : ∀ (q q2 i : Nat) (x : Int64), i ≤ 61 → 61 - i < q → 61 - i < q2 → ∃ r, mX7_deep_L50 n fra fst fwh sst rim (nI t) (nI c) q x (nI i) = some r ∧ mX8_deep_L56 n (nI t) (nI w) (nI h) rim mst (nI c) q2 x (nI i) = some r := by
  have hb := wh_lt hw
  intro q
  induction q with
  | zero => intro q2 i x h1 h2; omega
  | succ q ih =>
    intro q2 i x h1 h2 h3
    match q2, h3 with
    | 0, h3 => omega
    | q2 + 1, h3 =>
      rw [mX7_deep_L50, mX8_deep_L56]
      by_cases hi : i = 61
      · subst hi
        rw [if_pos (by decide), if_pos (by decide)]
        exact ⟨_, rfl, rfl⟩
      · rw [if_neg (show ¬ (60 : Int32) < nI i from nI_nlt (a := 60) (by omega) (by decide)), if_neg (show ¬ (61 : Int32) ≤ nI i from nI_ge (b := 61) (by omega) (by decide))]
        obtain ⟨g, g1, g2, g3⟩ := woBy hw hF hSt hr hn x ht
        rw [gd_t (ib_nI ht (by decide)), nI_clamp (show t < 2 ^ 31 by omega), g1, g2, jb_s, jb_s, nI_1, has_eq _ (by omega), and1_eq, bt_ushr _ (by omega), Nat.add_zero]
        cases bt64 g c
        · exact ⟨_, rfl, rfl⟩
        · rw [if_neg (by decide), if_neg (by decide)]
          exact ih q2 (i + 1) g (by omega) (by omega) (by omega)
theorem eq_deep {n : Nat} {xpi : Nat → Int64} {gs0 : Int32} {ga0 : Nat → Int32} {gs1 : Int32} {ga1 : Nat → Int32} {gs2 : Int32} {ga2 : Nat → Int32} {ijn : Int32} {rsz : Int32} {rhi : Nat → Int32} {rmi : Nat → Int32} {srim : Int32} {sst : Nat → Int32} {fw : Int32} {fc : Int32} {fwh : Int64} {fbo : Int64} {fra : Nat → Int32} {fst : Nat → Int64} {fco : Nat → Int32} {fro : Nat → Int32} {mw : Int32} {mt : Int32} {mrim : Int32} {mjn : Int32} {mpn : Int32} {mpi : Nat → Int64} {mst : Nat → Int32} {mam : Nat → Int32} {mac : Nat → Int32} {mhi : Nat → Int32} {mmi : Nat → Int32} (hn : 10 ^ 80 ≤ n) (hI : Inv fw fc fwh fbo fra fst fco fro srim sst gs0 gs1 gs2 ga0 ga1 ga2 ijn rsz rhi rmi xpi mw mt mrim mjn mpn mpi mst mam mac mhi mmi) (a1 : Int32) (a2 : Int32) (a3 : Int32) : ∃ (r : Int32), mX7_deep n fc xpi fra fst fwh sst srim a1 a2 a3 = some r ∧ mX8_deep n mw mt mpi mrim mst a1 a2 a3 = some r ∧ Inv fw fc fwh fbo fra fst fco fro srim sst gs0 gs1 gs2 ga0 ga1 ga2 ijn rsz rhi rmi xpi mw mt mrim mjn mpn mpi mst mam mac mhi mmi := by
  obtain ⟨w, h, hwh, rfl, rfl, hF, hPic, hSt, ⟨rfl, hri⟩, hrest⟩ := id hI
  obtain ⟨rfl, rfl, -⟩ := id hF
  have hb := wh_lt hwh
  unfold mX7_deep mX8_deep mX7_bitAt
  rcases pic_cases a1 with ⟨p1, p2⟩ | ⟨j, hj, rfl, p1, p2⟩
  · exact ⟨-1, by rw [if_pos p1], by rw [if_pos p2], hI⟩
  · have n1 : ¬ mX7_isPicture (nI j) = 0 := by rw [p1]; decide
    have n2 : ¬ mX8_isPicture (nI j) = 0 := by rw [p2]; decide
    rw [if_neg n1, if_neg n2]
    rcases cell_cases hwh a2 with ⟨p3, p4⟩ | ⟨c, hc, rfl, p3, p4⟩
    · exact ⟨-1, by rw [if_pos p3], by rw [if_pos p4], hI⟩
    · have n3 : ¬ mX1_isCell (nI (w * h)) (nI c) = 0 := by rw [p3]; decide
      have n4 : ¬ mX8_isCell (nI w) (nI h) (nI c) = 0 := by rw [p4]; decide
      rw [if_neg n3, if_neg n4]
      rcases sta_cases a3 with ⟨p5, p6⟩ | ⟨t, ht, rfl, p5, p6⟩
      · exact ⟨-1, by rw [if_pos p5], by rw [if_pos p6], hI⟩
      · have n5 : ¬ mX6_isStamp (nI t) = 0 := by rw [p5]; decide
        have n6 : ¬ mX8_in (nI t).toInt64 0 3 = 0 := by rw [p6]; decide
        have bj : ib (nI j) 5 := ib_nI hj (by decide)
        have hpj := hPic j hj
        simp only [if_neg n5, if_neg n6, gd_t bj, nI_clamp (show j < 2 ^ 31 by omega), jb_s, hpj.1, bitAt_eq _ (show c < 64 by omega), has_eq _ (show c < 64 by omega)]
        cases bt64 (mpi j) c
        · exact ⟨_, rfl, rfl, hI⟩
        · rw [if_neg (by decide), if_neg (by decide)]
          obtain ⟨r, r1, r2⟩ := deep_L hwh hF hSt hri hn ht hc n n 1 (mpi j) (by omega) (by omega) (by omega)
          rw [show (1 : Int32) = nI 1 from rfl, r1, r2]
          simp only [jb_s]
          cases r
          · exact ⟨_, rfl, rfl, hI⟩
          · exact ⟨_, rfl, rfl, hI⟩
theorem expl_L {w h : Nat} {fw fc : Int32} {fwh fbo : Int64} {fra fco fro : Nat → Int32} {fst : Nat → Int64} (hw : 2 ≤ w ∧ w ≤ 7 ∧ 2 ≤ h ∧ h ≤ 7) (hF : FOK w h fw fc fwh fbo fra fst fco fro) {xpi mpi : Nat → Int64} (hPic : PicOK w h xpi mpi) {n : Nat} (hn : 10 ^ 80 ≤ n) {i j : Nat} (hi : i < 5) (hj : j < 5) : ∀ (q q2 k : Nat) (v : Int32), k ≤ 512 → 512 - k < q → 512 - k < q2 → ∃ r, mX7_explains_L21 n (nI i) fra fst xpi (nI j) q v (nI k) = some r ∧ mX8_explains_L21 n (nI i) (nI w) (nI h) mpi (nI j) q2 v (nI k) = some r := by
  intro q
  induction q with
  | zero => intro q2 i x h1 h2; omega
  | succ q ih =>
    intro q2 k v h1 h2 h3
    match q2, h3 with
    | 0, h3 => omega
    | q2 + 1, h3 =>
      rw [mX7_explains_L21, mX8_explains_L21]
      by_cases hk : k = 512
      · subst hk
        rw [if_pos (by decide), if_pos (by decide)]
        exact ⟨_, rfl, rfl⟩
      · have hn5 : ¬ (512 : Int32) ≤ nI k := nI_ge (b := 512) (by omega) (by decide)
        have bi : ib (nI i) 5 := ib_nI hi (by decide)
        have bj : ib (nI j) 5 := ib_nI hj (by decide)
        obtain ⟨g, g1, g2, g3⟩ := gr_both hw hF (mpi i) (k := k) (by omega) hn
        simp only [if_neg hn5, gd_t bi, gd_t bj, nI_clamp (show i < 2 ^ 31 by omega), nI_clamp (show j < 2 ^ 31 by omega), (hPic i hi).1, (hPic j hj).1, g1, g2, jb_s, jl_s, nI_1]
        by_cases e : g = mpi j
        · rw [if_pos e, if_pos e]
          exact ih q2 (k + 1) (v + 1) (by omega) (by omega) (by omega)
        · rw [if_neg e, if_neg e, Int32.add_zero]
          exact ih q2 (k + 1) v (by omega) (by omega) (by omega)
theorem eq_explains {n : Nat} {xpi : Nat → Int64} {gs0 : Int32} {ga0 : Nat → Int32} {gs1 : Int32} {ga1 : Nat → Int32} {gs2 : Int32} {ga2 : Nat → Int32} {ijn : Int32} {rsz : Int32} {rhi : Nat → Int32} {rmi : Nat → Int32} {srim : Int32} {sst : Nat → Int32} {fw : Int32} {fc : Int32} {fwh : Int64} {fbo : Int64} {fra : Nat → Int32} {fst : Nat → Int64} {fco : Nat → Int32} {fro : Nat → Int32} {mw : Int32} {mt : Int32} {mrim : Int32} {mjn : Int32} {mpn : Int32} {mpi : Nat → Int64} {mst : Nat → Int32} {mam : Nat → Int32} {mac : Nat → Int32} {mhi : Nat → Int32} {mmi : Nat → Int32} (hn : 10 ^ 80 ≤ n) (hI : Inv fw fc fwh fbo fra fst fco fro srim sst gs0 gs1 gs2 ga0 ga1 ga2 ijn rsz rhi rmi xpi mw mt mrim mjn mpn mpi mst mam mac mhi mmi) (a1 : Int32) (a2 : Int32) : ∃ (r : Int32), mX7_explains n fra fst xpi a1 a2 = some r ∧ mX8_explains n mw mt mpi a1 a2 = some r ∧ Inv fw fc fwh fbo fra fst fco fro srim sst gs0 gs1 gs2 ga0 ga1 ga2 ijn rsz rhi rmi xpi mw mt mrim mjn mpn mpi mst mam mac mhi mmi := by
  obtain ⟨w, h, hwh, rfl, rfl, hF, hPic, hrest⟩ := id hI
  unfold mX7_explains mX8_explains
  rcases pic_cases a1 with ⟨p1, p2⟩ | ⟨i, hi, rfl, p1, p2⟩
  · exact ⟨-1, by rw [if_pos p1], by rw [if_pos p2], hI⟩
  · have n1 : ¬ mX7_isPicture (nI i) = 0 := by rw [p1]; decide
    have n2 : ¬ mX8_isPicture (nI i) = 0 := by rw [p2]; decide
    rw [if_neg n1, if_neg n2]
    rcases pic_cases a2 with ⟨p3, p4⟩ | ⟨j, hj, rfl, p3, p4⟩
    · exact ⟨-1, by rw [if_pos p3], by rw [if_pos p4], hI⟩
    · have n3 : ¬ mX7_isPicture (nI j) = 0 := by rw [p3]; decide
      have n4 : ¬ mX8_isPicture (nI j) = 0 := by rw [p4]; decide
      rw [if_neg n3, if_neg n4]
      obtain ⟨r, r1, r2⟩ := expl_L hwh hF hPic hn hi hj n n 0 0 (by omega) (by omega) (by omega)
      rw [show (0 : Int32) = nI 0 from rfl] at r1 r2 ⊢
      rw [r1, r2]
      exact ⟨r, rfl, rfl, hI⟩
theorem bc6_tab : ∀ k : Nat, k < 512 → mJ6_bitCount_0f7a4 (nI k) = nI (pcn (nI k).toInt64) ∧ pcn (nI k).toInt64 < 10 := by decide +kernel
/-- fewest so far: on one side it is kept, on the reference's counted again -/
theorem least_L {w h : Nat} {fw fc : Int32} {fwh fbo : Int64} {fra fco fro : Nat → Int32} {fst : Nat → Int64} (hw : 2 ≤ w ∧ w ≤ 7 ∧ 2 ≤ h ∧ h ≤ 7) (hF : FOK w h fw fc fwh fbo fra fst fco fro) {xpi mpi : Nat → Int64} (hPic : PicOK w h xpi mpi) {n : Nat} (hn : 10 ^ 80 ≤ n) {i j : Nat} (hi : i < 5) (hj : j < 5) : ∀ (q q2 k : Nat) (v u : Int32), ((v = -9 ∧ u = 10) ∨ ∃ b, b < 512 ∧ v = nI b ∧ u = nI (pcn (nI b).toInt64)) → k ≤ 512 → 512 - k < q → 512 - k < q2 → ∃ r, mX7_least_L26 n (nI i) fra fst xpi (nI j) q v u (nI k) = some r ∧ mX8_least_L22 n (nI i) (nI w) (nI h) mpi (nI j) q2 v (nI k) = some r := by
  intro q
  induction q with
  | zero => intro q2 i x u h0 h1 h2; omega
  | succ q ih =>
    intro q2 k v u h0 h1 h2 h3
    match q2, h3 with
    | 0, h3 => omega
    | q2 + 1, h3 =>
      rw [mX7_least_L26, mX8_least_L22]
      by_cases hk : k = 512
      · subst hk
        rw [if_pos (by decide), if_pos (by decide)]
        exact ⟨_, rfl, rfl⟩
      · have hk5 : k < 512 := by omega
        have hn5 : ¬ (512 : Int32) ≤ nI k := nI_ge (b := 512) (by omega) (by decide)
        have bi : ib (nI i) 5 := ib_nI hi (by decide)
        have bj : ib (nI j) 5 := ib_nI hj (by decide)
        obtain ⟨g, g1, g2, g3⟩ := gr_both hw hF (mpi i) (k := k) hk5 hn
        have bk := bc6_tab k hk5
        simp only [if_neg hn5, gd_t bi, gd_t bj, nI_clamp (show i < 2 ^ 31 by omega), nI_clamp (show j < 2 ^ 31 by omega), (hPic i hi).1, (hPic j hj).1, g1, g2, jb_s, many_eq hn, nI_1, bk.1]
        -- the two tests are one
        obtain ⟨t, ht1, ht2⟩ : ∃ t : Bool, (u ≤ nI (pcn (nI k).toInt64) ↔ t = false) ∧ (if v = -9 then some (1 : Int32) else if nI (pcn v.toInt64) ≤ nI (pcn (nI k).toInt64) then some 0 else some 1) = some (if t then 1 else 0) := by
          rcases h0 with ⟨e1, e2⟩ | ⟨b, hb, e1, e2⟩
          · subst e1; subst e2
            refine ⟨true, ⟨fun g => ?_, fun g => by cases g⟩, rfl⟩
            exact absurd g (nI_ge (b := 10) bk.2 (by decide))
          · subst e1; subst e2
            have hne : ¬ nI b = -9 := by
              intro e
              have e2 := congrArg Int32.toInt e
              rw [nI_toInt (by omega)] at e2
              have : (-9 : Int32).toInt = -9 := rfl
              omega
            rw [if_neg hne]
            by_cases hc : nI (pcn (nI b).toInt64) ≤ nI (pcn (nI k).toInt64)
            · exact ⟨false, ⟨fun _ => rfl, fun _ => hc⟩, by rw [if_pos hc]; rfl⟩
            · exact ⟨true, ⟨fun g => absurd g hc, fun g => by cases g⟩, by rw [if_neg hc]; rfl⟩
        rw [ht2, jb_s]
        cases t
        · rw [if_pos (ht1.mpr rfl), jb2_s, if_pos (by decide), jb_s]
          exact ih q2 (k + 1) v u h0 (by omega) (by omega) (by omega)
        · have hnu : ¬ u ≤ nI (pcn (nI k).toInt64) := fun g => by have := ht1.mp g; cases this
          rw [if_neg hnu, if_neg (show ¬ (if true = true then (1 : Int32) else 0) = 0 by decide)]
          by_cases e : g = mpi j
          · rw [if_pos e, if_pos e, jb2_s, jb_s]
            exact ih q2 (k + 1) (nI k) _ (Or.inr ⟨k, hk5, rfl, rfl⟩) (by omega) (by omega) (by omega)
          · rw [if_neg e, if_neg e, jb2_s, jb_s]
            exact ih q2 (k + 1) v u h0 (by omega) (by omega) (by omega)
theorem eq_least {n : Nat} {xpi : Nat → Int64} {gs0 : Int32} {ga0 : Nat → Int32} {gs1 : Int32} {ga1 : Nat → Int32} {gs2 : Int32} {ga2 : Nat → Int32} {ijn : Int32} {rsz : Int32} {rhi : Nat → Int32} {rmi : Nat → Int32} {srim : Int32} {sst : Nat → Int32} {fw : Int32} {fc : Int32} {fwh : Int64} {fbo : Int64} {fra : Nat → Int32} {fst : Nat → Int64} {fco : Nat → Int32} {fro : Nat → Int32} {mw : Int32} {mt : Int32} {mrim : Int32} {mjn : Int32} {mpn : Int32} {mpi : Nat → Int64} {mst : Nat → Int32} {mam : Nat → Int32} {mac : Nat → Int32} {mhi : Nat → Int32} {mmi : Nat → Int32} (hn : 10 ^ 80 ≤ n) (hI : Inv fw fc fwh fbo fra fst fco fro srim sst gs0 gs1 gs2 ga0 ga1 ga2 ijn rsz rhi rmi xpi mw mt mrim mjn mpn mpi mst mam mac mhi mmi) (a1 : Int32) (a2 : Int32) : ∃ (r : Int32), mX7_least n fra fst xpi a1 a2 = some r ∧ mX8_least n mw mt mpi a1 a2 = some r ∧ Inv fw fc fwh fbo fra fst fco fro srim sst gs0 gs1 gs2 ga0 ga1 ga2 ijn rsz rhi rmi xpi mw mt mrim mjn mpn mpi mst mam mac mhi mmi := by
  obtain ⟨w, h, hwh, rfl, rfl, hF, hPic, hrest⟩ := id hI
  unfold mX7_least mX8_least
  rcases pic_cases a1 with ⟨p1, p2⟩ | ⟨i, hi, rfl, p1, p2⟩
  · exact ⟨-1, by rw [if_pos p1], by rw [if_pos p2], hI⟩
  · have n1 : ¬ mX7_isPicture (nI i) = 0 := by rw [p1]; decide
    have n2 : ¬ mX8_isPicture (nI i) = 0 := by rw [p2]; decide
    rw [if_neg n1, if_neg n2]
    rcases pic_cases a2 with ⟨p3, p4⟩ | ⟨j, hj, rfl, p3, p4⟩
    · exact ⟨-1, by rw [if_pos p3], by rw [if_pos p4], hI⟩
    · have n3 : ¬ mX7_isPicture (nI j) = 0 := by rw [p3]; decide
      have n4 : ¬ mX8_isPicture (nI j) = 0 := by rw [p4]; decide
      rw [if_neg n3, if_neg n4]
      obtain ⟨r, r1, r2⟩ := least_L hwh hF hPic hn hi hj n n 0 (-9) 10 (Or.inl ⟨rfl, rfl⟩) (by omega) (by omega) (by omega)
      rw [show (0 : Int32) = nI 0 from rfl]
      rw [r1, r2]
      exact ⟨r, rfl, rfl, hI⟩
theorem pw_tab : ∀ c : Nat, c < 13 → (1 : Int32) <<< (nI c &&& 31) = nI (2 ^ c) ∧ 2 ^ c ≤ 4096 := by decide +kernel
theorem long_bits {v : Nat} (hv : v < 2 ^ 31) (j : Nat) : bt64 (nI v).toInt64 j = v.testBit j := by
  rw [nI_l hv]
  show (BitVec.ofNat 64 v).getLsbD j = _
  rw [BitVec.getLsbD_ofNat]
  by_cases h : j < 64
  · simp [h]
  · have : v.testBit j = false := Nat.testBit_lt_two_pow (Nat.lt_of_lt_of_le hv (Nat.pow_le_pow_right (by decide) (by omega)))
    simp [h, this]
theorem diff_L {w h : Nat} {fw fc : Int32} {fwh fbo : Int64} {fra fco fro : Nat → Int32} {fst : Nat → Int64} {sst mst : Nat → Int32} {rim : Int32} (hw : 2 ≤ w ∧ w ≤ 7 ∧ 2 ≤ h ∧ h ≤ 7) (hF : FOK w h fw fc fwh fbo fra fst fco fro) (hSt : StaOK sst mst) (hr : rim = 0 ∨ rim = 1) {n : Nat} (hn : 10 ^ 80 ≤ n) {gs0 gs1 gs2 : Int32} {ga0 ga1 ga2 mam mac : Nat → Int32} (hPr : PrgOK gs0 gs1 gs2 ga0 ga1 ga2 mam mac) {a b : Nat} (ha : a < 3) (hb : b < 3) (h12 : w * h < 13) : ∀ (q q2 v : Nat), v ≤ 2 ^ (w * h) → 2 ^ (w * h) - v < q → 2 ^ (w * h) - v < q2 → ∃ r, mX7_differ_L44 n (nI (2 ^ (w * h))) (nI a) gs0 gs1 gs2 fra fst sst fwh rim ga0 ga1 ga2 (nI b) q (nI v) = some r ∧ mX8_differ_L30 n (nI w) (nI h) mam mst rim mac (nI a) (nI b) q2 (nI v) = some r := by
  have hp := pw_tab (w * h) h12
  intro q
  induction q with
  | zero => intro q2 v h1 h2; omega
  | succ q ih =>
    intro q2 v h1 h2 h3
    match q2, h3 with
    | 0, h3 => omega
    | q2 + 1, h3 =>
      rw [mX7_differ_L44, mX8_differ_L30, cells_eq, hp.1]
      by_cases hv : v = 2 ^ (w * h)
      · rw [hv, if_pos (Int32.le_refl _), if_pos (Int32.le_refl _)]
        exact ⟨_, rfl, rfl⟩
      · have hlt : v < 2 ^ (w * h) := by omega
        have hx : ∀ j, bt64 (nI v).toInt64 j = true → j < w * h := by
          intro j hj
          rw [long_bits (by omega)] at hj
          rcases Nat.lt_or_ge j (w * h) with g | g
          · exact g
          · rw [Nat.testBit_lt_two_pow (Nat.lt_of_lt_of_le hlt (Nat.pow_le_pow_right (by decide) g))] at hj
            cases hj
        obtain ⟨x1, g1, g2, -⟩ := prog_sel hw hF hSt hr hn hPr ha _ hx
        obtain ⟨x2, g3, g4, -⟩ := prog_sel hw hF hSt hr hn hPr hb _ hx
        have hnl := nI_ge hlt (show 2 ^ (w * h) < 2 ^ 31 by omega)
        simp only [if_neg hnl, gd_t (ib_nI ha (show 3 < 2 ^ 31 by decide)), gd_t (ib_nI hb (show 3 < 2 ^ 31 by decide)), g1, g2, g3, g4, jb_s, nI_1]
        by_cases e : x1 = x2
        · rw [if_pos e, if_pos e]
          exact ih q2 (v + 1) (by omega) (by omega) (by omega)
        · rw [if_neg e, if_neg e]
          exact ⟨_, rfl, rfl⟩
theorem eq_differ {n : Nat} {xpi : Nat → Int64} {gs0 : Int32} {ga0 : Nat → Int32} {gs1 : Int32} {ga1 : Nat → Int32} {gs2 : Int32} {ga2 : Nat → Int32} {ijn : Int32} {rsz : Int32} {rhi : Nat → Int32} {rmi : Nat → Int32} {srim : Int32} {sst : Nat → Int32} {fw : Int32} {fc : Int32} {fwh : Int64} {fbo : Int64} {fra : Nat → Int32} {fst : Nat → Int64} {fco : Nat → Int32} {fro : Nat → Int32} {mw : Int32} {mt : Int32} {mrim : Int32} {mjn : Int32} {mpn : Int32} {mpi : Nat → Int64} {mst : Nat → Int32} {mam : Nat → Int32} {mac : Nat → Int32} {mhi : Nat → Int32} {mmi : Nat → Int32} (hn : 10 ^ 80 ≤ n) (hI : Inv fw fc fwh fbo fra fst fco fro srim sst gs0 gs1 gs2 ga0 ga1 ga2 ijn rsz rhi rmi xpi mw mt mrim mjn mpn mpi mst mam mac mhi mmi) (a1 : Int32) (a2 : Int32) : ∃ (r : Int32), mX7_differ n fc gs0 gs1 gs2 fra fst sst fwh srim ga0 ga1 ga2 a1 a2 = some r ∧ mX8_differ n mw mt mam mst mrim mac a1 a2 = some r ∧ Inv fw fc fwh fbo fra fst fco fro srim sst gs0 gs1 gs2 ga0 ga1 ga2 ijn rsz rhi rmi xpi mw mt mrim mjn mpn mpi mst mam mac mhi mmi := by
  obtain ⟨w, h, hwh, rfl, rfl, hF, hPic, hSt, ⟨rfl, hri⟩, hjo, hPr, hrest⟩ := id hI
  obtain ⟨rfl, rfl, -⟩ := id hF
  have hb := wh_lt hwh
  unfold mX7_differ mX8_differ
  rcases prg_cases a1 with ⟨p1, p2⟩ | ⟨i, hi, rfl, p1, p2⟩
  · exact ⟨-1, by rw [if_pos p1], by rw [if_pos p2], hI⟩
  · have n1 : ¬ mX7_isProgram (nI i) = 0 := by rw [p1]; decide
    have n2 : ¬ mX8_isProgram (nI i) = 0 := by rw [p2]; decide
    rw [if_neg n1, if_neg n2]
    rcases prg_cases a2 with ⟨p3, p4⟩ | ⟨j, hj, rfl, p3, p4⟩
    · exact ⟨-1, by rw [if_pos p3], by rw [if_pos p4], hI⟩
    · have n3 : ¬ mX7_isProgram (nI j) = 0 := by rw [p3]; decide
      have n4 : ¬ mX8_isProgram (nI j) = 0 := by rw [p4]; decide
      rw [if_neg n3, if_neg n4, cells_eq]
      by_cases h12 : w * h < 13
      · have hle : nI (w * h) ≤ 12 := nI_le (b := 12) (by omega) (by decide)
        have hp := pw_tab (w * h) h12
        rw [if_pos hle, if_pos hle, hp.1]
        obtain ⟨r, r1, r2⟩ := diff_L hwh hF hSt hri hn hPr hi hj h12 n n 0 (Nat.zero_le _) (by omega) (by omega)
        rw [show (0 : Int32) = nI 0 from rfl, r1, r2]
        simp only [jb_s]
        cases r
        · exact ⟨_, rfl, rfl, hI⟩
        · exact ⟨_, rfl, rfl, hI⟩
      · have hle : ¬ nI (w * h) ≤ 12 := nI_ge (a := 12) (by omega) (by omega)
        rw [if_neg hle, if_neg hle]
        exact ⟨_, rfl, rfl, hI⟩
