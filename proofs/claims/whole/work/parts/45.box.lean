theorem rc_self {w f l : Nat} (h1 : f % w ≤ l % w) (h2 : f / w ≤ l / w) : RcP w f l f := ⟨Nat.le_refl _, h1, Nat.le_refl _, h2⟩
theorem put_eq {j : Nat} (hj : j < 5) (xpi : Nat → Int64) (g : Int64) (a : Int32) : mX7_put xpi (nI j) g a = some (vp_updL xpi j (if a = 0 then xpi j &&& (g ^^^ -1) else xpi j ||| g)) := by
  unfold mX7_put
  have bj : ib (nI j) 5 := ib_nI hj (by decide)
  simp only [gd_t bj, nI_clamp (show j < 2 ^ 31 by omega)]
  by_cases h : a = 0
  · rw [if_pos h, if_pos h]
  · rw [if_neg h, if_neg h]
theorem eq_box {n : Nat} {xpi : Nat → Int64} {gs0 : Int32} {ga0 : Nat → Int32} {gs1 : Int32} {ga1 : Nat → Int32} {gs2 : Int32} {ga2 : Nat → Int32} {ijn : Int32} {rsz : Int32} {rhi : Nat → Int32} {rmi : Nat → Int32} {srim : Int32} {sst : Nat → Int32} {fw : Int32} {fc : Int32} {fwh : Int64} {fbo : Int64} {fra : Nat → Int32} {fst : Nat → Int64} {fco : Nat → Int32} {fro : Nat → Int32} {mw : Int32} {mt : Int32} {mrim : Int32} {mjn : Int32} {mpn : Int32} {mpi : Nat → Int64} {mst : Nat → Int32} {mam : Nat → Int32} {mac : Nat → Int32} {mhi : Nat → Int32} {mmi : Nat → Int32} (hn : 10 ^ 80 ≤ n) (hI : Inv fw fc fwh fbo fra fst fco fro srim sst gs0 gs1 gs2 ga0 ga1 ga2 ijn rsz rhi rmi xpi mw mt mrim mjn mpn mpi mst mam mac mhi mmi) (a1 : Int32) (a2 : Int32) (a3 : Int32) (a4 : Int32) : ∃ (r : Int32) (y_xpi : Nat → Int64) (y_mpi : Nat → Int64), mX7_box n xpi fc fco fro fw a1 a2 a3 a4 = some (r, y_xpi) ∧ mX8_box n mpi mw mt a1 a2 a3 a4 = some (r, y_mpi) ∧ Inv fw fc fwh fbo fra fst fco fro srim sst gs0 gs1 gs2 ga0 ga1 ga2 ijn rsz rhi rmi y_xpi mw mt mrim mjn mpn y_mpi mst mam mac mhi mmi := by
  obtain ⟨w, h, hwh, rfl, rfl, hF, hPic, hrest⟩ := id hI
  obtain ⟨rfl, rfl, -⟩ := id hF
  have hb := wh_lt hwh
  unfold mX7_box mX8_box
  rcases pic_cases a1 with ⟨p1, p2⟩ | ⟨j, hj, rfl, p1, p2⟩
  · exact ⟨-1, xpi, mpi, by rw [if_pos p1], by rw [if_pos p2], hI⟩
  · have n1 : ¬ mX7_isPicture (nI j) = 0 := by rw [p1]; decide
    have n2 : ¬ mX8_isPicture (nI j) = 0 := by rw [p2]; decide
    rw [if_neg n1, if_neg n2]
    rcases cell_cases hwh a2 with ⟨p3, p4⟩ | ⟨f, hf, rfl, p3, p4⟩
    · exact ⟨-1, xpi, mpi, by rw [if_pos p3], by rw [if_pos p4], hI⟩
    · have n3 : ¬ mX1_isCell (nI (w * h)) (nI f) = 0 := by rw [p3]; decide
      have n4 : ¬ mX8_isCell (nI w) (nI h) (nI f) = 0 := by rw [p4]; decide
      rw [if_neg n3, if_neg n4]
      rcases cell_cases hwh a3 with ⟨p5, p6⟩ | ⟨l, hl, rfl, p5, p6⟩
      · exact ⟨-1, xpi, mpi, by rw [if_pos p5], by rw [if_pos p6], hI⟩
      · have n5 : ¬ mX1_isCell (nI (w * h)) (nI l) = 0 := by rw [p5]; decide
        have n6 : ¬ mX8_isCell (nI w) (nI h) (nI l) = 0 := by rw [p6]; decide
        obtain ⟨g, g1, g2, g3⟩ := rect_both hwh hF hf hl hn
        have nz : ¬ nI w = 0 := nI_ne0 (by omega) (by omega)
        have bj : ib (nI j) 5 := ib_nI hj (by decide)
        have df := dm_lt hf (show 0 < w by omega)
        have dl := dm_lt hl (show 0 < w by omega)
        have hpj := hPic j hj
        simp only [if_neg n5, if_neg n6, gd_t nz, gd_t bj, g1, g2, jb_s, put_eq hj, nI_clamp (show j < 2 ^ 31 by omega), updL_s, bitCount_eq, many_eq hn, rem_nI (show f < 2 ^ 31 by omega) (show 0 < w by omega) (show w < 2 ^ 31 by omega), rem_nI (show l < 2 ^ 31 by omega) (show 0 < w by omega) (show w < 2 ^ 31 by omega), div_nI (show f < 2 ^ 31 by omega) (show 0 < w by omega) (show w < 2 ^ 31 by omega), div_nI (show l < 2 ^ 31 by omega) (show 0 < w by omega) (show w < 2 ^ 31 by omega)]
        have hzero : (∀ q, ¬ RcP w f l q) → g = 0 := fun hno => (eq0_iff g).mpr (fun i _ => by
          cases hc : bt64 g i
          · rfl
          · exact absurd ((g3 i).mp hc) (hno i))
        by_cases hx : l % w < f % w
        · rw [if_pos (hzero (fun q hq => by have := hq.1; have := hq.2.1; omega)), if_pos (nI_lt hx (by omega))]
          exact ⟨-2, xpi, mpi, rfl, rfl, hI⟩
        · rw [if_neg (nI_nlt (show f % w ≤ l % w by omega) (by omega))]
          by_cases hy : l / w < f / w
          · rw [if_pos (hzero (fun q hq => by have := hq.2.2.1; have := hq.2.2.2; omega)), if_neg (nI_ge hy (by omega))]
            exact ⟨-2, xpi, mpi, rfl, rfl, hI⟩
          · rw [if_pos (nI_le (show f / w ≤ l / w by omega) (by omega))]
            have hne : ¬ g = 0 := by
              intro e
              have := (g3 f).mpr (rc_self (by omega) (by omega))
              rw [e, bt_0] at this
              cases this
            rw [if_neg hne, hpj.1]
            have hlt : ∀ q, RcP w f l q → q < w * h := by
              intro q hq
              have hq2 := (rc_iff (show 0 < w by omega)).mp hq
              omega
            by_cases h4 : a4 = 0
            · simp only [if_pos h4, jb_s, updL_s, many_eq hn]
              refine ⟨_, _, _, rfl, rfl, w, h, hwh, rfl, rfl, hF, hPic.put j rfl (fun i hi => ?_), hrest⟩
              rw [bt_andn, Bool.and_eq_true] at hi
              exact hpj.2 i hi.1
            · simp only [if_neg h4, jb_s, updL_s, many_eq hn]
              refine ⟨_, _, _, rfl, rfl, w, h, hwh, rfl, rfl, hF, hPic.put j rfl (fun i hi => ?_), hrest⟩
              rw [bt_or, Bool.or_eq_true] at hi
              rcases hi with hi | hi
              · exact hpj.2 i hi
              · exact hlt i ((g3 i).mp hi)
