theorem eq_hits {n : Nat} {xpi : Nat → Int64} {gs0 : Int32} {ga0 : Nat → Int32} {gs1 : Int32} {ga1 : Nat → Int32} {gs2 : Int32} {ga2 : Nat → Int32} {ijn : Int32} {rsz : Int32} {rhi : Nat → Int32} {rmi : Nat → Int32} {srim : Int32} {sst : Nat → Int32} {fw : Int32} {fc : Int32} {fwh : Int64} {fbo : Int64} {fra : Nat → Int32} {fst : Nat → Int64} {fco : Nat → Int32} {fro : Nat → Int32} {mw : Int32} {mt : Int32} {mrim : Int32} {mjn : Int32} {mpn : Int32} {mpi : Nat → Int64} {mst : Nat → Int32} {mam : Nat → Int32} {mac : Nat → Int32} {mhi : Nat → Int32} {mmi : Nat → Int32} (hn : 10 ^ 80 ≤ n) (hI : Inv fw fc fwh fbo fra fst fco fro srim sst gs0 gs1 gs2 ga0 ga1 ga2 ijn rsz rhi rmi xpi mw mt mrim mjn mpn mpi mst mam mac mhi mmi) (a1 : Int32) (a2 : Int32) : ∃ (r : Int32), mX7_hits n rsz rhi rmi fra fst sst xpi a1 a2 = some r ∧ mX8_hits n mpn mw mt mhi mst mmi mpi a1 a2 = some r ∧ Inv fw fc fwh fbo fra fst fco fro srim sst gs0 gs1 gs2 ga0 ga1 ga2 ijn rsz rhi rmi xpi mw mt mrim mjn mpn mpi mst mam mac mhi mmi := by
  obtain ⟨w, h, hwh, rfl, rfl, hF, hPic, hSt, hri, hjo, hPr, z, hz, rfl, rfl, hpa⟩ := id hI
  unfold mX7_hits mX8_hits
  rcases pic_cases a1 with ⟨p1, p2⟩ | ⟨j, hj, rfl, p1, p2⟩
  · exact ⟨-1, by rw [if_pos p1], by rw [if_pos p2], hI⟩
  · have n1 : ¬ mX7_isPicture (nI j) = 0 := by rw [p1]; decide
    have n2 : ¬ mX8_isPicture (nI j) = 0 := by rw [p2]; decide
    rw [if_neg n1, if_neg n2]
    rcases ix_cases a2 (N := z) (by omega) with hout | ⟨k, hk, rfl⟩
    · have hm : mX8_in a2.toInt64 0 (nI z - 1).toInt64 = 0 := by
        rcases Nat.eq_zero_or_pos z with e | e
        · subst e
          unfold mX8_in
          by_cases h0 : a2.toInt64 < 0
          · rw [if_pos h0]
          · rw [if_neg h0, if_pos]
            rw [Int64.lt_iff_toInt_lt] at h0 ⊢
            have e1 : ((nI 0 - 1 : Int32).toInt64).toInt = -1 := by decide
            have e2 : (0 : Int64).toInt = 0 := rfl
            omega
        · rw [show (nI z - 1 : Int32) = nI (z - 1) from pk_sub (b := 1) e, nI_l (by omega)]
          rcases hout with ho | ho
          · exact in_lo ho
          · exact in_hi (B := z - 1) (by omega) rfl (by rw [show z - 1 + 1 = z by omega]; exact ho)
      refine ⟨-1, ?_, by rw [if_pos hm], hI⟩
      by_cases h0 : a2 < 0
      · rw [if_pos h0]
      · rw [if_neg h0, if_neg]
        rcases hout with ho | ho
        · exact absurd ho h0
        · exact Int32.not_lt.mpr ho
    · have hm : ¬ mX8_in (nI k).toInt64 0 (nI z - 1).toInt64 = 0 := by
        rw [show (nI z - 1 : Int32) = nI (z - 1) from pk_sub (b := 1) (by omega), nI_l (n := z - 1) (by omega), in_ok (B := z - 1) (by omega) (by omega) rfl]
        decide
      have hpj := hPic j hj
      obtain ⟨g, g1, g2, -⟩ := hi_both hwh hF hSt (p := k) (by omega) (hpa k hk) hn (mpi j) hpj.2
      have bj : ib (nI j) 5 := ib_nI hj (by decide)
      simp only [if_neg (nI_pos (show k < 2 ^ 31 by omega)), if_pos (nI_lt hk (show z < 2 ^ 31 by omega)), if_neg hm, gd_t bj, nI_clamp (show j < 2 ^ 31 by omega), hpj.1, g1, g2, jb_s, many_eq hn, bitCount_eq]
      exact ⟨_, rfl, rfl, hI⟩
section
variable {w h : Nat} {fw fc : Int32} {fwh fbo : Int64} {fra fco fro : Nat → Int32} {fst : Nat → Int64} {sst mst : Nat → Int32}
/-- a round of thinning -/
theorem rnd_L (hw : 2 ≤ w ∧ w ≤ 7 ∧ 2 ≤ h ∧ h ≤ 7) (hF : FOK w h fw fc fwh fbo fra fst fco fro) (hSt : StaOK sst mst) {rhi rmi mhi mmi : Nat → Int32} {z : Nat} (hz : z ≤ 8) (hpa : ∀ k, k < z → rhi k = mhi k ∧ rmi k = mmi k ∧ (∃ a, a < 4 ∧ mhi k = nI a) ∧ (∃ a, a < 4 ∧ mmi k = nI a)) {n : Nat} (hn : 10 ^ 80 ≤ n) {j : Nat} (hj : j < 5) : ∀ (q q2 k : Nat) (x : Int64) (mpi : Nat → Int64), mpi j = x → (∀ i, bt64 x i = true → i < w * h) → k ≤ z → z - k < q → z - k < q2 → ∃ y M, mX2_afterRound_L5 n (nI z) rhi rmi fra fst sst q x (nI k) = some y ∧ mX8_thin_L28 n (nI z) (nI j) (nI w) (nI h) mhi mst mmi q2 (nI k) mpi = some M ∧ M j = y ∧ (∀ i, ¬ i = j → M i = mpi i) ∧ ∀ i, bt64 y i = true → bt64 x i = true := by
  intro q
  induction q with
  | zero => intro q2 k x mpi h0 h1 h2 h3; omega
  | succ q ih =>
    intro q2 k x mpi h0 h1 h2 h3 h4
    match q2, h4 with
    | 0, h4 => omega
    | q2 + 1, h4 =>
      rw [mX2_afterRound_L5, mX8_thin_L28]
      by_cases hk : k = z
      · subst hk
        rw [if_pos (Int32.le_refl _), if_pos (Int32.le_refl _)]
        exact ⟨x, mpi, rfl, rfl, h0, fun i _ => rfl, fun i hi => hi⟩
      · have hkz : k < z := by omega
        obtain ⟨g, g1, g2, g3⟩ := hi_both hw hF hSt (p := k) (by omega) (hpa k hkz) hn x h1
        have bj : ib (nI j) 5 := ib_nI hj (by decide)
        simp only [if_neg (nI_ge hkz (show z < 2 ^ 31 by omega)), gd_t bj, nI_clamp (show j < 2 ^ 31 by omega), h0, g1, g2, jb_s, nI_1]
        obtain ⟨y, M, e1, e2, e3, e4, e5⟩ := ih q2 (k + 1) (x &&& (g ^^^ -1)) (vp_updL mpi j (x &&& (g ^^^ -1))) (updL_s _ _ _) (fun i hi => by rw [bt_andn, Bool.and_eq_true] at hi; exact h1 i hi.1) (by omega) (by omega) (by omega)
        refine ⟨y, M, e1, e2, e3, fun i hi => by rw [e4 i hi, updL_n _ _ hi], fun i hi => ?_⟩
        have := e5 i hi
        rw [bt_andn, Bool.and_eq_true] at this
        exact this.1
theorem rnd (hw : 2 ≤ w ∧ w ≤ 7 ∧ 2 ≤ h ∧ h ≤ 7) (hF : FOK w h fw fc fwh fbo fra fst fco fro) (hSt : StaOK sst mst) {rhi rmi mhi mmi : Nat → Int32} {z : Nat} (hz : z ≤ 8) (hpa : ∀ k, k < z → rhi k = mhi k ∧ rmi k = mmi k ∧ (∃ a, a < 4 ∧ mhi k = nI a) ∧ (∃ a, a < 4 ∧ mmi k = nI a)) {n : Nat} (hn : 10 ^ 80 ≤ n) {j : Nat} (hj : j < 5) (x : Int64) (mpi : Nat → Int64) (h0 : mpi j = x) (h1 : ∀ i, bt64 x i = true → i < w * h) : ∃ y M, mX2_afterRound n (nI z) rhi rmi fra fst sst x = some y ∧ mX8_thin_L28 n (nI z) (nI j) (nI w) (nI h) mhi mst mmi n 0 mpi = some M ∧ M j = y ∧ (∀ i, ¬ i = j → M i = mpi i) ∧ ∀ i, bt64 y i = true → bt64 x i = true := by
  obtain ⟨y, M, e1, e2, e3⟩ := rnd_L hw hF hSt hz hpa hn hj n n 0 x mpi h0 h1 (Nat.zero_le _) (by omega) (by omega)
  refine ⟨y, M, ?_, e2, e3⟩
  unfold mX2_afterRound
  rw [show (0 : Int32) = nI 0 from rfl, e1]; rfl
theorem thin_L (hw : 2 ≤ w ∧ w ≤ 7 ∧ 2 ≤ h ∧ h ≤ 7) (hF : FOK w h fw fc fwh fbo fra fst fco fro) (hSt : StaOK sst mst) {rhi rmi mhi mmi : Nat → Int32} {z : Nat} (hz : z ≤ 8) (hpa : ∀ k, k < z → rhi k = mhi k ∧ rmi k = mmi k ∧ (∃ a, a < 4 ∧ mhi k = nI a) ∧ (∃ a, a < 4 ∧ mmi k = nI a)) {n : Nat} (hn : 10 ^ 80 ≤ n) {j : Nat} (hj : j < 5) : ∀ (c q q2 i : Nat) (v : Int32) (xpi mpi : Nat → Int64), xpi j = mpi j → (∀ t, bt64 (mpi j) t = true → t < w * h) → pcn (mpi j) = c → c + i ≤ w * h → w * h - i < q → c + 3 < q2 → ∃ r X M, (mX7_thin_L13 n (nI (w * h)) (nI j) (nI z) rhi rmi fra fst sst q v (nI i) xpi = some (.inl (r, X)) ∨ mX7_thin_L13 n (nI (w * h)) (nI j) (nI z) rhi rmi fra fst sst q v (nI i) xpi = some (.inr (r, X))) ∧ mX8_thin_L13 n (nI j) (nI z) (nI w) (nI h) mhi mst mmi q2 v 1 mpi = some (r, M) ∧ X j = M j ∧ (∀ t, bt64 (M j) t = true → t < w * h) ∧ ∀ i, ¬ i = j → X i = xpi i ∧ M i = mpi i := by
  have hbd := wh_lt hw
  intro c
  induction c using Nat.strongRecOn with
  | ind c ih =>
    intro q q2 i v xpi mpi h0 h1 h2 h3 h4 h5
    have bj : ib (nI j) 5 := ib_nI hj (by decide)
    match q, h4, q2, h5 with
    | q + 1, h4, q2 + 2, h5 =>
      obtain ⟨y, M, e1, e2, e3, e4, e5⟩ := rnd hw hF hSt hz hpa hn hj (mpi j) mpi rfl h1
      rw [mX7_thin_L13, mX8_thin_L13, if_neg (show ¬ (1 : Int32) = 0 by decide)]
      simp only [gd_t bj, nI_clamp (show j < 2 ^ 31 by omega), h0, e1, e2, e3, jb_s, jl_s]
      by_cases hy : y = mpi j
      · simp only [if_pos hy]
        rw [if_pos trivial, mX8_thin_L13, if_pos (show (0 : Int32) = 0 from rfl), Int32.add_zero]
        by_cases hi : i = w * h
        · subst hi
          rw [if_pos (Int32.le_refl _)]
          exact ⟨v, xpi, M, Or.inr rfl, rfl, by rw [e3, hy, h0], by rw [e3, hy]; exact h1, fun t ht => ⟨rfl, e4 t ht⟩⟩
        · rw [if_neg (nI_ge (show i < w * h by omega) (by omega))]
          exact ⟨v, xpi, M, Or.inl rfl, rfl, by rw [e3, hy, h0], by rw [e3, hy]; exact h1, fun t ht => ⟨rfl, e4 t ht⟩⟩
      · have hlt := pcn_sub e5 hy
        have hi : i < w * h := by omega
        simp only [if_neg hy]
        rw [if_neg (show ¬ (1 : Int32) = 0 by decide), if_neg (nI_ge hi (by omega)), nI_1]
        obtain ⟨r, X, M', f1, f2, f3, f4, f5⟩ := ih (pcn y) (by omega) q (q2 + 1) (i + 1) (v + 1) (vp_updL xpi j y) M (by rw [updL_s, e3]) (by rw [e3]; exact fun t ht => h1 t (e5 t ht)) (by rw [e3]) (by omega) (by omega) (by omega)
        exact ⟨r, X, M', f1, f2, f3, f4, fun t ht => ⟨by rw [(f5 t ht).1, updL_n _ _ ht], by rw [(f5 t ht).2, e4 t ht]⟩⟩
end
theorem eq_thin {n : Nat} {xpi : Nat → Int64} {gs0 : Int32} {ga0 : Nat → Int32} {gs1 : Int32} {ga1 : Nat → Int32} {gs2 : Int32} {ga2 : Nat → Int32} {ijn : Int32} {rsz : Int32} {rhi : Nat → Int32} {rmi : Nat → Int32} {srim : Int32} {sst : Nat → Int32} {fw : Int32} {fc : Int32} {fwh : Int64} {fbo : Int64} {fra : Nat → Int32} {fst : Nat → Int64} {fco : Nat → Int32} {fro : Nat → Int32} {mw : Int32} {mt : Int32} {mrim : Int32} {mjn : Int32} {mpn : Int32} {mpi : Nat → Int64} {mst : Nat → Int32} {mam : Nat → Int32} {mac : Nat → Int32} {mhi : Nat → Int32} {mmi : Nat → Int32} (hn : 10 ^ 80 ≤ n) (hI : Inv fw fc fwh fbo fra fst fco fro srim sst gs0 gs1 gs2 ga0 ga1 ga2 ijn rsz rhi rmi xpi mw mt mrim mjn mpn mpi mst mam mac mhi mmi) (a1 : Int32) : ∃ (r : Int32) (y_xpi : Nat → Int64) (y_mpi : Nat → Int64), mX7_thin n xpi fc rsz rhi rmi fra fst sst a1 = some (r, y_xpi) ∧ mX8_thin n mpi mpn mw mt mhi mst mmi a1 = some (r, y_mpi) ∧ Inv fw fc fwh fbo fra fst fco fro srim sst gs0 gs1 gs2 ga0 ga1 ga2 ijn rsz rhi rmi y_xpi mw mt mrim mjn mpn y_mpi mst mam mac mhi mmi := by
  obtain ⟨w, h, hwh, rfl, rfl, hF, hPic, hSt, hri, hjo, hPr, z, hz, rfl, rfl, hpa⟩ := id hI
  obtain ⟨rfl, rfl, -⟩ := id hF
  have hbd := wh_lt hwh
  unfold mX7_thin mX8_thin
  rcases pic_cases a1 with ⟨p1, p2⟩ | ⟨j, hj, rfl, p1, p2⟩
  · exact ⟨-1, xpi, mpi, by rw [if_pos p1], by rw [if_pos p2], hI⟩
  · have n1 : ¬ mX7_isPicture (nI j) = 0 := by rw [p1]; decide
    have n2 : ¬ mX8_isPicture (nI j) = 0 := by rw [p2]; decide
    rw [if_neg n1, if_neg n2]
    have hpj := hPic j hj
    have hle := pcn_le_wh hpj.2
    obtain ⟨r, X, M, f1, f2, f3, f4, f5⟩ := thin_L hwh hF hSt hz hpa hn hj (pcn (mpi j)) n n 0 0 xpi mpi hpj.1 hpj.2 rfl (by omega) (by omega) (by omega)
    have hI' : Inv (nI w) (nI (w * h)) fwh fbo fra fst fco fro srim sst gs0 gs1 gs2 ga0 ga1 ga2 ijn (nI z) rhi rmi X (nI w) (nI h) mrim mjn (nI z) M mst mam mac mhi mmi := by
      refine ⟨w, h, hwh, rfl, rfl, hF, fun i hi => ?_, hSt, hri, hjo, hPr, z, hz, rfl, rfl, hpa⟩
      by_cases e : i = j
      · subst e; exact ⟨f3, f4⟩
      · rw [(f5 i e).1, (f5 i e).2]; exact hPic i hi
    have f1 : mX7_thin_L13 n (nI (w * h)) (nI j) (nI z) rhi rmi fra fst sst n 0 0 xpi = some (.inl (r, X)) ∨ mX7_thin_L13 n (nI (w * h)) (nI j) (nI z) rhi rmi fra fst sst n 0 0 xpi = some (.inr (r, X)) := f1
    rw [f2]
    rcases f1 with f1 | f1
    · rw [f1]; exact ⟨r, X, M, rfl, rfl, hI'⟩
    · rw [f1]; exact ⟨r, X, M, rfl, rfl, hI'⟩
