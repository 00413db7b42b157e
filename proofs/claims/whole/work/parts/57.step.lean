section
variable {n : Nat} {fra sst mst : Nat → Int32} {fst : Nat → Int64} {fwh : Int64} {rim mw mt : Int32} {F : Int64 → Nat → Int64}
theorem findRow_ok (hn : 10 ^ 80 ≤ n) (ha : ∀ x i, i < 9 → mX8_acted n mst mw mt rim x (acts9 i) = some (F x i)) {to x : Int64} {len : Nat} (hl : len ≤ 4) (mro : Nat → Int32) (mbe : Nat → Int64) : ∃ r tr le, mX8_findRow n mro mbe mst mw mt rim x to (nI len) = some (r, tr, le) ∧ ((r = 0 ∧ srch F to len x = none) ∨ (r = 1 ∧ ∃ l, srch F to len x = some l ∧ ∀ i, i < len → tr i = nI (l.getD i 0))) := by
  unfold mX8_findRow
  rw [gd_t (show ib (0 : Int32) 5 from ib_nI (j := 0) (by decide) (by decide))]
  cases len with
  | zero =>
    rw [if_pos (show nI 0 = 0 from rfl)]
    by_cases c : x = to
    · rw [if_pos c]
      exact ⟨1, _, _, rfl, Or.inr ⟨rfl, [], by rw [srch, if_pos c], fun i hi => absurd hi (Nat.not_lt_zero _)⟩⟩
    · rw [if_neg c]
      exact ⟨0, _, _, rfl, Or.inl ⟨rfl, by rw [srch, if_neg c]⟩⟩
  | succ r =>
    rw [if_neg (nI_ne0 (by omega) (by omega)), gd_t (show ib (0 : Int32) 4 from ib_nI (j := 0) (by decide) (by decide))]
    have hU : Uf 9 r ≤ 1000 ^ 5 := Nat.le_trans (Uf_le (by decide) r) (Nat.pow_le_pow_right (by decide) (by omega))
    have hp : 1 + 9 * (1 + 1000 ^ 5) < 10 ^ 80 := by decide
    have K := fr_L (n := n) ha (to := to) hl r 0 (by omega) 9 0 rfl n (upd mro 0 (-1)) (vp_updL mbe 0 x) (by rw [upd_s]; rfl) (by omega)
    rw [updL_s, show tryF (fun i => srch F to r (F x i)) 9 0 = srch F to (r + 1) x from rfl] at K
    show ∃ r_1 tr le, jb (mX8_findRow_L34 n mst mw mt rim (nI (r + 1)) to n (nI 0) (upd mro 0 (-1)) (vp_updL mbe 0 x)) _ = _ ∧ _
    cases hs : srch F to (r + 1) x with
    | some l =>
      obtain ⟨tr, le, f1, -, f3⟩ := K.1 l hs
      rw [f1, jb_s]
      exact ⟨1, tr, le, rfl, Or.inr ⟨rfl, l, rfl, fun i hi => by have := f3 i hi; rw [Nat.zero_add] at this; exact this⟩⟩
    | none =>
      obtain ⟨q', tr, le, f1, f2, -, -⟩ := K.2 hs
      obtain ⟨q', rfl⟩ : ∃ z, q' = z + 1 := ⟨q' - 1, by omega⟩
      rw [f2, mX8_findRow_L34, if_pos (show nI 0 + (-1) < 0 by decide), jb_s]
      exact ⟨0, tr, le, rfl, Or.inl ⟨rfl, rfl⟩⟩
theorem way_L (hn : 10 ^ 80 ≤ n) (hm : ∀ x i, i < 9 → mX6_made n fra fst sst fwh rim x (acts9 i) = some (F x i)) (ha : ∀ x i, i < 9 → mX8_acted n mst mw mt rim x (acts9 i) = some (F x i)) {mpi : Nat → Int64} {a b : Nat} (h1 : a < 5) (h2 : b < 5) : ∀ (s m q q2 : Nat) (qln : Int32) (qwy mro : Nat → Int32) (mbe : Nat → Int64), m + s = 5 → s < q → s < q2 → (∃ len qwy' mro' mbe', len ≤ 4 ∧ mX5_find_L3 n fra fst sst fwh rim (mpi a) (mpi b) q (nI m) qln qwy = some (.inl (nI len, qwy')) ∧ mX8_shortestOf_L2 n (nI a) (nI b) mst mw mt rim mpi q2 (nI m) mro mbe = some (.inl (nI len, mro', mbe')) ∧ ∀ i, i < len → mX8_actOf (mro' i) = qwy' i) ∨ (∃ qln' qwy' mro' mbe', mX5_find_L3 n fra fst sst fwh rim (mpi a) (mpi b) q (nI m) qln qwy = some (.inr (qln', qwy')) ∧ mX8_shortestOf_L2 n (nI a) (nI b) mst mw mt rim mpi q2 (nI m) mro mbe = some (.inr (mro', mbe'))) := by
  intro s
  induction s with
  | zero =>
    intro m q q2 qln qwy mro mbe h0 h3 h4
    obtain ⟨q, rfl⟩ : ∃ z, q = z + 1 := ⟨q - 1, by omega⟩
    obtain ⟨q2, rfl⟩ : ∃ z, q2 = z + 1 := ⟨q2 - 1, by omega⟩
    have e : m = 5 := by omega
    subst e
    rw [mX5_find_L3, mX8_shortestOf_L2, if_pos (show (4 : Int32) < nI 5 by decide), if_pos (show (5 : Int32) ≤ nI 5 by decide)]
    exact Or.inr ⟨_, _, _, _, rfl, rfl⟩
  | succ s ih =>
    intro m q q2 qln qwy mro mbe h0 h3 h4
    obtain ⟨q, rfl⟩ : ∃ z, q = z + 1 := ⟨q - 1, by omega⟩
    obtain ⟨q2, rfl⟩ : ∃ z, q2 = z + 1 := ⟨q2 - 1, by omega⟩
    have ba : ib (nI a) 5 := ib_nI h1 (by decide)
    have bb : ib (nI b) 5 := ib_nI h2 (by decide)
    obtain ⟨r, y, y1, -, y3⟩ := leads_ok hn hm (to := mpi b) (len := m) (by omega) m 0 8 qwy (mpi a) (by omega) (by omega)
    obtain ⟨r', tr, le, z1, z3⟩ := findRow_ok hn ha (to := mpi b) (x := mpi a) (len := m) (by omega) mro mbe
    have y1 : mX5_leads n (nI m) fra fst sst fwh rim 8 qwy (mpi a) (mpi b) 0 = some (r, y) := y1
    rw [mX5_find_L3, mX8_shortestOf_L2, if_neg (show ¬ (4 : Int32) < nI m from nI_nlt (show m ≤ 4 by omega) (by decide)), if_neg (show ¬ (5 : Int32) ≤ nI m from nI_ge (show m < 5 by omega) (by decide)), gd_t ba, gd_t bb, nI_clamp (show a < 2 ^ 31 by omega), nI_clamp (show b < 2 ^ 31 by omega), y1, z1, jb2_s, jb3_s, nI_1 m]
    rcases y3 with ⟨e1, e2⟩ | ⟨e1, l, e2, e3⟩
    · rcases z3 with ⟨g1, g2⟩ | ⟨g1, l', g2, g3⟩
      · subst e1 g1
        rw [if_pos rfl, if_pos rfl]
        exact ih (m + 1) q q2 (nI m) y tr le (by omega) (by omega) (by omega)
      · rw [e2] at g2; cases g2
    · rcases z3 with ⟨g1, g2⟩ | ⟨g1, l', g2, g3⟩
      · rw [e2] at g2; cases g2
      · rw [e2] at g2
        cases g2
        subst e1 g1
        rw [if_neg (by decide), if_neg (by decide)]
        refine Or.inl ⟨m, y, tr, le, by omega, rfl, rfl, fun i hi => ?_⟩
        have e4 := e3 i hi
        rw [Nat.zero_add] at e4
        rw [e4, g3 i hi, actOf_t _ (srch_lt F _ _ _ _ e2 i)]
end
theorem acts_F {w h : Nat} {fw fc : Int32} {fwh fbo : Int64} {fra fco fro : Nat → Int32} {fst : Nat → Int64} {sst mst : Nat → Int32} {rim : Int32} (hw : 2 ≤ w ∧ w ≤ 7 ∧ 2 ≤ h ∧ h ≤ 7) (hF : FOK w h fw fc fwh fbo fra fst fco fro) (hSt : StaOK sst mst) (hr : rim = 0 ∨ rim = 1) {n : Nat} (hn : 10 ^ 80 ≤ n) : ∃ F : Int64 → Nat → Int64, (∀ x i, i < 9 → mX6_made n fra fst sst fwh rim x (acts9 i) = some (F x i)) ∧ (∀ x i, i < 9 → mX8_acted n mst (nI w) (nI h) rim x (acts9 i) = some (F x i)) := by
  refine ⟨fun x i => (mX6_made n fra fst sst fwh rim x (acts9 i)).getD 0, fun x i hi => ?_, fun x i hi => ?_⟩
  · obtain ⟨g, g1, g2, -⟩ := made_both hw hF hSt hr hn x (acts9_isA i hi)
    show _ = some ((mX6_made n fra fst sst fwh rim x (acts9 i)).getD 0)
    rw [g1]; rfl
  · obtain ⟨g, g1, g2, -⟩ := made_both hw hF hSt hr hn x (acts9_isA i hi)
    show _ = some ((mX6_made n fra fst sst fwh rim x (acts9 i)).getD 0)
    rw [g1, g2]; rfl
/-- both searches between two pictures end alike -/
theorem way_both {w h : Nat} {fw fc : Int32} {fwh fbo : Int64} {fra fco fro : Nat → Int32} {fst : Nat → Int64} {sst mst : Nat → Int32} {rim : Int32} (hw : 2 ≤ w ∧ w ≤ 7 ∧ 2 ≤ h ∧ h ≤ 7) (hF : FOK w h fw fc fwh fbo fra fst fco fro) (hSt : StaOK sst mst) (hr : rim = 0 ∨ rim = 1) {n : Nat} (hn : 10 ^ 80 ≤ n) {mpi : Nat → Int64} {a b : Nat} (h1 : a < 5) (h2 : b < 5) (qln : Int32) (qwy mro : Nat → Int32) (mbe : Nat → Int64) : (∃ len qwy' mro' mbe', len ≤ 4 ∧ mX5_find n fra fst sst fwh rim qln qwy (mpi a) (mpi b) = some (1, nI len, qwy') ∧ mX8_shortestOf n mst (nI w) (nI h) rim mpi mro mbe (nI a) (nI b) = some (nI len, mro', mbe') ∧ ∀ i, i < len → mX8_actOf (mro' i) = qwy' i) ∨ (∃ qln' qwy' mro' mbe', mX5_find n fra fst sst fwh rim qln qwy (mpi a) (mpi b) = some (0, qln', qwy') ∧ mX8_shortestOf n mst (nI w) (nI h) rim mpi mro mbe (nI a) (nI b) = some (-9, mro', mbe')) := by
  obtain ⟨F, hm, ha⟩ := acts_F hw hF hSt hr hn
  unfold mX5_find mX8_shortestOf
  rcases way_L hn hm ha (mpi := mpi) h1 h2 5 0 n n qln qwy mro mbe rfl (by omega) (by omega) with ⟨len, q', m', b', e0, e1, e2, e3⟩ | ⟨l', q', m', b', e1, e2⟩
  · refine Or.inl ⟨len, q', m', b', e0, ?_, ?_, e3⟩
    · have e1 : mX5_find_L3 n fra fst sst fwh rim (mpi a) (mpi b) n 0 qln qwy = _ := e1
      rw [e1]; rfl
    · have e2 : mX8_shortestOf_L2 n (nI a) (nI b) mst (nI w) (nI h) rim mpi n 0 mro mbe = _ := e2
      rw [e2]; rfl
  · refine Or.inr ⟨l', q', m', b', ?_, ?_⟩
    · have e1 : mX5_find_L3 n fra fst sst fwh rim (mpi a) (mpi b) n 0 qln qwy = _ := e1
      rw [e1]; rfl
    · have e2 : mX8_shortestOf_L2 n (nI a) (nI b) mst (nI w) (nI h) rim mpi n 0 mro mbe = _ := e2
      rw [e2]; rfl
theorem in_zero {a b : Int32} (hab : a < 0 ∨ b < a) : mX8_in a.toInt64 0 b.toInt64 = 0 := by
  unfold mX8_in
  rcases hab with h1 | h1
  · rw [if_pos]
    rw [Int64.lt_iff_toInt_lt, Int32.toInt_toInt64]
    rw [Int32.lt_iff_toInt_lt] at h1
    exact h1
  · have : b.toInt64 < a.toInt64 := by
      rw [Int64.lt_iff_toInt_lt, Int32.toInt_toInt64, Int32.toInt_toInt64]
      rwa [Int32.lt_iff_toInt_lt] at h1
    by_cases c : a.toInt64 < 0
    · rw [if_pos c]
    · rw [if_neg c, if_pos this]
theorem eq_shortest {n : Nat} {xpi : Nat → Int64} {gs0 : Int32} {ga0 : Nat → Int32} {gs1 : Int32} {ga1 : Nat → Int32} {gs2 : Int32} {ga2 : Nat → Int32} {qln : Int32} {qwy : Nat → Int32} {ijn : Int32} {rsz : Int32} {rhi : Nat → Int32} {rmi : Nat → Int32} {srim : Int32} {sst : Nat → Int32} {fw : Int32} {fc : Int32} {fwh : Int64} {fbo : Int64} {fra : Nat → Int32} {fst : Nat → Int64} {fco : Nat → Int32} {fro : Nat → Int32} {mw : Int32} {mt : Int32} {mrim : Int32} {mjn : Int32} {mpn : Int32} {mpi : Nat → Int64} {mst : Nat → Int32} {mam : Nat → Int32} {mac : Nat → Int32} {mro : Nat → Int32} {mbe : Nat → Int64} {mhi : Nat → Int32} {mmi : Nat → Int32} (hn : 10 ^ 80 ≤ n) (hI : Inv fw fc fwh fbo fra fst fco fro srim sst gs0 gs1 gs2 ga0 ga1 ga2 ijn rsz rhi rmi xpi mw mt mrim mjn mpn mpi mst mam mac mhi mmi) (a1 : Int32) (a2 : Int32) : ∃ (r : Int32) (y_qln : Int32) (y_qwy : Nat → Int32) (y_mro : Nat → Int32) (y_mbe : Nat → Int64), mX7_shortest n qln qwy fra fst sst fwh srim xpi a1 a2 = some (r, y_qln, y_qwy) ∧ mX8_shortest n mro mbe mst mw mt mrim mpi a1 a2 = some (r, y_mro, y_mbe) ∧ Inv fw fc fwh fbo fra fst fco fro srim sst gs0 gs1 gs2 ga0 ga1 ga2 ijn rsz rhi rmi xpi mw mt mrim mjn mpn mpi mst mam mac mhi mmi := by
  obtain ⟨w, h, hwh, rfl, rfl, hF, hPic, hSt, hRim, hrest⟩ := id hI
  obtain ⟨rfl, hr⟩ := hRim
  unfold mX7_shortest mX8_shortest
  rcases pic_cases a1 with ⟨p1, p2⟩ | ⟨j, hj, rfl, p1, p2⟩
  · exact ⟨-1, qln, qwy, mro, mbe, by rw [if_pos p1], by rw [if_pos p2], hI⟩
  · have n1 : ¬ mX7_isPicture (nI j) = 0 := by rw [p1]; decide
    have n2 : ¬ mX8_isPicture (nI j) = 0 := by rw [p2]; decide
    rw [if_neg n1, if_neg n2]
    rcases pic_cases a2 with ⟨p3, p4⟩ | ⟨k, hk, rfl, p3, p4⟩
    · exact ⟨-1, qln, qwy, mro, mbe, by rw [if_pos p3], by rw [if_pos p4], hI⟩
    · have n3 : ¬ mX7_isPicture (nI k) = 0 := by rw [p3]; decide
      have n4 : ¬ mX8_isPicture (nI k) = 0 := by rw [p4]; decide
      have bj : ib (nI j) 5 := ib_nI hj (by decide)
      have bk : ib (nI k) 5 := ib_nI hk (by decide)
      rw [if_neg n3, if_neg n4, gd_t bj, gd_t bk, nI_clamp (show j < 2 ^ 31 by omega), nI_clamp (show k < 2 ^ 31 by omega), (hPic j hj).1, (hPic k hk).1]
      rcases way_both hwh hF hSt hr hn (mpi := mpi) hj hk qln qwy mro mbe with ⟨len, q', m', b', e0, e1, e2, e3⟩ | ⟨l', q', m', b', e1, e2⟩
      · rw [e1, e2, jb3_s, jb3_s, if_neg (by decide)]
        exact ⟨_, _, _, _, _, rfl, rfl, hI⟩
      · rw [e1, e2, jb3_s, jb3_s, if_pos rfl]
        exact ⟨_, _, _, _, _, rfl, rfl, hI⟩
theorem eq_step {n : Nat} {xpi : Nat → Int64} {gs0 : Int32} {ga0 : Nat → Int32} {gs1 : Int32} {ga1 : Nat → Int32} {gs2 : Int32} {ga2 : Nat → Int32} {qln : Int32} {qwy : Nat → Int32} {ijn : Int32} {rsz : Int32} {rhi : Nat → Int32} {rmi : Nat → Int32} {srim : Int32} {sst : Nat → Int32} {fw : Int32} {fc : Int32} {fwh : Int64} {fbo : Int64} {fra : Nat → Int32} {fst : Nat → Int64} {fco : Nat → Int32} {fro : Nat → Int32} {mw : Int32} {mt : Int32} {mrim : Int32} {mjn : Int32} {mpn : Int32} {mpi : Nat → Int64} {mst : Nat → Int32} {mam : Nat → Int32} {mac : Nat → Int32} {mro : Nat → Int32} {mbe : Nat → Int64} {mhi : Nat → Int32} {mmi : Nat → Int32} (hn : 10 ^ 80 ≤ n) (hI : Inv fw fc fwh fbo fra fst fco fro srim sst gs0 gs1 gs2 ga0 ga1 ga2 ijn rsz rhi rmi xpi mw mt mrim mjn mpn mpi mst mam mac mhi mmi) (a1 : Int32) (a2 : Int32) (a3 : Int32) : ∃ (r : Int32) (y_qln : Int32) (y_qwy : Nat → Int32) (y_mro : Nat → Int32) (y_mbe : Nat → Int64), mX7_step n qln qwy fra fst sst fwh srim xpi a1 a2 a3 = some (r, y_qln, y_qwy) ∧ mX8_step n mro mbe mst mw mt mrim mpi a1 a2 a3 = some (r, y_mro, y_mbe) ∧ Inv fw fc fwh fbo fra fst fco fro srim sst gs0 gs1 gs2 ga0 ga1 ga2 ijn rsz rhi rmi xpi mw mt mrim mjn mpn mpi mst mam mac mhi mmi := by
  obtain ⟨w, h, hwh, rfl, rfl, hF, hPic, hSt, hRim, hrest⟩ := id hI
  obtain ⟨rfl, hr⟩ := hRim
  unfold mX7_step mX8_step
  rcases pic_cases a1 with ⟨p1, p2⟩ | ⟨j, hj, rfl, p1, p2⟩
  · exact ⟨-1, qln, qwy, mro, mbe, by rw [if_pos p1], by rw [if_pos p2], hI⟩
  · have n1 : ¬ mX7_isPicture (nI j) = 0 := by rw [p1]; decide
    have n2 : ¬ mX8_isPicture (nI j) = 0 := by rw [p2]; decide
    rw [if_neg n1, if_neg n2]
    rcases pic_cases a2 with ⟨p3, p4⟩ | ⟨k, hk, rfl, p3, p4⟩
    · exact ⟨-1, qln, qwy, mro, mbe, by rw [if_pos p3], by rw [if_pos p4], hI⟩
    · have n3 : ¬ mX7_isPicture (nI k) = 0 := by rw [p3]; decide
      have n4 : ¬ mX8_isPicture (nI k) = 0 := by rw [p4]; decide
      have bj : ib (nI j) 5 := ib_nI hj (by decide)
      have bk : ib (nI k) 5 := ib_nI hk (by decide)
      rw [if_neg n3, if_neg n4, gd_t bj, gd_t bk, nI_clamp (show j < 2 ^ 31 by omega), nI_clamp (show k < 2 ^ 31 by omega), (hPic j hj).1, (hPic k hk).1]
      have hw3 := way_both hwh hF hSt hr hn (mpi := mpi) hj hk qln qwy mro mbe
      rcases ix_cases a3 (N := 4) (by decide) with (c | c) | ⟨i, hi, rfl⟩
      · rw [if_pos c]
        rcases hw3 with ⟨len, q', m', b', e0, e1, e2, e3⟩ | ⟨l', q', m', b', e1, e2⟩
        · rw [e2, jb3_s, if_pos (in_zero (Or.inl c))]
          exact ⟨_, _, _, _, _, rfl, rfl, hI⟩
        · rw [e2, jb3_s, if_pos (in_zero (Or.inl c))]
          exact ⟨_, _, _, _, _, rfl, rfl, hI⟩
      · have c0 : ¬ a3 < 0 := by
          rw [Int32.lt_iff_toInt_lt]
          rw [Int32.le_iff_toInt_le] at c
          have : (nI 4).toInt = 4 := rfl
          have : (0 : Int32).toInt = 0 := rfl
          omega
        have c4 : (4 : Int32) ≤ a3 := c
        rw [if_neg c0, if_pos c4]
        rcases hw3 with ⟨len, q', m', b', e0, e1, e2, e3⟩ | ⟨l', q', m', b', e1, e2⟩
        · have hlt : nI len - 1 < a3 := by
            rw [Int32.le_iff_toInt_le] at c
            rw [Int32.lt_iff_toInt_lt, show nI len - 1 = nI len - nI 1 from rfl, pk_sub_toInt (by omega) (by omega)]
            have : (nI 4).toInt = 4 := rfl
            omega
          rw [e2, jb3_s, if_pos (in_zero (Or.inr hlt))]
          exact ⟨_, _, _, _, _, rfl, rfl, hI⟩
        · have hlt : (-9 : Int32) - 1 < a3 := by
            rw [Int32.le_iff_toInt_le] at c
            rw [Int32.lt_iff_toInt_lt]
            have : (nI 4).toInt = 4 := rfl
            have : ((-9 : Int32) - 1).toInt = -10 := rfl
            omega
          rw [e2, jb3_s, if_pos (in_zero (Or.inr hlt))]
          exact ⟨_, _, _, _, _, rfl, rfl, hI⟩
      · rw [if_neg (nI_pos (show i < 2 ^ 31 by omega)), if_neg (show ¬ (4 : Int32) ≤ nI i from nI_ge hi (by decide))]
        rcases hw3 with ⟨len, q', m', b', e0, e1, e2, e3⟩ | ⟨l', q', m', b', e1, e2⟩
        · rw [e1, e2, jb3_s, jb3_s, if_neg (by decide)]
          by_cases c : len ≤ i
          · have hlt : nI len - 1 < nI i := by
              rw [Int32.lt_iff_toInt_lt, show nI len - 1 = nI len - nI 1 from rfl, pk_sub_toInt (by omega) (by omega), nI_toInt (by omega)]
              omega
            rw [if_pos (nI_le c (by omega)), if_pos (in_zero (Or.inr hlt))]
            exact ⟨_, _, _, _, _, rfl, rfl, hI⟩
          · have hin : mX8_in (nI i).toInt64 0 (nI len - 1).toInt64 = 1 := by
              rw [show nI len - 1 = nI (len - 1) from pk_sub (b := 1) (by omega)]
              exact in_ok (B := len - 1) (by omega) (by omega) (nI_l (by omega))
            have b4 : ib (nI i) 4 := ib_nI hi (by decide)
            rw [if_neg (nI_ge (show i < len by omega) (by omega)), hin, if_neg (by decide), gd_t b4, gd_t b4, nI_clamp (show i < 2 ^ 31 by omega), e3 i (by omega)]
            exact ⟨_, _, _, _, _, rfl, rfl, hI⟩
        · have hlt : (-9 : Int32) - 1 < nI i := by
            rw [Int32.lt_iff_toInt_lt, nI_toInt (by omega)]
            have : ((-9 : Int32) - 1).toInt = -10 := rfl
            omega
          rw [e1, e2, jb3_s, jb3_s, if_pos rfl, if_pos (in_zero (Or.inr hlt))]
          exact ⟨_, _, _, _, _, rfl, rfl, hI⟩
