theorem eq_piece {n : Nat} {xpi : Nat → Int64} {gs0 : Int32} {ga0 : Nat → Int32} {gs1 : Int32} {ga1 : Nat → Int32} {gs2 : Int32} {ga2 : Nat → Int32} {ijn : Int32} {rsz : Int32} {rhi : Nat → Int32} {rmi : Nat → Int32} {srim : Int32} {sst : Nat → Int32} {fw : Int32} {fc : Int32} {fwh : Int64} {fbo : Int64} {fra : Nat → Int32} {fst : Nat → Int64} {fco : Nat → Int32} {fro : Nat → Int32} {mw : Int32} {mt : Int32} {mrim : Int32} {mjn : Int32} {mpn : Int32} {mpi : Nat → Int64} {mst : Nat → Int32} {mam : Nat → Int32} {mac : Nat → Int32} {mhi : Nat → Int32} {mmi : Nat → Int32} (hn : 10 ^ 80 ≤ n) (hI : Inv fw fc fwh fbo fra fst fco fro srim sst gs0 gs1 gs2 ga0 ga1 ga2 ijn rsz rhi rmi xpi mw mt mrim mjn mpn mpi mst mam mac mhi mmi) (a1 : Int32) (a2 : Int32) : ∃ (r : Int32), mX7_piece n fc xpi fra fst ijn a1 a2 = some r ∧ mX8_piece n mw mt mpi mjn a1 a2 = some r ∧ Inv fw fc fwh fbo fra fst fco fro srim sst gs0 gs1 gs2 ga0 ga1 ga2 ijn rsz rhi rmi xpi mw mt mrim mjn mpn mpi mst mam mac mhi mmi := by
  obtain ⟨w, h, hwh, rfl, rfl, hF, hPic, hSt, hri, ⟨rfl, hjo⟩, hrest⟩ := id hI
  obtain ⟨rfl, rfl, -⟩ := id hF
  have hb := wh_lt hwh
  unfold mX7_piece mX8_piece mX7_bitAt mX3_around
  rcases pic_cases a1 with ⟨p1, p2⟩ | ⟨j, hj, rfl, p1, p2⟩
  · exact ⟨-1, by rw [if_pos p1], by rw [if_pos p2], hI⟩
  · have n1 : ¬ mX7_isPicture (nI j) = 0 := by rw [p1]; decide
    have n2 : ¬ mX8_isPicture (nI j) = 0 := by rw [p2]; decide
    rw [if_neg n1, if_neg n2]
    rcases cell_cases hwh a2 with ⟨p3, p4⟩ | ⟨c, hc, rfl, p3, p4⟩
    · exact ⟨-1, by rw [if_pos p3], by rw [if_pos p4], hI⟩
    · have n3 : ¬ mX1_isCell (nI (w * h)) (nI c) = 0 := by rw [p3]; decide
      have n4 : ¬ mX8_isCell (nI w) (nI h) (nI c) = 0 := by rw [p4]; decide
      have bj : ib (nI j) 5 := ib_nI hj (by decide)
      have hpj := hPic j hj
      simp only [if_neg n3, if_neg n4, gd_t bj, nI_clamp (show j < 2 ^ 31 by omega), jb_s, hpj.1, bitAt_eq _ (show c < 64 by omega), has_eq _ (show c < 64 by omega)]
      cases hx : bt64 (mpi j) c
      · exact ⟨-3, rfl, rfl, hI⟩
      · obtain ⟨r, r1, r2, r3⟩ := piece_both hwh hF hn hjo hpj.2 hx
        rw [if_neg (by decide), if_neg (by decide), r1, r2, jb_s, jb_s, jb_s, many_eq hn, bitCount_eq]
        exact ⟨_, rfl, rfl, hI⟩
theorem eq_keep {n : Nat} {xpi : Nat → Int64} {gs0 : Int32} {ga0 : Nat → Int32} {gs1 : Int32} {ga1 : Nat → Int32} {gs2 : Int32} {ga2 : Nat → Int32} {ijn : Int32} {rsz : Int32} {rhi : Nat → Int32} {rmi : Nat → Int32} {srim : Int32} {sst : Nat → Int32} {fw : Int32} {fc : Int32} {fwh : Int64} {fbo : Int64} {fra : Nat → Int32} {fst : Nat → Int64} {fco : Nat → Int32} {fro : Nat → Int32} {mw : Int32} {mt : Int32} {mrim : Int32} {mjn : Int32} {mpn : Int32} {mpi : Nat → Int64} {mst : Nat → Int32} {mam : Nat → Int32} {mac : Nat → Int32} {mhi : Nat → Int32} {mmi : Nat → Int32} (hn : 10 ^ 80 ≤ n) (hI : Inv fw fc fwh fbo fra fst fco fro srim sst gs0 gs1 gs2 ga0 ga1 ga2 ijn rsz rhi rmi xpi mw mt mrim mjn mpn mpi mst mam mac mhi mmi) (a1 : Int32) (a2 : Int32) : ∃ (r : Int32) (y_xpi : Nat → Int64) (y_mpi : Nat → Int64), mX7_keep n xpi fc fra fst ijn a1 a2 = some (r, y_xpi) ∧ mX8_keep n mpi mw mt mjn a1 a2 = some (r, y_mpi) ∧ Inv fw fc fwh fbo fra fst fco fro srim sst gs0 gs1 gs2 ga0 ga1 ga2 ijn rsz rhi rmi y_xpi mw mt mrim mjn mpn y_mpi mst mam mac mhi mmi := by
  obtain ⟨w, h, hwh, rfl, rfl, hF, hPic, hSt, hri, ⟨rfl, hjo⟩, hrest⟩ := id hI
  obtain ⟨rfl, rfl, -⟩ := id hF
  have hb := wh_lt hwh
  unfold mX7_keep mX8_keep mX7_bitAt mX3_around
  rcases pic_cases a1 with ⟨p1, p2⟩ | ⟨j, hj, rfl, p1, p2⟩
  · exact ⟨-1, xpi, mpi, by rw [if_pos p1], by rw [if_pos p2], hI⟩
  · have n1 : ¬ mX7_isPicture (nI j) = 0 := by rw [p1]; decide
    have n2 : ¬ mX8_isPicture (nI j) = 0 := by rw [p2]; decide
    rw [if_neg n1, if_neg n2]
    rcases cell_cases hwh a2 with ⟨p3, p4⟩ | ⟨c, hc, rfl, p3, p4⟩
    · exact ⟨-1, xpi, mpi, by rw [if_pos p3], by rw [if_pos p4], hI⟩
    · have n3 : ¬ mX1_isCell (nI (w * h)) (nI c) = 0 := by rw [p3]; decide
      have n4 : ¬ mX8_isCell (nI w) (nI h) (nI c) = 0 := by rw [p4]; decide
      have bj : ib (nI j) 5 := ib_nI hj (by decide)
      have hpj := hPic j hj
      simp only [if_neg n3, if_neg n4, gd_t bj, nI_clamp (show j < 2 ^ 31 by omega), jb_s, hpj.1, bitAt_eq _ (show c < 64 by omega), has_eq _ (show c < 64 by omega)]
      cases hx : bt64 (mpi j) c
      · exact ⟨-3, xpi, mpi, rfl, rfl, hI⟩
      · obtain ⟨r, r1, r2, r3⟩ := piece_both hwh hF hn hjo hpj.2 hx
        have hr : ∀ i, bt64 r i = true → i < w * h := fun i hi => hpj.2 i (Re.sub (fun u hu => by rw [bt_one (by omega), decide_eq_true_eq] at hu; rw [hu]; exact hx) ((r3 i).mp hi))
        rw [if_neg (by decide), if_neg (by decide)]
        simp only [r1, r2, jb_s, rep_eq hj, jb2_s, updL_s, many_eq hn]
        exact ⟨_, _, _, rfl, rfl, w, h, hwh, rfl, rfl, hF, hPic.put j rfl hr, hSt, hri, ⟨rfl, hjo⟩, hrest⟩
theorem eq_fill {n : Nat} {xpi : Nat → Int64} {gs0 : Int32} {ga0 : Nat → Int32} {gs1 : Int32} {ga1 : Nat → Int32} {gs2 : Int32} {ga2 : Nat → Int32} {ijn : Int32} {rsz : Int32} {rhi : Nat → Int32} {rmi : Nat → Int32} {srim : Int32} {sst : Nat → Int32} {fw : Int32} {fc : Int32} {fwh : Int64} {fbo : Int64} {fra : Nat → Int32} {fst : Nat → Int64} {fco : Nat → Int32} {fro : Nat → Int32} {mw : Int32} {mt : Int32} {mrim : Int32} {mjn : Int32} {mhm : Int32} {mpn : Int32} {mpi : Nat → Int64} {mst : Nat → Int32} {mam : Nat → Int32} {mac : Nat → Int32} {mhi : Nat → Int32} {mmi : Nat → Int32} (hn : 10 ^ 80 ≤ n) (hI : Inv fw fc fwh fbo fra fst fco fro srim sst gs0 gs1 gs2 ga0 ga1 ga2 ijn rsz rhi rmi xpi mw mt mrim mjn mpn mpi mst mam mac mhi mmi) (a1 : Int32) : ∃ (r : Int32) (y_xpi : Nat → Int64) (y_mhm : Int32) (y_mpi : Nat → Int64), mX7_fill n xpi fc fra fst fwh fbo ijn a1 = some (r, y_xpi) ∧ mX8_fill n mhm mpi mw mt mjn a1 = some (r, y_mhm, y_mpi) ∧ Inv fw fc fwh fbo fra fst fco fro srim sst gs0 gs1 gs2 ga0 ga1 ga2 ijn rsz rhi rmi y_xpi mw mt mrim mjn mpn y_mpi mst mam mac mhi mmi := by
  obtain ⟨w, h, hwh, rfl, rfl, hF, hPic, hSt, hri, ⟨rfl, hjo⟩, hrest⟩ := id hI
  obtain ⟨rfl, rfl, -⟩ := id hF
  have hb := wh_lt hwh
  unfold mX7_fill mX8_fill
  rcases pic_cases a1 with ⟨p1, p2⟩ | ⟨j, hj, rfl, p1, p2⟩
  · exact ⟨-1, xpi, mhm, mpi, by rw [if_pos p1], by rw [if_pos p2], hI⟩
  · have n1 : ¬ mX7_isPicture (nI j) = 0 := by rw [p1]; decide
    have n2 : ¬ mX8_isPicture (nI j) = 0 := by rw [p2]; decide
    have bj : ib (nI j) 5 := ib_nI hj (by decide)
    have hpj := hPic j hj
    obtain ⟨H, r, e1, e2, e3, e4⟩ := hol_both hwh hF hn hjo (mpi j)
    simp only [if_neg n1, if_neg n2, gd_t bj, nI_clamp (show j < 2 ^ 31 by omega), hpj.1, e1, e3, jb_s, jb2_s, put_eq hj, many_eq hn, bitCount_eq]
    rw [if_neg (by decide)]
    refine ⟨_, _, _, _, rfl, rfl, w, h, hwh, rfl, rfl, hF, hPic.put j rfl (fun i hi => ?_), hSt, hri, ⟨rfl, hjo⟩, hrest⟩
    rw [bt_or, Bool.or_eq_true] at hi
    rcases hi with hi | hi
    · exact hpj.2 i hi
    · exact e4 i hi
section
variable {w h : Nat} {fw fc : Int32} {fwh fbo : Int64} {fra fco fro : Nat → Int32} {fst : Nat → Int64}
theorem sd_in (hw : 2 ≤ w ∧ w ≤ 7 ∧ 2 ≤ h ∧ h ≤ 7) (x : Int64) {c : Nat} (hc : c < w * h) {z : Nat → Int64} (hz : ∀ s, s < 9 → ∀ i, i < w * h → (bt64 (z s) i = true ↔ (bt64 x i = true ∧ ¬ (stp w h i s ∧ bt64 x (tg w i s) = true)))) (n : Nat) {s : Nat} (hs : s < 9) (q : Nat) (v : Nat) (hx : bt64 x c = true) : mX8_edgeOf_L17 n x (nI c) (nI w) (nI h) (q + 1) (nI v) (nI s) = mX8_edgeOf_L17 n x (nI c) (nI w) (nI h) q (nI (v + if bt64 (z s) c = true then 1 else 0)) (nI (s + 2)) := by
  have hb := wh_lt hw
  rw [mX8_edgeOf_L17, if_neg (show ¬ (9 : Int32) ≤ nI s from nI_ge (b := 9) hs (by decide)), has_eq x (by omega), hx, if_neg (by decide)]
  have e2 : nI s + 2 = nI (s + 2) := nI_add s 2
  have key : ∀ o : Int32, (if o = -9 then (1 : Int32) else (if mX8_has x o = 0 then 1 else 0)) = (if bt64 (z s) c = true then 1 else 0) → mX8_stepFrom (nI w) (nI h) (nI c) (nI s) = some o → (jb (mX8_stepFrom (nI w) (nI h) (nI c) (nI s)) (fun (r8 : Int32) => jl (if r8 = (-9 : Int32) then (1 : Int32) else (if (mX8_has x r8) = 0 then (1 : Int32) else (0 : Int32))) (fun j10 => mX8_edgeOf_L17 n x (nI c) (nI w) (nI h) q (nI v + j10) (nI s + (2 : Int32))))) = mX8_edgeOf_L17 n x (nI c) (nI w) (nI h) q (nI (v + if bt64 (z s) c = true then 1 else 0)) (nI (s + 2)) := by
    intro o h1 h2
    rw [h2, jb_s, jl_s, h1, e2]
    cases bt64 (z s) c
    · rw [if_neg (by decide), if_neg (by decide), Int32.add_zero]; rfl
    · rw [if_pos rfl, if_pos rfl, nI_1]
  by_cases hst : stp w h c s
  · have ht := tg_lt hw hst
    have hne : ¬ nI (tg w c s) = -9 := by
      intro e
      have e2 := congrArg Int32.toInt e
      rw [nI_toInt (by omega)] at e2
      have : (-9 : Int32).toInt = -9 := rfl
      omega
    refine key _ ?_ (step_in hw hc hs hst)
    rw [if_neg hne, has_eq x (by omega)]
    have := hz s hs c hc
    cases hxt : bt64 x (tg w c s)
    · rw [this.mpr ⟨hx, fun g => by rw [hxt] at g; cases g.2⟩]; rfl
    · cases hzc : bt64 (z s) c
      · rfl
      · exact absurd ⟨hst, hxt⟩ (this.mp hzc).2
  · refine key _ ?_ (step_out hw hc hs hst)
    have := hz s hs c hc
    rw [if_pos rfl, this.mpr ⟨hx, fun g => hst g.1⟩]; rfl
def s4 (z : Nat → Int64) (c : Nat) : Nat := (if bt64 (z 1) c = true then 1 else 0) + (if bt64 (z 3) c = true then 1 else 0) + (if bt64 (z 5) c = true then 1 else 0) + (if bt64 (z 7) c = true then 1 else 0)
def s4sum (z : Nat → Int64) : Nat → Nat
  | 0 => 0
  | c + 1 => s4sum z c + s4 z c
theorem s4sum_eq (z : Nat → Int64) : ∀ c, s4sum z c = cnt (bt64 (z 1)) c + cnt (bt64 (z 3)) c + cnt (bt64 (z 5)) c + cnt (bt64 (z 7)) c
  | 0 => rfl
  | c + 1 => by rw [s4sum, s4sum_eq z c, s4, cnt, cnt, cnt, cnt]; omega
theorem sd_cell (hw : 2 ≤ w ∧ w ≤ 7 ∧ 2 ≤ h ∧ h ≤ 7) (x : Int64) {c : Nat} (hc : c < w * h) {z : Nat → Int64} (hz : ∀ s, s < 9 → ∀ i, i < w * h → (bt64 (z s) i = true ↔ (bt64 x i = true ∧ ¬ (stp w h i s ∧ bt64 x (tg w i s) = true)))) {n : Nat} (hn : 10 ^ 80 ≤ n) (v : Nat) : mX8_edgeOf_L17 n x (nI c) (nI w) (nI h) n (nI v) 1 = some (nI (v + s4 z c)) := by
  have hb := wh_lt hw
  obtain ⟨m, hm⟩ : ∃ m, n = m + 5 := ⟨n - 5, by omega⟩
  have hgen : ∀ N : Nat, mX8_edgeOf_L17 N x (nI c) (nI w) (nI h) (m + 5) (nI v) (nI 1) = some (nI (v + s4 z c)) := by
    intro N
    cases hx : bt64 x c
    · rw [mX8_edgeOf_L17, if_neg (by decide), has_eq x (by omega), hx, if_pos (by decide)]
      have h0 : s4 z c = 0 := by
        unfold s4
        have zz : ∀ s, s < 9 → bt64 (z s) c = false := fun s hs => by
          cases hq : bt64 (z s) c
          · rfl
          · have := ((hz s hs c hc).mp hq).1
            rw [hx] at this
            cases this
        rw [zz 1 (by omega), zz 3 (by omega), zz 5 (by omega), zz 7 (by omega)]; rfl
      rw [h0, Nat.add_zero]
    · rw [sd_in hw x hc hz N (s := 1) (by omega) (m + 4) v hx, sd_in hw x hc hz N (s := 3) (by omega) (m + 3) _ hx, sd_in hw x hc hz N (s := 5) (by omega) (m + 2) _ hx, sd_in hw x hc hz N (s := 7) (by omega) (m + 1) _ hx, mX8_edgeOf_L17, if_pos (by decide)]
      unfold s4
      rw [Nat.add_assoc, Nat.add_assoc, Nat.add_assoc, Nat.add_assoc, Nat.add_assoc]
  have := hgen n
  rw [← hm] at this
  exact this
theorem sd_L (hw : 2 ≤ w ∧ w ≤ 7 ∧ 2 ≤ h ∧ h ≤ 7) (x : Int64) {z : Nat → Int64} (hz : ∀ s, s < 9 → ∀ i, i < w * h → (bt64 (z s) i = true ↔ (bt64 x i = true ∧ ¬ (stp w h i s ∧ bt64 x (tg w i s) = true)))) {n : Nat} (hn : 10 ^ 80 ≤ n) : ∀ (q c : Nat), c ≤ w * h → w * h - c < q → mX8_edgeOf_L5 n (nI w) (nI h) x q (nI (s4sum z c)) (nI c) = some (nI (s4sum z (w * h))) := by
  have hb := wh_lt hw
  intro q
  induction q with
  | zero => intro c h1 h2; omega
  | succ q ih =>
    intro c h1 h2
    rw [mX8_edgeOf_L5, cells_eq]
    by_cases hc : c = w * h
    · subst hc
      rw [if_pos (Int32.le_refl _)]
    · have hlt : c < w * h := by omega
      rw [if_neg (nI_ge hlt (by omega)), sd_cell hw x hlt hz hn, jb_s, nI_1]
      exact ih (c + 1) (by omega) (by omega)
theorem sides_both (hw : 2 ≤ w ∧ w ≤ 7 ∧ 2 ≤ h ∧ h ≤ 7) (hF : FOK w h fw fc fwh fbo fra fst fco fro) {n : Nat} (hn : 10 ^ 80 ≤ n) (x : Int64) (hx : ∀ i, bt64 x i = true → i < w * h) : ∃ r, mX1_sidesOf n fra fst x = some r ∧ mX8_edgeOf n (nI w) (nI h) x = some r := by
  have hb := wh_lt hw
  have hbe : ∀ s, ∃ y, s < 9 → (mX1_behind fra fst x (nI s) = some y ∧ ∀ i, bt64 y i = true ↔ (i < w * h ∧ stp w h i s ∧ bt64 x (tg w i s) = true)) := by
    intro s
    by_cases hs : s < 9
    · obtain ⟨y, h1, h2⟩ := behind_ok hw hF x hs
      exact ⟨y, fun _ => ⟨h1, h2⟩⟩
    · exact ⟨0, fun q => absurd q hs⟩
  obtain ⟨y, hy⟩ := Classical.axiomOfChoice hbe
  have hz : ∀ s, s < 9 → ∀ i, i < w * h → (bt64 ((fun s => x &&& (y s ^^^ -1)) s) i = true ↔ (bt64 x i = true ∧ ¬ (stp w h i s ∧ bt64 x (tg w i s) = true))) := by
    intro s hs i hi
    have := (hy s hs).2 i
    show bt64 (x &&& (y s ^^^ -1)) i = true ↔ _
    rw [bt_andn, Bool.and_eq_true]
    cases hq : bt64 (y s) i
    · refine ⟨fun g => ⟨g.1, fun g2 => ?_⟩, fun g => ⟨g.1, rfl⟩⟩
      rw [this.mpr ⟨hi, g2⟩] at hq
      cases hq
    · exact ⟨fun g => (by cases g.2), fun g => absurd (this.mp hq).2 g.2⟩
  generalize hze : (fun s => x &&& (y s ^^^ -1)) = z at hz
  have hzs : ∀ s, z s = x &&& (y s ^^^ -1) := fun s => by rw [← hze]
  refine ⟨nI (s4sum z (w * h)), ?_, ?_⟩
  · have hpc : ∀ s, pcn (x &&& (y s ^^^ -1)) = cnt (bt64 (z s)) (w * h) := by
      intro s
      rw [← hzs]
      unfold pcn
      obtain ⟨d, hd⟩ : ∃ d, 64 = w * h + d := ⟨64 - w * h, by omega⟩
      rw [hd, cnt_split, cnt_false (f := fun i => bt64 (z s) (w * h + i)) (fun i _ => by
        cases hc : bt64 (z s) (w * h + i)
        · rfl
        · rw [hzs, bt_andn, Bool.and_eq_true] at hc
          exact absurd (hx _ hc.1) (by omega)), Nat.add_zero]
    obtain ⟨m, hm⟩ : ∃ m, n = m + 5 := ⟨n - 5, by omega⟩
    have hgen : ∀ N : Nat, mX1_sidesOf_L15 N 4 fra fst x (m + 5) 0 0 = some (nI (s4sum z (w * h))) := by
      intro N
      have st : ∀ (q v t s : Nat), t < 4 → side4 t = nI s → s < 9 → mX1_sidesOf_L15 N 4 fra fst x (q + 1) (nI v) (nI t) = mX1_sidesOf_L15 N 4 fra fst x q (nI (v + cnt (bt64 (z s)) (w * h))) (nI (t + 1)) := by
        intro q v t s ht hs hs9
        rw [mX1_sidesOf_L15, if_neg (show ¬ (4 : Int32) ≤ nI t from nI_ge (b := 4) ht (by decide)), gd_t (ib_nI ht (by decide)), nI_clamp (by omega), hs, (hy s hs9).1, jb_s, bitCount_eq, hpc, nI_add, nI_1]
      rw [show (0 : Int32) = nI 0 from rfl, st (m + 4) 0 0 1 (by omega) rfl (by omega), st (m + 3) _ 1 3 (by omega) rfl (by omega), st (m + 2) _ 2 5 (by omega) rfl (by omega), st (m + 1) _ 3 7 (by omega) rfl (by omega), mX1_sidesOf_L15, if_pos (by decide), s4sum_eq, Nat.zero_add]
    unfold mX1_sidesOf
    have := hgen n
    rw [← hm] at this
    rw [this]; rfl
  · unfold mX8_edgeOf
    have := sd_L hw x hz hn n 0 (Nat.zero_le _) (by omega)
    have : mX8_edgeOf_L5 n (nI w) (nI h) x n 0 0 = some (nI (s4sum z (w * h))) := this
    rw [this]; rfl
end
theorem eq_count {n : Nat} {xpi : Nat → Int64} {gs0 : Int32} {ga0 : Nat → Int32} {gs1 : Int32} {ga1 : Nat → Int32} {gs2 : Int32} {ga2 : Nat → Int32} {ijn : Int32} {rsz : Int32} {rhi : Nat → Int32} {rmi : Nat → Int32} {srim : Int32} {sst : Nat → Int32} {fw : Int32} {fc : Int32} {fwh : Int64} {fbo : Int64} {fra : Nat → Int32} {fst : Nat → Int64} {fco : Nat → Int32} {fro : Nat → Int32} {mw : Int32} {mt : Int32} {mrim : Int32} {mjn : Int32} {mhm : Int32} {mpn : Int32} {mpi : Nat → Int64} {mst : Nat → Int32} {mam : Nat → Int32} {mac : Nat → Int32} {mhi : Nat → Int32} {mmi : Nat → Int32} (hn : 10 ^ 80 ≤ n) (hI : Inv fw fc fwh fbo fra fst fco fro srim sst gs0 gs1 gs2 ga0 ga1 ga2 ijn rsz rhi rmi xpi mw mt mrim mjn mpn mpi mst mam mac mhi mmi) (a1 : Int32) (a2 : Int32) : ∃ (r : Int32) (y_mhm : Int32), mX7_count n fc fra fst ijn xpi fwh fbo a1 a2 = some r ∧ mX8_count n mhm mw mt mjn mpi a1 a2 = some (r, y_mhm) ∧ Inv fw fc fwh fbo fra fst fco fro srim sst gs0 gs1 gs2 ga0 ga1 ga2 ijn rsz rhi rmi xpi mw mt mrim mjn mpn mpi mst mam mac mhi mmi := by
  obtain ⟨w, h, hwh, rfl, rfl, hF, hPic, hSt, hri, ⟨rfl, hjo⟩, hrest⟩ := id hI
  obtain ⟨rfl, rfl, -⟩ := id hF
  have hb := wh_lt hwh
  unfold mX7_count mX8_count mX3_howMany mX3_howManyHoles
  rcases pic_cases a1 with ⟨p1, p2⟩ | ⟨j, hj, rfl, p1, p2⟩
  · exact ⟨-1, mhm, by rw [if_pos p1], by rw [if_pos p2], hI⟩
  · have n1 : ¬ mX7_isPicture (nI j) = 0 := by rw [p1]; decide
    have n2 : ¬ mX8_isPicture (nI j) = 0 := by rw [p2]; decide
    have bj : ib (nI j) 5 := ib_nI hj (by decide)
    have hpj := hPic j hj
    obtain ⟨H, r, e1, e2, e3, e4⟩ := hol_both hwh hF hn hjo (mpi j)
    obtain ⟨r0, z1, z2⟩ := pcs_both hwh hF hn hjo (mpi j) hpj.2
    obtain ⟨r2, z3, z4⟩ := sides_both hwh hF hn (mpi j) hpj.2
    simp only [if_neg n1, if_neg n2, gd_t bj, nI_clamp (show j < 2 ^ 31 by omega), hpj.1, e1, e2, e3, jb_s, jb2_s, z1, z2, z3, z4, many_eq hn, bitCount_eq]
    by_cases h0 : a2 = 0
    · simp only [if_pos h0]; exact ⟨_, _, rfl, rfl, hI⟩
    · simp only [if_neg h0]
      by_cases h1 : a2 = 1
      · simp only [if_pos h1]; exact ⟨_, _, rfl, rfl, hI⟩
      · simp only [if_neg h1]
        by_cases h2 : a2 = 2
        · simp only [if_pos h2]; exact ⟨_, _, rfl, rfl, hI⟩
        · simp only [if_neg h2]
          by_cases h3 : a2 = 3
          · simp only [if_pos h3]; exact ⟨_, _, rfl, rfl, hI⟩
          · simp only [if_neg h3]; exact ⟨_, _, rfl, rfl, hI⟩
