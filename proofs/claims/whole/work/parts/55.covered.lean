theorem cb_ok {L : List Int64} {mgr : Nat → Int64} (hg : AG mgr L) (hL : L.length ≤ 784) {m : Nat} (hm : m ≤ 20) {n : Nat} (hn : 10 ^ 80 ≤ n) (mtr : Nat → Int32) (mle : Nat → Int64) : ∃ r tr le, mX8_isCoveredBy n (nI L.length) mgr mtr mle (nI m) = some (r, tr, le) ∧ le 0 = mle 0 ∧ ((CV L m (mle 0) ∧ r = 1) ∨ (¬ CV L m (mle 0) ∧ r = 0)) := by
  obtain ⟨e, he⟩ := low_ex (mle 0)
  have hU : Uf L.length m ≤ 1000 ^ 21 := Nat.le_trans (Uf_le hL m) (Nat.pow_le_pow_right (by decide) (by omega))
  have hp : 1000 ^ 21 < 10 ^ 80 := by decide
  have K := cb_L hg hL hm hn m 0 (by omega) L.length 0 (Nat.zero_le _) (by omega) n e (upd mtr 0 (-1)) mle he (fun _ => by rw [upd_s]; rfl) (by rw [Bf_U]; omega)
  rw [fnd_cv (fun g => (he g).2.1), Bf_U] at K
  unfold mX8_isCoveredBy
  rw [gd_t (show ib (0 : Int32) 21 from ib_nI (j := 0) (by decide) (by decide))]
  show ∃ r tr le, jb (mX8_isCoveredBy_L9 n (nI m) (nI L.length) mgr n (nI 0) (upd mtr 0 (-1)) mle) _ = _ ∧ _
  by_cases cv : CV L m (mle 0)
  · obtain ⟨tr, le, f1, f2⟩ := K.1 cv
    rw [f1, jb_s]
    exact ⟨1, tr, le, rfl, f2, Or.inl ⟨cv, rfl⟩⟩
  · obtain ⟨q', tr, le, f1, f2, f3, f4⟩ := K.2 cv
    obtain ⟨q', rfl⟩ : ∃ z, q' = z + 1 := ⟨q' - 1, by omega⟩
    rw [f2, mX8_isCoveredBy_L9, if_pos (show nI 0 + (-1) < 0 by decide), jb_s]
    exact ⟨0, tr, le, rfl, f4 0 (Nat.le_refl _), Or.inr ⟨cv, rfl⟩⟩
theorem co_L {L : List Int64} {mgr : Nat → Int64} (hg : AG mgr L) (hL : L.length ≤ 784) {R : Nat} (hR : R ≤ 20) {n : Nat} (hn : 10 ^ 80 ≤ n) {x : Int64} (hc : CV L R x) : ∀ (q m : Nat) (mtr : Nat → Int32) (mle : Nat → Int64), m ≤ R → R - m < q → mle 0 = x → (∀ t, t < m → ¬ CV L t x) → ∃ r tr le, mX8_covered_L50 n (nI L.length) mgr q (nI m) mtr mle = some (nI r, tr, le) ∧ r ≤ R ∧ CV L r x ∧ ∀ t, t < r → ¬ CV L t x := by
  intro q
  induction q with
  | zero => intro m mtr mle h0 h1; omega
  | succ q ih =>
    intro m mtr mle h0 h1 hx hlow
    obtain ⟨r, tr, le, f1, f2, f3⟩ := cb_ok hg hL (show m ≤ 20 by omega) hn mtr mle
    rw [mX8_covered_L50, f1, jb3_s, nI_1 m]
    rw [hx] at f2 f3
    rcases f3 with ⟨c1, c2⟩ | ⟨c1, c2⟩
    · subst c2
      rw [if_neg (by decide)]
      exact ⟨m, tr, le, rfl, h0, c1, hlow⟩
    · subst c2
      rw [if_pos rfl]
      have : ¬ m = R := fun e => c1 (by rw [e]; exact hc)
      refine ih (m + 1) tr le (by omega) (by omega) f2 (fun t ht => ?_)
      by_cases e : t = m
      · subst e; exact c1
      · exact hlow t (by omega)
section
variable {w h : Nat} {fw fc : Int32} {fwh fbo : Int64} {fra fco fro : Nat → Int32} {fst : Nat → Int64}
theorem mem_mls {x : Int64} {t : Nat} (hm : kM w h x t = true) : ∀ k, t < k → kR w h t ∈ mls w h x k
  | 0, hk => absurd hk (Nat.not_lt_zero _)
  | k + 1, hk => by
    by_cases e : t = k
    · subst e
      rw [mls_t hm]
      exact List.mem_append_right _ (List.mem_singleton_self _)
    · have ih := mem_mls hm k (by omega)
      by_cases c : kM w h x k = true
      · rw [mls_t c]; exact List.mem_append_left _ ih
      · rw [mls_f (by simpa using c)]; exact ih
theorem max_ex (hw : 2 ≤ w ∧ w ≤ 7 ∧ 2 ≤ h ∧ h ≤ 7) (hF : FOK w h fw fc fwh fbo fra fst fco fro) (x : Int64) : ∀ (m f l : Nat), f < w * h → l < w * h → isB w x f l = true → 64 - pcn (rcv w f l) < m → ∃ b, b ∈ mls w h x (w * h * (w * h)) ∧ ∀ j, bt64 (rcv w f l) j = true → bt64 b j = true := by
  intro m
  induction m with
  | zero => intro f l h1 h2 h3 h4; omega
  | succ m ih =>
    intro f l h1 h2 h3 h4
    cases hc : cwd w h x f l
    · refine ⟨kR w h (f * (w * h) + l), mem_mls (by rw [kM_at w h x f h2]; exact isM_iff.mpr ⟨h3, hc⟩) _ (co_lt h2 h1), ?_⟩
      rw [kR_at w h f h2]
      exact fun _ => id
    · obtain ⟨f', l', f1, l1, b1, b2, p1⟩ := wider hw hF x h1 h2 h3 hc
      have := pcn_le (rcv w f' l')
      obtain ⟨b, c1, c2⟩ := ih f' l' f1 l1 b1 (by omega)
      exact ⟨b, c1, fun j hj => c2 j (b2 j hj)⟩
theorem cell_ex (hw : 2 ≤ w ∧ w ≤ 7 ∧ 2 ≤ h ∧ h ≤ 7) (hF : FOK w h fw fc fwh fbo fra fst fco fro) (x : Int64) {e : Nat} (he : e < w * h) (hb : bt64 x e = true) : ∃ b, b ∈ mls w h x (w * h * (w * h)) ∧ bt64 b e = true := by
  have g := (rcv_both hw hF he he (Nat.le_refl _)).2.2
  have hB : isB w x e e = true := by
    refine isB_iff.mpr ⟨⟨Nat.le_refl _, Nat.le_refl _⟩, sbb_iff.mpr (fun j hj => ?_)⟩
    have := (rc_iff (show 0 < w by omega)).mp ((g j).mp hj)
    rw [show j = e by omega]
    exact hb
  obtain ⟨b, b1, b2⟩ := max_ex hw hF x 65 e e he he hB (by omega)
  exact ⟨b, b1, b2 e (rcv_self hw hF he he (Nat.le_refl _) (Nat.le_refl _)).1⟩
theorem cover_ex (hw : 2 ≤ w ∧ w ≤ 7 ∧ 2 ≤ h ∧ h ≤ 7) (hF : FOK w h fw fc fwh fbo fra fst fco fro) {x : Int64} (hx : ∀ i, bt64 x i = true → i < w * h) : ∀ (m : Nat) (o : Int64), (∀ i, bt64 o i = true → bt64 x i = true) → pcn o ≤ m → CV (mls w h x (w * h * (w * h))) m o := by
  intro m
  induction m with
  | zero => intro o h1 h2; rw [pcn_0 (show pcn o = 0 by omega)]; exact CV.nil _ _
  | succ m ih =>
    intro o h1 h2
    by_cases oz : o = 0
    · rw [oz]; exact CV.nil _ _
    · obtain ⟨e, -, e2⟩ := ne0_ex oz
      obtain ⟨b, b1, b2⟩ := cell_ex hw hF x (hx e (h1 e e2)) (h1 e e2)
      refine (cv_step e2).mpr ⟨b, b1, b2, ih _ (fun i hi => ?_) ?_⟩
      · rw [bt_andn, Bool.and_eq_true] at hi; exact h1 i hi.1
      · have : pcn (o &&& (b ^^^ -1)) < pcn o := pcn_sub (fun i hi => by rw [bt_andn, Bool.and_eq_true] at hi; exact hi.1) (fun eq => by
          have : bt64 (o &&& (b ^^^ -1)) e = true := by rw [eq]; exact e2
          rw [bt_andn, b2, e2] at this
          cases this)
        omega
end
theorem eq_covered {n : Nat} {xpi : Nat → Int64} {gs0 : Int32} {ga0 : Nat → Int32} {gs1 : Int32} {ga1 : Nat → Int32} {gs2 : Int32} {ga2 : Nat → Int32} {ijn : Int32} {rsz : Int32} {rhi : Nat → Int32} {rmi : Nat → Int32} {bsz : Int32} {bwi : Nat → Int64} {srim : Int32} {sst : Nat → Int32} {fw : Int32} {fc : Int32} {fwh : Int64} {fbo : Int64} {fra : Nat → Int32} {fst : Nat → Int64} {fco : Nat → Int32} {fro : Nat → Int32} {mw : Int32} {mt : Int32} {mrim : Int32} {mjn : Int32} {mpn : Int32} {mbm : Int32} {mgm : Int32} {mpi : Nat → Int64} {mst : Nat → Int32} {mam : Nat → Int32} {mac : Nat → Int32} {mhi : Nat → Int32} {mmi : Nat → Int32} {mgr : Nat → Int64} {mtr : Nat → Int32} {mle : Nat → Int64} (hn : 10 ^ 80 ≤ n) (hI : Inv fw fc fwh fbo fra fst fco fro srim sst gs0 gs1 gs2 ga0 ga1 ga2 ijn rsz rhi rmi xpi mw mt mrim mjn mpn mpi mst mam mac mhi mmi) (a1 : Int32) : ∃ (r : Int32) (y_bsz : Int32) (y_bwi : Nat → Int64) (y_mbm : Int32) (y_mgm : Int32) (y_mgr : Nat → Int64) (y_mtr : Nat → Int32) (y_mle : Nat → Int64), mX7_covered n bsz bwi xpi fc fco fro fw fst fra a1 = some (r, y_bsz, y_bwi) ∧ mX8_covered n mbm mgm mgr mtr mle mpi mw mt a1 = some (r, y_mbm, y_mgm, y_mgr, y_mtr, y_mle) ∧ Inv fw fc fwh fbo fra fst fco fro srim sst gs0 gs1 gs2 ga0 ga1 ga2 ijn rsz rhi rmi xpi mw mt mrim mjn mpn mpi mst mam mac mhi mmi := by
  obtain ⟨w, h, hwh, rfl, rfl, hF, hPic, hrest⟩ := id hI
  obtain ⟨rfl, rfl, -⟩ := id hF
  have hb := wh_lt hwh
  unfold mX7_covered mX8_covered
  rcases pic_cases a1 with ⟨p1, p2⟩ | ⟨j, hj, rfl, p1, p2⟩
  · exact ⟨-1, bsz, bwi, mbm, mgm, mgr, mtr, mle, by rw [if_pos p1], by rw [if_pos p2], hI⟩
  · have n1 : ¬ mX7_isPicture (nI j) = 0 := by rw [p1]; decide
    have n2 : ¬ mX8_isPicture (nI j) = 0 := by rw [p2]; decide
    have bj : ib (nI j) 5 := ib_nI hj (by decide)
    have hpj := hPic j hj
    have h64 := pcn_le (mpi j)
    rw [if_neg n1, if_neg n2]
    simp only [gd_t bj, nI_clamp (show j < 2 ^ 31 by omega), hpj.1, bitCount_eq, many_eq hn, jb_s]
    by_cases hp : pcn (mpi j) ≤ 20
    · have c1 : nI (pcn (mpi j)) ≤ 20 := nI_le hp (by decide)
      obtain ⟨y, y1, y2⟩ := lay_eq hwh hF (mpi j) hn mgr
      obtain ⟨z, z1, z2⟩ := gather_eq hwh hF hp hn bwi
      have hL := mls_210 hwh hF hp (Nat.le_refl _)
      obtain ⟨r, r1, r2, r3⟩ := few_ok z2 hL (show w * h ≤ 49 by omega) hn 24 0 (pcn (mpi j)) (mpi j) rfl (by omega) hp hpj.2
      have r1 : mX0_fewest n (nI (w * h)) _ z 24 (mpi j) 0 (nI (pcn (mpi j))) = some (nI r) := r1
      have hcv := cover_ex hwh hF hpj.2 (pcn (mpi j)) (mpi j) (fun _ => id) (Nat.le_refl _)
      obtain ⟨r', tr, le, s1, s2, s3, s4⟩ := co_L y2 (by omega) hp hn hcv n 0 mtr (vp_updL mle 0 (mpi j)) (Nat.zero_le _) (by omega) (updL_s _ _ _) (fun t ht => absurd ht (Nat.not_lt_zero _))
      have s1 : mX8_covered_L50 n _ y n 0 mtr (vp_updL mle (0 : Int32).toNatClampNeg (mpi j)) = _ := s1
      have e : r = r' := by
        rcases Nat.lt_trichotomy r r' with c | c | c
        · exact absurd ((r3 r (by omega)).mp (Nat.le_refl _)).2 (s4 r c)
        · exact c
        · have := (r3 r' (by omega)).mpr ⟨Nat.zero_le _, s3⟩; omega
      subst e
      unfold mX0_fewestOver
      rw [if_pos c1, if_pos c1, z1, jb2_s, bitCount_eq, r1, jb_s, jb3_s, y1, jb3_s, gd_t (show ib (0 : Int32) 22 from ib_nI (j := 0) (by decide) (by decide)), s1, jb3_s]
      exact ⟨_, _, _, _, _, _, _, _, rfl, rfl, hI⟩
    · have c1 : ¬ nI (pcn (mpi j)) ≤ 20 := nI_ge (show 20 < pcn (mpi j) by omega) (by omega)
      rw [if_neg c1, if_neg c1]
      exact ⟨_, _, _, _, _, _, _, _, rfl, rfl, hI⟩
