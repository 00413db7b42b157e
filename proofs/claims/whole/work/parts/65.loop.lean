theorem lp_sub {L i : Nat} (hL : L ≤ 2560) (hi : i ≤ L) (h : ¬ Int32.ofNat L - 5 < nI i) : i + 5 ≤ L := by
  rw [Int32.lt_iff_toInt_lt] at h
  have e1 : (Int32.ofNat L).toInt = (L : Int) := nI_toInt (n := L) (by omega)
  have e2 : (nI i).toInt = (i : Int) := nI_toInt (by omega)
  have e3 : (5 : Int32).toInt = 5 := rfl
  have e4 : (Int32.ofNat L - 5).toInt = (L : Int) - 5 := by
    rw [Int32.toInt_sub, e1, e3]
    rw [Int.bmod_eq_of_le (by omega) (by omega)]
  omega
theorem lp_in {L i j : Nat} {x y : Int32} (hL : L ≤ 2560) (h : i + j < L) (ex : x = nI i) (ey : y = nI j) : vp_in (x + y) L := by
  subst ex; subst ey
  rw [nI_add]
  exact vp_in_nI h (by omega)
section
variable {p : Program} {l : Launch} {e : Env} {s : State} {m : MethodId} {below : List Frame} {meth : Method} {c : Code} {D : va_G} {cI cJ cG : ClassId} {oX : Nat} {oXp : Nat} {oXg : Nat} {oG0 : Nat} {oGa0 : Nat} {oG1 : Nat} {oGa1 : Nat} {oG2 : Nat} {oGa2 : Nat} {oQ : Nat} {oQw : Nat} {oI : Nat} {oR : Nat} {oRh : Nat} {oRm : Nat} {oB : Nat} {oBw : Nat} {oS : Nat} {oSs : Nat} {oF : Nat} {oFr : Nat} {oFs : Nat} {oFc : Nat} {oFw : Nat} {oM : Nat} {oM1 : Nat} {oM2 : Nat} {oM3 : Nat} {oM4 : Nat} {oM5 : Nat} {oM6 : Nat} {oM7 : Nat} {oM8 : Nat} {oM9 : Nat} {oM10 : Nat} {oM11 : Nat} {tS : Nat} {tA : Nat}
set_option maxHeartbeats 8000000 in
set_option maxRecDepth 100000 in
theorem law_loop {n b L : Nat} {xs : Nat → Int32} (hn : 10 ^ 80 ≤ n) (hL : L ≤ 2560) (C0 : lw_At p s m meth c b L xs) (hK : va_K D vwCl [(cI, .int), (cJ, .long), (cG, .object "WornShapes$Program")] s) (hZ : stZ (fun q : Nat => s.heap.size ≤ q) tS tA s s.heap) : ∀ (k i : Nat), i ≤ L → L + 1 ≤ i + k → ∀ (xpi : Nat → Int64) (gs0 : Int32) (ga0 : Nat → Int32) (gs1 : Int32) (ga1 : Nat → Int32) (gs2 : Int32) (ga2 : Nat → Int32) (qln : Int32) (qwy : Nat → Int32) (ijn : Int32) (rsz : Int32) (rhi : Nat → Int32) (rmi : Nat → Int32) (bsz : Int32) (bfi : Int32) (bla : Int32) (bar : Int32) (bwi : Nat → Int64) (srim : Int32) (sst : Nat → Int32) (fw : Int32) (fc : Int32) (fwh : Int64) (fbo : Int64) (fra : Nat → Int32) (fst : Nat → Int64) (fco : Nat → Int32) (fro : Nat → Int32) (mw : Int32) (mt : Int32) (mrim : Int32) (mjn : Int32) (mhm : Int32) (mpn : Int32) (mbm : Int32) (mgm : Int32) (mpi : Nat → Int64) (mst : Nat → Int32) (mam : Nat → Int32) (mac : Nat → Int32) (mro : Nat → Int32) (mbe : Nat → Int64) (mhi : Nat → Int32) (mmi : Nat → Int32) (mgr : Nat → Int64) (mtr : Nat → Int32) (mle : Nat → Int64), Inv fw fc fwh fbo fra fst fco fro srim sst gs0 gs1 gs2 ga0 ga1 ga2 ijn rsz rhi rmi xpi mw mt mrim mjn mpn mpi mst mam mac mhi mmi → ∀ (x3 : Int32), x3 = nI i → ∀ (ls : Array Slot), lv_has ls 4 [(3, .int x3), (2, .ref oM), (1, .ref oX), (0, .ref b)] → ∀ (H : Heap) (locs : List Loc), va_P D vwCl ((wdX cJ cG cI oX oXp oXg oG0 oGa0 oG1 oGa1 oG2 oGa2 oQ oQw oI oR oRh oRm oB oBw oS oSs oF oFr oFs oFc oFw xpi gs0 ga0 gs1 ga1 gs2 ga2 qln qwy ijn rsz rhi rmi bsz bfi bla bar bwi srim sst fw fc fwh fbo fra fst fco fro) ++ (wdM cJ cI oM oM1 oM2 oM3 oM4 oM5 oM6 oM7 oM8 oM9 oM10 oM11 mw mt mrim mjn mhm mpn mbm mgm mpi mst mam mac mro mbe mhi mmi mgr mtr mle)) H → va_D (fun q : Nat => s.heap.size ≤ q) ((wdX cJ cG cI oX oXp oXg oG0 oGa0 oG1 oGa1 oG2 oGa2 oQ oQw oI oR oRh oRm oB oBw oS oSs oF oFr oFs oFc oFw xpi gs0 ga0 gs1 ga1 gs2 ga2 qln qwy ijn rsz rhi rmi bsz bfi bla bar bwi srim sst fw fc fwh fbo fra fst fco fro) ++ (wdM cJ cI oM oM1 oM2 oM3 oM4 oM5 oM6 oM7 oM8 oM9 oM10 oM11 mw mt mrim mjn mhm mpn mbm mgm mpi mst mam mac mro mbe mhi mmi mgr mtr mle)) → va_S (fun q : Nat => s.heap.size ≤ q) s.heap H locs → W p l e room_1 s m #[Value.ref b] below meth c H locs 600000 7302250 (lw_Z below #[Value.ref b] s) (F0 m 18 ls []) := by
  obtain ⟨hx, hb, hr, hml, hown, hts0, hX, hbl, hlocks, hgv⟩ := C0
  have hb : c.code = cL_law := hb
  have hown : s.vm.findClass RL = some m.cls := hown
  have hts : ∀ w ∈ tw, w.before #[Value.ref b] s = true := fun w h => hts0 w (tw_sub h)
  have hA : ∀ q : Nat, s.heap.size ≤ q → (fun q : Nat => s.heap.size ≤ q) q := fun _ h => h
  have hbA : ¬ (fun q : Nat => s.heap.size ≤ q) b := Nat.not_le.mpr hbl
  have hR : 200 ≤ room_1.frames ∧ 8000 ≤ room_1.locals ∧ 600000 ≤ room_1.cells ∧ 7302250 ≤ room_1.slots := ⟨by decide, by decide, by decide, by decide⟩
  intro k
  induction k with
  | zero =>
    intro i h1 h2
    exact absurd h2 (by omega)
  | succ k ih =>
    intro i hi hik xpi gs0 ga0 gs1 ga1 gs2 ga2 qln qwy ijn rsz rhi rmi bsz bfi bla bar bwi srim sst fw fc fwh fbo fra fst fco fro mw mt mrim mjn mhm mpn mbm mgm mpi mst mam mac mro mbe mhi mmi mgr mtr mle hI x3 ex3 ls hl H locs hP hD hS
    refine lv_iload_n hx hb dL_law_18 rfl (lv_at hl 0 rfl) ?_
    refine lv_aload_n hx hb dL_law_19 rfl (lv_at hl 3 rfl) ?_
    refine va_slen hx hb hX hbl hbA hS dL_law_20 ?_
    refine lv_iconst (v := (5 : Int32)) hx hb dL_law_21 (by decide) ?_
    refine lv_isub hx hb dL_law_22 ?_
    refine lv_icmp_gt (tgt := 1250) hx hb dL_law_23 (by decide) (fun c1 => ?_) (fun c1 => ?_)
    · refine lv_iconst (v := (1 : Int32)) hx hb dL_law_1250 (by decide) ?_
      refine va_forget (fun q hq => hS.2.2 q hq) ?_
      exact lw_ret hx hb hr hlocks dL_law_1251
    · rw [ex3] at c1
      have hi5 := lp_sub hL hi c1
      have g0 : vp_in x3 L := by rw [ex3]; exact vp_in_nI (by omega) (by omega)
      have g1 : vp_in (x3 + 1) L := lp_in (j := 1) hL (by omega) ex3 rfl
      have g2 : vp_in (x3 + 2) L := lp_in (j := 2) hL (by omega) ex3 rfl
      have g3 : vp_in (x3 + 3) L := lp_in (j := 3) hL (by omega) ex3 rfl
      have g4 : vp_in (x3 + 4) L := lp_in (j := 4) hL (by omega) ex3 rfl
      refine lv_aload_n hx hb dL_law_26 rfl (lv_at hl 3 rfl) ?_
      refine lv_iload_n hx hb dL_law_27 rfl (lv_at hl 0 rfl) ?_
      refine va_sld hx hb hX hbl hbA hS g0 dL_law_28 ?_
      refine lv_bipush (v := (31 : Int32)) hx hb dL_law_29 (by decide) ?_
      refine lv_iand hx hb dL_law_31 ?_
      have KK : ∀ (xpi : Nat → Int64) (gs0 : Int32) (ga0 : Nat → Int32) (gs1 : Int32) (ga1 : Nat → Int32) (gs2 : Int32) (ga2 : Nat → Int32) (qln : Int32) (qwy : Nat → Int32) (ijn : Int32) (rsz : Int32) (rhi : Nat → Int32) (rmi : Nat → Int32) (bsz : Int32) (bfi : Int32) (bla : Int32) (bar : Int32) (bwi : Nat → Int64) (srim : Int32) (sst : Nat → Int32) (fw : Int32) (fc : Int32) (fwh : Int64) (fbo : Int64) (fra : Nat → Int32) (fst : Nat → Int64) (fco : Nat → Int32) (fro : Nat → Int32) (mw : Int32) (mt : Int32) (mrim : Int32) (mjn : Int32) (mhm : Int32) (mpn : Int32) (mbm : Int32) (mgm : Int32) (mpi : Nat → Int64) (mst : Nat → Int32) (mam : Nat → Int32) (mac : Nat → Int32) (mro : Nat → Int32) (mbe : Nat → Int64) (mhi : Nat → Int32) (mmi : Nat → Int32) (mgr : Nat → Int64) (mtr : Nat → Int32) (mle : Nat → Int64), Inv fw fc fwh fbo fra fst fco fro srim sst gs0 gs1 gs2 ga0 ga1 ga2 ijn rsz rhi rmi xpi mw mt mrim mjn mpn mpi mst mam mac mhi mmi → ∀ (ls : Array Slot), lv_has ls 4 [(3, .int x3), (2, .ref oM), (1, .ref oX), (0, .ref b)] → ∀ (H : Heap) (locs : List Loc), va_P D vwCl ((wdX cJ cG cI oX oXp oXg oG0 oGa0 oG1 oGa1 oG2 oGa2 oQ oQw oI oR oRh oRm oB oBw oS oSs oF oFr oFs oFc oFw xpi gs0 ga0 gs1 ga1 gs2 ga2 qln qwy ijn rsz rhi rmi bsz bfi bla bar bwi srim sst fw fc fwh fbo fra fst fco fro) ++ (wdM cJ cI oM oM1 oM2 oM3 oM4 oM5 oM6 oM7 oM8 oM9 oM10 oM11 mw mt mrim mjn mhm mpn mbm mgm mpi mst mam mac mro mbe mhi mmi mgr mtr mle)) H → va_D (fun q : Nat => s.heap.size ≤ q) ((wdX cJ cG cI oX oXp oXg oG0 oGa0 oG1 oGa1 oG2 oGa2 oQ oQw oI oR oRh oRm oB oBw oS oSs oF oFr oFs oFc oFw xpi gs0 ga0 gs1 ga1 gs2 ga2 qln qwy ijn rsz rhi rmi bsz bfi bla bar bwi srim sst fw fc fwh fbo fra fst fco fro) ++ (wdM cJ cI oM oM1 oM2 oM3 oM4 oM5 oM6 oM7 oM8 oM9 oM10 oM11 mw mt mrim mjn mhm mpn mbm mgm mpi mst mam mac mro mbe mhi mmi mgr mtr mle)) → va_S (fun q : Nat => s.heap.size ≤ q) s.heap H locs → W p l e room_1 s m #[Value.ref b] below meth c H locs 600000 7302250 (lw_Z below #[Value.ref b] s) (F0 m 1244 ls []) := by
        intro xpi gs0 ga0 gs1 ga1 gs2 ga2 qln qwy ijn rsz rhi rmi bsz bfi bla bar bwi srim sst fw fc fwh fbo fra fst fco fro mw mt mrim mjn mhm mpn mbm mgm mpi mst mam mac mro mbe mhi mmi mgr mtr mle hI ls hl H locs hP hD hS
        refine lv_iinc (v := x3 + 5) (lv' := [(3, .int (x3 + 5)), (2, .ref oM), (1, .ref oX), (0, .ref b)]) hx hb dL_law_1244 hl (k := 0) rfl (by rfl) (by decide) rfl (fun ls hl => ?_)
        refine lv_goto (tgt := 18) hx hb dL_law_1247 (by decide) ?_
        exact ih (i + 5) (by omega) (by omega) _ _ _ _ _ _ _ _ _ _ _ _ _ _ _ _ _ _ _ _ _ _ _ _ _ _ _ _ _ _ _ _ _ _ _ _ _ _ _ _ _ _ _ _ _ _ _ hI (x3 + 5) (by rw [ex3, ← nI_add]; rfl) ls hl H locs hP hD hS
      obtain ⟨j, hj, ej⟩ := pk_andE (xs x3.toNatClampNeg) (m := 31) 5 (by decide)
      rw [ej]
      match j, hj with
      | 0, _ =>
        refine lv_tableIn (tgt := 172) hx hb dL_law_32 (by decide) (by decide) (by rfl) (by decide) ?_
        exact lc_field hx hb hml hown hts hK hZ hA hX hbl hbA hR hn g1 g2 g3 g4 hI ls hl hP hD hS KK
      | 1, _ =>
        refine lv_tableIn (tgt := 205) hx hb dL_law_32 (by decide) (by decide) (by rfl) (by decide) ?_
        exact lc_ink hx hb hml hown hts hK hZ hA hX hbl hbA hR hn g1 g2 g3 g4 hI ls hl hP hD hS KK
      | 2, _ =>
        refine lv_tableIn (tgt := 264) hx hb dL_law_32 (by decide) (by decide) (by rfl) (by decide) ?_
        exact lc_box hx hb hml hown hts hK hZ hA hX hbl hbA hR hn g1 g2 g3 g4 hI ls hl hP hD hS KK
      | 3, _ =>
        refine lv_tableIn (tgt := 333) hx hb dL_law_32 (by decide) (by decide) (by rfl) (by decide) ?_
        exact lc_at hx hb hml hown hts hK hZ hA hX hbl hbA hR hn g1 g2 g3 g4 hI ls hl hP hD hS KK
      | 4, _ =>
        refine lv_tableIn (tgt := 366) hx hb dL_law_32 (by decide) (by decide) (by rfl) (by decide) ?_
        exact lc_number hx hb hml hown hts hK hZ hA hX hbl hbA hR hn g1 g2 g3 g4 hI ls hl hP hD hS KK
      | 5, _ =>
        refine lv_tableIn (tgt := 390) hx hb dL_law_32 (by decide) (by decide) (by rfl) (by decide) ?_
        exact lc_stamp hx hb hml hown hts hK hZ hA hX hbl hbA hR hn g1 g2 g3 g4 hI ls hl hP hD hS KK
      | 6, _ =>
        refine lv_tableIn (tgt := 423) hx hb dL_law_32 (by decide) (by decide) (by rfl) (by decide) ?_
        exact lc_rule hx hb hml hown hts hK hZ hA hX hbl hbA hR hn g1 g2 g3 g4 hI ls hl hP hD hS KK
      | 7, _ =>
        refine lv_tableIn (tgt := 456) hx hb dL_law_32 (by decide) (by decide) (by rfl) (by decide) ?_
        exact lc_mix hx hb hml hown hts hK hZ hA hX hbl hbA hR hn g1 g2 g3 g4 hI ls hl hP hD hS KK
      | 8, _ =>
        refine lv_tableIn (tgt := 509) hx hb dL_law_32 (by decide) (by decide) (by rfl) (by decide) ?_
        exact lc_act hx hb hml hown hts hK hZ hA hX hbl hbA hR hn g1 g2 g3 g4 hI ls hl hP hD hS KK
      | 9, _ =>
        refine lv_tableIn (tgt := 542) hx hb dL_law_32 (by decide) (by decide) (by rfl) (by decide) ?_
        exact lc_would hx hb hml hown hts hK hZ hA hX hbl hbA hR hn g1 g2 g3 g4 hI ls hl hP hD hS KK
      | 10, _ =>
        refine lv_tableIn (tgt := 575) hx hb dL_law_32 (by decide) (by decide) (by rfl) (by decide) ?_
        exact lc_add hx hb hml hown hts hK hZ hA hX hbl hbA hR hn g1 g2 g3 g4 hI ls hl hP hD hS KK
      | 11, _ =>
        refine lv_tableIn (tgt := 608) hx hb dL_law_32 (by decide) (by decide) (by rfl) (by decide) ?_
        exact lc_clear hx hb hml hown hts hK hZ hA hX hbl hbA hR hn g1 g2 g3 g4 hI ls hl hP hD hS KK
      | 12, _ =>
        refine lv_tableIn (tgt := 631) hx hb dL_law_32 (by decide) (by decide) (by rfl) (by decide) ?_
        exact lc_run hx hb hml hown hts hK hZ hA hX hbl hbA hR hn g1 g2 g3 g4 hI ls hl hP hD hS KK
      | 13, _ =>
        refine lv_tableIn (tgt := 664) hx hb dL_law_32 (by decide) (by decide) (by rfl) (by decide) ?_
        exact lc_shortest hx hb hml hown hts hK hZ hA hX hbl hbA hR hn g1 g2 g3 g4 hI ls hl hP hD hS KK
      | 14, _ =>
        refine lv_tableIn (tgt := 697) hx hb dL_law_32 (by decide) (by decide) (by rfl) (by decide) ?_
        exact lc_step hx hb hml hown hts hK hZ hA hX hbl hbA hR hn g1 g2 g3 g4 hI ls hl hP hD hS KK
      | 15, _ =>
        refine lv_tableIn (tgt := 740) hx hb dL_law_32 (by decide) (by decide) (by rfl) (by decide) ?_
        exact lc_differ hx hb hml hown hts hK hZ hA hX hbl hbA hR hn g1 g2 g3 g4 hI ls hl hP hD hS KK
      | 16, _ =>
        refine lv_tableIn (tgt := 773) hx hb dL_law_32 (by decide) (by decide) (by rfl) (by decide) ?_
        exact lc_count hx hb hml hown hts hK hZ hA hX hbl hbA hR hn g1 g2 g3 g4 hI ls hl hP hD hS KK
      | 17, _ =>
        refine lv_tableIn (tgt := 806) hx hb dL_law_32 (by decide) (by decide) (by rfl) (by decide) ?_
        exact lc_piece hx hb hml hown hts hK hZ hA hX hbl hbA hR hn g1 g2 g3 g4 hI ls hl hP hD hS KK
      | 18, _ =>
        refine lv_tableIn (tgt := 839) hx hb dL_law_32 (by decide) (by decide) (by rfl) (by decide) ?_
        exact lc_keep hx hb hml hown hts hK hZ hA hX hbl hbA hR hn g1 g2 g3 g4 hI ls hl hP hD hS KK
      | 19, _ =>
        refine lv_tableIn (tgt := 872) hx hb dL_law_32 (by decide) (by decide) (by rfl) (by decide) ?_
        exact lc_fill hx hb hml hown hts hK hZ hA hX hbl hbA hR hn g1 g2 g3 g4 hI ls hl hP hD hS KK
      | 20, _ =>
        refine lv_tableIn (tgt := 895) hx hb dL_law_32 (by decide) (by decide) (by rfl) (by decide) ?_
        exact lc_pair hx hb hml hown hts hK hZ hA hX hbl hbA hR hn g1 g2 g3 g4 hI ls hl hP hD hS KK
      | 21, _ =>
        refine lv_tableIn (tgt := 928) hx hb dL_law_32 (by decide) (by decide) (by rfl) (by decide) ?_
        exact lc_forget hx hb hml hown hts hK hZ hA hX hbl hbA hR hn g1 g2 g3 g4 hI ls hl hP hD hS KK
      | 22, _ =>
        refine lv_tableIn (tgt := 941) hx hb dL_law_32 (by decide) (by decide) (by rfl) (by decide) ?_
        exact lc_hits hx hb hml hown hts hK hZ hA hX hbl hbA hR hn g1 g2 g3 g4 hI ls hl hP hD hS KK
      | 23, _ =>
        refine lv_tableIn (tgt := 974) hx hb dL_law_32 (by decide) (by decide) (by rfl) (by decide) ?_
        exact lc_thin hx hb hml hown hts hK hZ hA hX hbl hbA hR hn g1 g2 g3 g4 hI ls hl hP hD hS KK
      | 24, _ =>
        refine lv_tableIn (tgt := 997) hx hb dL_law_32 (by decide) (by decide) (by rfl) (by decide) ?_
        exact lc_deep hx hb hml hown hts hK hZ hA hX hbl hbA hR hn g1 g2 g3 g4 hI ls hl hP hD hS KK
      | 25, _ =>
        refine lv_tableIn (tgt := 1040) hx hb dL_law_32 (by decide) (by decide) (by rfl) (by decide) ?_
        exact lc_explains hx hb hml hown hts hK hZ hA hX hbl hbA hR hn g1 g2 g3 g4 hI ls hl hP hD hS KK
      | 26, _ =>
        refine lv_tableIn (tgt := 1073) hx hb dL_law_32 (by decide) (by decide) (by rfl) (by decide) ?_
        exact lc_least hx hb hml hown hts hK hZ hA hX hbl hbA hR hn g1 g2 g3 g4 hI ls hl hP hD hS KK
      | 27, _ =>
        refine lv_tableIn (tgt := 1106) hx hb dL_law_32 (by decide) (by decide) (by rfl) (by decide) ?_
        exact lc_boxes hx hb hml hown hts hK hZ hA hX hbl hbA hR hn g1 g2 g3 g4 hI ls hl hP hD hS KK
      | 28, _ =>
        refine lv_tableIn (tgt := 1155) hx hb dL_law_32 (by decide) (by decide) (by rfl) (by decide) ?_
        exact lc_greatest hx hb hml hown hts hK hZ hA hX hbl hbA hR hn g1 g2 g3 g4 hI ls hl hP hD hS KK
      | 29, _ =>
        refine lv_tableIn (tgt := 1188) hx hb dL_law_32 (by decide) (by decide) (by rfl) (by decide) ?_
        exact lc_covered hx hb hml hown hts hK hZ hA hX hbl hbA hR hn g1 g2 g3 g4 hI ls hl hP hD hS KK
      | 30, _ =>
        refine lv_tableIn (tgt := 1211) hx hb dL_law_32 (by decide) (by decide) (by rfl) (by decide) ?_
        exact lc_alone hx hb hml hown hts hK hZ hA hX hbl hbA hR hn g1 g2 g3 g4 hI ls hl hP hD hS KK
      | 31, _ =>
        refine lv_tableOut (tgt := 1244) hx hb dL_law_32 (Or.inr (by decide)) (by decide) ?_
        exact KK _ _ _ _ _ _ _ _ _ _ _ _ _ _ _ _ _ _ _ _ _ _ _ _ _ _ _ _ _ _ _ _ _ _ _ _ _ _ _ _ _ _ _ _ _ _ _ hI ls hl H locs hP hD hS
      | j + 32, h => exact absurd h (by omega)
end
