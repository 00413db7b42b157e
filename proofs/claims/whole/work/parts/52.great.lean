section
variable {w h : Nat} {fw fc : Int32} {fwh fbo : Int64} {fra fco fro : Nat → Int32} {fst : Nat → Int64}
theorem rcv_co (hw : 2 ≤ w ∧ w ≤ 7 ∧ 2 ≤ h ∧ h ≤ 7) (hF : FOK w h fw fc fwh fbo fra fst fco fro) {fx fy lx ly : Nat} (h1 : fx < w) (h2 : fy < h) (h3 : lx < w) (h4 : ly < h) (j : Nat) : bt64 (rcv w (fy * w + fx) (ly * w + lx)) j = true ↔ (fx ≤ j % w ∧ j % w ≤ lx ∧ fy ≤ j / w ∧ j / w ≤ ly) := by
  rw [(rcv_both hw hF (co_lt h1 h2) (co_lt h3 h4) (Nat.le_refl _)).2.2 j]
  unfold RcP
  rw [co_mod _ h1, co_mod _ h3, co_div _ h1, co_div _ h3]
theorem widen_to (hw : 2 ≤ w ∧ w ≤ 7 ∧ 2 ≤ h ∧ h ≤ 7) (hF : FOK w h fw fc fwh fbo fra fst fco fro) (x : Int64) {fx fy lx ly gx gy mx my : Nat} (h1 : fx ≤ lx) (h2 : fy ≤ ly) (k1 : gx ≤ fx) (k2 : gy ≤ fy) (k3 : lx ≤ mx) (k4 : ly ≤ my) (k5 : mx < w) (k6 : my < h) (hs : gx < fx ∨ gy < fy ∨ lx < mx ∨ ly < my) (hin : ∀ a b, gx ≤ a → a ≤ mx → gy ≤ b → b ≤ my → bt64 x (b * w + a) = true) : ∃ f' l', f' < w * h ∧ l' < w * h ∧ isB w x f' l' = true ∧ (∀ j, bt64 (rcv w (fy * w + fx) (ly * w + lx)) j = true → bt64 (rcv w f' l') j = true) ∧ pcn (rcv w (fy * w + fx) (ly * w + lx)) < pcn (rcv w f' l') := by
  have hsub : ∀ j, bt64 (rcv w (fy * w + fx) (ly * w + lx)) j = true → bt64 (rcv w (gy * w + gx) (my * w + mx)) j = true := by
    intro j hj
    rw [rcv_co hw hF (by omega) (by omega) (by omega) (by omega)] at hj
    rw [rcv_co hw hF (by omega) (by omega) k5 k6]
    omega
  refine ⟨gy * w + gx, my * w + mx, co_lt (by omega) (by omega), co_lt k5 k6, ?_, hsub, ?_⟩
  · rw [isB_iff, co_mod gy (show gx < w by omega), co_div gy (show gx < w by omega), co_mod my k5, co_div my k5]
    exact ⟨⟨by omega, by omega⟩, (alI_co hw hF x (by omega) (by omega) k5 k6).mpr hin⟩
  · refine pcn_sub hsub (fun e => ?_)
    have c1 : bt64 (rcv w (gy * w + gx) (my * w + mx)) (gy * w + gx) = true := by
      rw [rcv_co hw hF (by omega) (by omega) k5 k6, co_mod gy (show gx < w by omega), co_div gy (show gx < w by omega)]; omega
    have c2 : bt64 (rcv w (gy * w + gx) (my * w + mx)) (my * w + mx) = true := by
      rw [rcv_co hw hF (by omega) (by omega) k5 k6, co_mod my k5, co_div my k5]; omega
    rw [← e, rcv_co hw hF (by omega) (by omega) (by omega) (by omega)] at c1 c2
    rw [co_mod gy (show gx < w by omega), co_div gy (show gx < w by omega)] at c1
    rw [co_mod my k5, co_div my k5] at c2
    omega
theorem wider (hw : 2 ≤ w ∧ w ≤ 7 ∧ 2 ≤ h ∧ h ≤ 7) (hF : FOK w h fw fc fwh fbo fra fst fco fro) (x : Int64) {f l : Nat} (hf : f < w * h) (hl : l < w * h) (hB : isB w x f l = true) (hc : cwd w h x f l = true) : ∃ f' l', f' < w * h ∧ l' < w * h ∧ isB w x f' l' = true ∧ (∀ j, bt64 (rcv w f l) j = true → bt64 (rcv w f' l') j = true) ∧ pcn (rcv w f l) < pcn (rcv w f' l') := by
  have df := dm_lt hf (show 0 < w by omega)
  have dl := dm_lt hl (show 0 < w by omega)
  have ef := co_eq w f
  have el := co_eq w l
  obtain ⟨⟨hx, hy⟩, hal⟩ := isB_iff.mp hB
  generalize f % w = fx at *
  generalize f / w = fy at *
  generalize l % w = lx at *
  generalize l / w = ly at *
  subst ef el
  have hin := (alI_co hw hF x df.1 df.2 dl.1 dl.2).mp hal
  rcases (cwd_iff hw hF x hx hy dl.1 dl.2).mp hc with ⟨g1, g2⟩ | ⟨g1, g2⟩ | ⟨g1, g2⟩ | ⟨g1, g2⟩
  · refine widen_to hw hF x (gx := fx - 1) (gy := fy) (mx := lx) (my := ly) hx hy (by omega) (by omega) (by omega) (by omega) dl.1 dl.2 (by omega) (fun a b q1 q2 q3 q4 => ?_)
    by_cases e : a = fx - 1
    · subst e; exact g2 b q3 q4
    · exact hin a b (by omega) q2 q3 q4
  · refine widen_to hw hF x (gx := fx) (gy := fy) (mx := lx + 1) (my := ly) hx hy (by omega) (by omega) (by omega) (by omega) g1 dl.2 (by omega) (fun a b q1 q2 q3 q4 => ?_)
    by_cases e : a = lx + 1
    · subst e; exact g2 b q3 q4
    · exact hin a b q1 (by omega) q3 q4
  · refine widen_to hw hF x (gx := fx) (gy := fy - 1) (mx := lx) (my := ly) hx hy (by omega) (by omega) (by omega) (by omega) dl.1 dl.2 (by omega) (fun a b q1 q2 q3 q4 => ?_)
    by_cases e : b = fy - 1
    · subst e; exact g2 a q1 q2
    · exact hin a b q1 q2 (by omega) q4
  · refine widen_to hw hF x (gx := fx) (gy := fy) (mx := lx) (my := ly + 1) hx hy (by omega) (by omega) (by omega) (by omega) dl.1 g1 (by omega) (fun a b q1 q2 q3 q4 => ?_)
    by_cases e : b = ly + 1
    · subst e; exact g2 a q1 q2
    · exact hin a b q1 q2 q3 (by omega)
def GP (w h : Nat) (x : Int64) (k : Nat) (b l : Int32) (A : Nat) : Prop := (A = 0 ∧ ∀ i, i < k → kB w h x i = false) ∨ ∃ t, t < k ∧ kB w h x t = true ∧ b = nI (t / (w * h)) ∧ l = nI (t % (w * h)) ∧ A = pcn (kR w h t) ∧ (∀ i, i < k → kB w h x i = true → pcn (kR w h i) ≤ pcn (kR w h t)) ∧ (∀ i, i < t → kB w h x i = true → pcn (kR w h i) < pcn (kR w h t))
theorem GP.no {x : Int64} {k A : Nat} {b l : Int32} (g : GP w h x k b l A) (hk : kB w h x k = false) : GP w h x (k + 1) b l A := by
  rcases g with ⟨g1, g2⟩ | ⟨t, t1, t2, t3, t4, t5, t6, t7⟩
  · refine Or.inl ⟨g1, fun i hi => ?_⟩
    by_cases e : i = k
    · subst e; exact hk
    · exact g2 i (by omega)
  · refine Or.inr ⟨t, by omega, t2, t3, t4, t5, fun i hi hb => ?_, t7⟩
    by_cases e : i = k
    · subst e; rw [hk] at hb; cases hb
    · exact t6 i (by omega) hb
theorem GP.le {x : Int64} {k A : Nat} {b l : Int32} (g : GP w h x k b l A) (hp : 0 < pcn (kR w h k)) (hle : pcn (kR w h k) ≤ A) : GP w h x (k + 1) b l A := by
  rcases g with ⟨g1, g2⟩ | ⟨t, t1, t2, t3, t4, t5, t6, t7⟩
  · omega
  · refine Or.inr ⟨t, by omega, t2, t3, t4, t5, fun i hi hb => ?_, t7⟩
    by_cases e : i = k
    · subst e; omega
    · exact t6 i (by omega) hb
theorem GP.gt {x : Int64} {k A : Nat} {b l : Int32} (g : GP w h x k b l A) (hk : kB w h x k = true) (hlt : A < pcn (kR w h k)) : GP w h x (k + 1) (nI (k / (w * h))) (nI (k % (w * h))) (pcn (kR w h k)) := by
  have hall : ∀ i, i < k → kB w h x i = true → pcn (kR w h i) < pcn (kR w h k) := by
    intro i hi hb
    rcases g with ⟨g1, g2⟩ | ⟨t, t1, t2, t3, t4, t5, t6, t7⟩
    · rw [g2 i hi] at hb; cases hb
    · have := t6 i hi hb; omega
  refine Or.inr ⟨k, by omega, hk, rfl, rfl, rfl, fun i hi hb => ?_, hall⟩
  by_cases e : i = k
  · subst e; exact Nat.le_refl _
  · exact Nat.le_of_lt (hall i (by omega) hb)
theorem pcn_00 : pcn 0 = 0 := cnt_false (fun i _ => bt_0 i)
theorem pcn_pos {x : Int64} (h0 : ¬ x = 0) : 0 < pcn x := by
  rcases Nat.eq_zero_or_pos (pcn x) with e | e
  · exact absurd (pcn_0 e) h0
  · exact e
theorem fg_in (hw : 2 ≤ w ∧ w ≤ 7 ∧ 2 ≤ h ∧ h ≤ 7) (hF : FOK w h fw fc fwh fbo fra fst fco fro) (x : Int64) {n : Nat} (hn : 10 ^ 80 ≤ n) {f : Nat} (hf : f < w * h) : ∀ (q l : Nat) (b la : Int32) (A : Nat), l ≤ w * h → w * h - l < q → A ≤ 64 → GP w h x (f * (w * h) + l) b la A → ∃ b' l' A', mX0_findGreatest_L21 n (nI (w * h)) fco fro fw (nI f) x q (nI l) b la (nI A) = some (b', l', nI A') ∧ A' ≤ 64 ∧ GP w h x (f * (w * h) + w * h) b' l' A' := by
  have hb := wh_lt hw
  intro q
  induction q with
  | zero => intro l b la A h0 h1; omega
  | succ q ih =>
    intro l b la A h0 h1 hA hG
    rw [mX0_findGreatest_L21]
    by_cases hl : l = w * h
    · rw [hl, if_pos (Int32.le_refl _)]
      rw [hl] at hG
      exact ⟨_, _, _, rfl, hA, hG⟩
    · have hlt : l < w * h := by omega
      rw [if_neg (nI_ge hlt (by omega)), between_eq hw hF x hf hlt hn, jb_s, bitCount_eq, nI_1 l]
      have kb := kB_at w h x f hlt
      have kr := kR_at w h f hlt
      have hp64 := pcn_le (bv w x f l)
      rw [bv_eq hw hF x hf hlt] at *
      by_cases b1 : isB w x f l = true
      · rw [if_pos b1] at *
        have hpos := pcn_pos (rcv_ne0 hw hF hf hlt b1)
        by_cases c : pcn (rcv w f l) ≤ A
        · rw [if_pos (nI_le c (by omega)), jb3_s]
          exact ih (l + 1) b la A (by omega) (by omega) hA (hG.le (by rw [kr]; exact hpos) (by rw [kr]; exact c))
        · rw [if_neg (nI_ge (show A < pcn (rcv w f l) by omega) (by omega)), jb3_s]
          refine ih (l + 1) _ _ _ (by omega) (by omega) hp64 ?_
          have := hG.gt (by rw [kb]; exact b1) (by rw [kr]; omega)
          rw [kr, co_div _ hlt, co_mod _ hlt] at this
          exact this
      · rw [if_neg b1, pcn_00, if_pos (show nI 0 ≤ nI A from nI_le (Nat.zero_le _) (by omega)), jb3_s]
        exact ih (l + 1) b la A (by omega) (by omega) hA (hG.no (by rw [kb]; simpa using b1))
theorem GP.skip {x : Int64} {f : Nat} (hf : f < w * h) {b l : Int32} {A : Nat} (g : GP w h x (f * (w * h)) b l A) : ∀ d, d ≤ f → GP w h x (f * (w * h) + d) b l A
  | 0, _ => g
  | d + 1, hd => (GP.skip hf g d (by omega)).no (by rw [kB_at w h x f (show d < w * h by omega)]; exact isB_lt (by omega))
theorem fg_out (hw : 2 ≤ w ∧ w ≤ 7 ∧ 2 ≤ h ∧ h ≤ 7) (hF : FOK w h fw fc fwh fbo fra fst fco fro) (x : Int64) {n : Nat} (hn : 10 ^ 80 ≤ n) : ∀ (q f : Nat) (b la : Int32) (A : Nat), f ≤ w * h → w * h - f < q → A ≤ 64 → GP w h x (f * (w * h)) b la A → ∃ b' l' A', mX0_findGreatest_L7 n (nI (w * h)) fco fro fw x q (nI f) b la (nI A) = some (b', l', nI A') ∧ A' ≤ 64 ∧ GP w h x (w * h * (w * h)) b' l' A' := by
  have hb := wh_lt hw
  intro q
  induction q with
  | zero => intro f b la A h0 h1; omega
  | succ q ih =>
    intro f b la A h0 h1 hA hG
    rw [mX0_findGreatest_L7]
    by_cases hl : f = w * h
    · rw [hl, if_pos (Int32.le_refl _)]
      rw [hl] at hG
      exact ⟨_, _, _, rfl, hA, hG⟩
    · have hlt : f < w * h := by omega
      obtain ⟨b1, l1, A1, e1, e2, e3⟩ := fg_in hw hF x hn hlt n f b la A (by omega) (by omega) hA (hG.skip hlt f (Nat.le_refl _))
      rw [if_neg (nI_ge hlt (by omega)), e1, jb3_s, nI_1 f]
      rw [← Nat.succ_mul] at e3
      exact ih (f + 1) b1 l1 A1 (by omega) (by omega) e2 e3
def gfs (v b : Int64) : Int64 := if pcn b ≤ pcn v then v else b
def gf (L : List Int64) : Int64 := L.foldl gfs 0
theorem gf_app (L : List Int64) (b : Int64) : gf (L ++ [b]) = gfs (gf L) b := by unfold gf; rw [List.foldl_append]; rfl
theorem gr_L {L : List Int64} {mgr : Nat → Int64} (hg : AG mgr L) (hL : L.length ≤ 784) {n : Nat} (hn : 10 ^ 80 ≤ n) : ∀ (q i : Nat), i ≤ L.length → L.length - i < q → mX8_greatest_L39 n (nI L.length) mgr q (gf (L.take i)) (nI i) = some (gf L) := by
  intro q
  induction q with
  | zero => intro l h0 h1; omega
  | succ q ih =>
    intro i h0 h1
    rw [mX8_greatest_L39]
    by_cases hi : i = L.length
    · rw [hi, if_pos (Int32.le_refl _), List.take_length]
    · have hlt : i < L.length := by omega
      have hgi := hg i hlt
      rw [List.getD_eq_getElem?_getD, List.getElem?_eq_getElem hlt] at hgi
      have hgi : mgr i = L[i] := hgi
      have bi : ib (nI i) 800 := ib_nI (show i < 800 by omega) (by decide)
      have p1 := pcn_le (mgr i)
      have p2 := pcn_le (gf (L.take i))
      have ih := ih (i + 1) (by omega) (by omega)
      rw [List.take_succ_eq_append_getElem hlt, gf_app, ← hgi] at ih
      unfold gfs at ih
      rw [if_neg (nI_ge hlt (by omega)), gd_t bi, gd_t bi, nI_clamp (by omega), many_eq hn, many_eq hn, jb_s, jb_s, nI_1 i]
      by_cases c : pcn (mgr i) ≤ pcn (gf (L.take i))
      · rw [if_pos c] at ih
        rw [if_pos (nI_le c (by omega)), jb_s]
        exact ih
      · rw [if_neg c] at ih
        rw [if_neg (nI_ge (show pcn (gf (L.take i)) < pcn (mgr i) by omega) (by omega)), jb_s]
        exact ih
def QP (w h : Nat) (x : Int64) (k : Nat) (v : Int64) : Prop := (v = 0 ∧ ∀ i, i < k → kM w h x i = false) ∨ ∃ t, t < k ∧ kM w h x t = true ∧ v = kR w h t ∧ (∀ i, i < k → kM w h x i = true → pcn (kR w h i) ≤ pcn (kR w h t)) ∧ (∀ i, i < t → kM w h x i = true → pcn (kR w h i) < pcn (kR w h t))
theorem kR_pos (hw : 2 ≤ w ∧ w ≤ 7 ∧ 2 ≤ h ∧ h ≤ 7) (hF : FOK w h fw fc fwh fbo fra fst fco fro) {x : Int64} {k : Nat} (hk : k < w * h * (w * h)) (g : kB w h x k = true) : ¬ kR w h k = 0 := rcv_ne0 hw hF (Nat.div_lt_of_lt_mul hk) (Nat.mod_lt _ (by have := wh_lt hw; omega)) g
theorem qp_all (hw : 2 ≤ w ∧ w ≤ 7 ∧ 2 ≤ h ∧ h ≤ 7) (hF : FOK w h fw fc fwh fbo fra fst fco fro) (x : Int64) : ∀ k, k ≤ w * h * (w * h) → QP w h x k (gf (mls w h x k))
  | 0, _ => Or.inl ⟨rfl, fun i hi => absurd hi (Nat.not_lt_zero _)⟩
  | k + 1, hk => by
    have ih := qp_all hw hF x k (by omega)
    by_cases m : kM w h x k = true
    · rw [mls_t m, gf_app]
      unfold gfs
      have hpos := pcn_pos (kR_pos hw hF (by omega) (isM_iff.mp m).1)
      by_cases c : pcn (kR w h k) ≤ pcn (gf (mls w h x k))
      · rw [if_pos c]
        rcases ih with ⟨g1, g2⟩ | ⟨t, t1, t2, t3, t6, t7⟩
        · rw [g1, pcn_00] at c; omega
        · refine Or.inr ⟨t, by omega, t2, t3, fun i hi hb => ?_, t7⟩
          by_cases e : i = k
          · subst e; rw [t3] at c; exact c
          · exact t6 i (by omega) hb
      · rw [if_neg c]
        have hall : ∀ i, i < k → kM w h x i = true → pcn (kR w h i) < pcn (kR w h k) := by
          intro i hi hb
          rcases ih with ⟨g1, g2⟩ | ⟨t, t1, t2, t3, t6, t7⟩
          · rw [g2 i hi] at hb; cases hb
          · have := t6 i hi hb; rw [t3] at c; omega
        refine Or.inr ⟨k, by omega, m, rfl, fun i hi hb => ?_, hall⟩
        by_cases e : i = k
        · subst e; exact Nat.le_refl _
        · exact Nat.le_of_lt (hall i (by omega) hb)
    · have m' : kM w h x k = false := by simpa using m
      rw [mls_f m']
      rcases ih with ⟨g1, g2⟩ | ⟨t, t1, t2, t3, t6, t7⟩
      · refine Or.inl ⟨g1, fun i hi => ?_⟩
        by_cases e : i = k
        · subst e; exact m'
        · exact g2 i (by omega)
      · refine Or.inr ⟨t, by omega, t2, t3, fun i hi hb => ?_, t7⟩
        by_cases e : i = k
        · subst e; rw [m'] at hb; cases hb
        · exact t6 i (by omega) hb
/-- the greatest box of all is a widest one: both searches stop at one place -/
theorem great_meet (hw : 2 ≤ w ∧ w ≤ 7 ∧ 2 ≤ h ∧ h ≤ 7) (hF : FOK w h fw fc fwh fbo fra fst fco fro) (x : Int64) {b l : Int32} {A : Nat} (g : GP w h x (w * h * (w * h)) b l A) : (A = 0 ∧ gf (mls w h x (w * h * (w * h))) = 0) ∨ ∃ f l', f < w * h ∧ l' < w * h ∧ isB w x f l' = true ∧ b = nI f ∧ l = nI l' ∧ A = pcn (rcv w f l') ∧ gf (mls w h x (w * h * (w * h))) = rcv w f l' := by
  have hb := wh_lt hw
  have q := qp_all hw hF x _ (Nat.le_refl _)
  rcases g with ⟨g1, g2⟩ | ⟨t, t1, t2, t3, t4, t5, t6, t7⟩
  · rcases q with ⟨q1, -⟩ | ⟨u, u1, u2, -⟩
    · exact Or.inl ⟨g1, q1⟩
    · have := (isM_iff.mp u2).1
      rw [show isB w x (u / (w * h)) (u % (w * h)) = kB w h x u from rfl, g2 u u1] at this
      cases this
  · have hf : t / (w * h) < w * h := Nat.div_lt_of_lt_mul t1
    have hl : t % (w * h) < w * h := Nat.mod_lt _ (by omega)
    have tm : kM w h x t = true := by
      refine isM_iff.mpr ⟨t2, ?_⟩
      cases hc : cwd w h x (t / (w * h)) (t % (w * h))
      · rfl
      · obtain ⟨f', l', f1, l1, b1, -, p1⟩ := wider hw hF x hf hl t2 hc
        have := t6 (f' * (w * h) + l') (co_lt l1 f1) (by rw [kB_at w h x f' l1]; exact b1)
        rw [kR_at w h f' l1] at this
        have p1 : pcn (kR w h t) < _ := p1
        omega
    rcases q with ⟨-, q2⟩ | ⟨u, u1, u2, u3, u6, u7⟩
    · rw [q2 t t1] at tm; cases tm
    · have e : u = t := by
        have k1 := u6 t t1 tm
        have k2 := t6 u u1 (isM_iff.mp u2).1
        rcases Nat.lt_trichotomy u t with c | c | c
        · have := t7 u c (isM_iff.mp u2).1; omega
        · exact c
        · have := u7 t c tm; omega
      subst e
      exact Or.inr ⟨_, _, hf, hl, t2, t3, t4, t5, u3⟩
theorem last_L {x : Int64} (n : Nat) {c : Nat} (hc : c < 64) (hb : bt64 x c = true) : ∀ (q t : Nat), c ≤ t → t < 64 → (∀ i, c < i → i ≤ t → bt64 x i = false) → t - c < q → mX8_lastOf_L3 n x q (nI t) = some (nI c) := by
  intro q
  induction q with
  | zero => intro t h1 h2 h3; omega
  | succ q ih =>
    intro t h1 h2 h3 h4
    rw [mX8_lastOf_L3, has_eq x h2]
    by_cases e : t = c
    · subst e; rw [hb, if_neg (by decide)]
    · rw [h3 t (by omega) (Nat.le_refl t), if_pos (by decide), show nI t + (-1 : Int32) = nI (t - 1) by
        rw [← pk_sub (a := t) (b := 1) (by omega), Int32.sub_eq_add_neg]; rfl]
      exact ih (t - 1) (by omega) (by omega) (fun i h4 h5 => h3 i h4 (by omega)) (by omega)
theorem lastOf_ok {x : Int64} {n : Nat} (hn : 10 ^ 80 ≤ n) {c : Nat} (hc : c < 49) (hb : bt64 x c = true) (hlow : ∀ i, c < i → bt64 x i = false) : mX8_lastOf n x = some (nI c) := by
  unfold mX8_lastOf
  have := last_L n (show c < 64 by omega) hb n 48 (by omega) (by omega) (fun i h _ => hlow i h) (by omega)
  rw [show (48 : Int32) = nI 48 from rfl, this]; rfl
end
theorem eq_greatest {n : Nat} {xpi : Nat → Int64} {gs0 : Int32} {ga0 : Nat → Int32} {gs1 : Int32} {ga1 : Nat → Int32} {gs2 : Int32} {ga2 : Nat → Int32} {ijn : Int32} {rsz : Int32} {rhi : Nat → Int32} {rmi : Nat → Int32} {bfi : Int32} {bla : Int32} {bar : Int32} {srim : Int32} {sst : Nat → Int32} {fw : Int32} {fc : Int32} {fwh : Int64} {fbo : Int64} {fra : Nat → Int32} {fst : Nat → Int64} {fco : Nat → Int32} {fro : Nat → Int32} {mw : Int32} {mt : Int32} {mrim : Int32} {mjn : Int32} {mpn : Int32} {mbm : Int32} {mgm : Int32} {mpi : Nat → Int64} {mst : Nat → Int32} {mam : Nat → Int32} {mac : Nat → Int32} {mhi : Nat → Int32} {mmi : Nat → Int32} {mgr : Nat → Int64} (hn : 10 ^ 80 ≤ n) (hI : Inv fw fc fwh fbo fra fst fco fro srim sst gs0 gs1 gs2 ga0 ga1 ga2 ijn rsz rhi rmi xpi mw mt mrim mjn mpn mpi mst mam mac mhi mmi) (a1 : Int32) (a2 : Int32) : ∃ (r : Int32) (y_bfi : Int32) (y_bla : Int32) (y_bar : Int32) (y_mbm : Int32) (y_mgm : Int32) (y_mgr : Nat → Int64), mX7_greatest n bfi bla bar fc fco fro fw xpi a1 a2 = some (r, y_bfi, y_bla, y_bar) ∧ mX8_greatest n mbm mgm mgr mw mt mpi a1 a2 = some (r, y_mbm, y_mgm, y_mgr) ∧ Inv fw fc fwh fbo fra fst fco fro srim sst gs0 gs1 gs2 ga0 ga1 ga2 ijn rsz rhi rmi xpi mw mt mrim mjn mpn mpi mst mam mac mhi mmi := by
  obtain ⟨w, h, hwh, rfl, rfl, hF, hPic, hrest⟩ := id hI
  obtain ⟨rfl, rfl, -⟩ := id hF
  have hb := wh_lt hwh
  unfold mX7_greatest mX8_greatest
  rcases pic_cases a1 with ⟨p1, p2⟩ | ⟨j, hj, rfl, p1, p2⟩
  · exact ⟨-1, bfi, bla, bar, mbm, mgm, mgr, by rw [if_pos p1], by rw [if_pos p2], hI⟩
  · have n1 : ¬ mX7_isPicture (nI j) = 0 := by rw [p1]; decide
    have n2 : ¬ mX8_isPicture (nI j) = 0 := by rw [p2]; decide
    have bj : ib (nI j) 5 := ib_nI hj (by decide)
    rw [if_neg n1, if_neg n2]
    rcases ix_cases a2 (N := 3) (by decide) with (h2 | h2) | ⟨k, hk, rfl⟩
    · rw [if_pos h2, if_pos (in_lo h2)]
      exact ⟨-2, bfi, bla, bar, mbm, mgm, mgr, rfl, rfl, hI⟩
    · have c1 : ¬ a2 < 0 := by
        rw [Int32.lt_iff_toInt_lt]
        rw [Int32.le_iff_toInt_le] at h2
        have : (nI 3).toInt = 3 := rfl
        have : (0 : Int32).toInt = 0 := rfl
        omega
      have c2 : ¬ a2 ≤ 2 := by
        rw [Int32.le_iff_toInt_le] at *
        have : (nI 3).toInt = 3 := rfl
        have : (2 : Int32).toInt = 2 := rfl
        omega
      rw [if_neg c1, if_neg c2, if_pos (in_hi (B := 2) (b := 2) (by decide) rfl h2)]
      exact ⟨-2, bfi, bla, bar, mbm, mgm, mgr, rfl, rfl, hI⟩
    · have c1 : ¬ nI k < 0 := nI_pos (by omega)
      have c2 : nI k ≤ 2 := nI_le (show k ≤ 2 by omega) (by decide)
      have c3 : ¬ mX8_in (nI k).toInt64 0 2 = 0 := by rw [in_ok (j := k) (B := 2) (b := 2) (by omega) (by decide) rfl]; decide
      obtain ⟨y, y1, y2⟩ := lay_eq hwh hF (mpi j) hn mgr
      have hL := mls_800 hwh (mpi j) (Nat.le_refl _)
      have hgr : mX8_greatest_L39 n _ y n 0 0 = _ := gr_L y2 hL hn n 0 (Nat.zero_le _) (by omega)
      obtain ⟨b, l, A, e1, e2, e3⟩ := fg_out hwh hF (mpi j) hn n 0 bfi bla 0 (Nat.zero_le _) (by omega) (by omega) (by rw [Nat.zero_mul]; exact Or.inl ⟨rfl, fun i hi => absurd hi (Nat.not_lt_zero _)⟩)
      have e1 : mX0_findGreatest_L7 n _ fco fro _ (mpi j) n 0 bfi bla 0 = _ := e1
      unfold mX0_findGreatest
      rw [if_neg c1, if_pos c2, if_neg c3, gd_t bj, gd_t bj, nI_clamp (show j < 2 ^ 31 by omega), (hPic j hj).1, e1, y1, jb3_s, jb3_s, hgr, jb_s]
      rcases great_meet hwh hF (mpi j) e3 with ⟨g1, g2⟩ | ⟨f, l', hf, hl, hB, rfl, rfl, rfl, g2⟩
      · rw [g1, if_pos (show nI 0 ≤ 0 by decide), jb4_s, if_pos rfl, if_pos g2]
        exact ⟨-9, _, _, _, _, _, _, rfl, rfl, hI⟩
      · have hne := rcv_ne0 hwh hF hf hl hB
        have hpos := pcn_pos hne
        have hse := rcv_self hwh hF hf hl (isB_iff.mp hB).1.1 (isB_iff.mp hB).1.2
        have hfirst := firstOf_ok hn (show f < 64 by omega) hse.1 (fun i hi => rcv_out hwh hF hf hl (Or.inl hi))
        have hlast := lastOf_ok hn (show l' < 49 by omega) hse.2 (fun i hi => rcv_out hwh hF hf hl (Or.inr hi))
        rw [g2, if_neg (show ¬ nI (pcn (rcv w f l')) ≤ 0 from nI_ge hpos (by omega)), jb4_s, if_neg (by decide), if_neg hne, hfirst, hlast, many_eq hn, jb_s, jb_s, jb_s]
        by_cases k0 : nI k = 0
        · rw [if_pos k0, if_pos k0]
          exact ⟨_, _, _, _, _, _, _, rfl, rfl, hI⟩
        · rw [if_neg k0, if_neg k0]
          by_cases k1 : nI k = 1
          · rw [if_pos k1, if_pos k1]
            exact ⟨_, _, _, _, _, _, _, rfl, rfl, hI⟩
          · rw [if_neg k1, if_neg k1]
            exact ⟨_, _, _, _, _, _, _, rfl, rfl, hI⟩
