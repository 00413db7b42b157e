theorem isB_lt {w : Nat} {x : Int64} {f l : Nat} (hlt : l < f) : isB w x f l = false := by
  unfold isB
  rw [decide_eq_false, Bool.false_and]
  rintro ⟨u1, u2⟩
  have e1 := co_eq w f
  have e2 := co_eq w l
  have := Nat.mul_le_mul_right w u2
  omega
theorem kB_at (w h : Nat) (x : Int64) (f : Nat) {l : Nat} (hl : l < w * h) : kB w h x (f * (w * h) + l) = isB w x f l := by unfold kB; rw [co_div _ hl, co_mod _ hl]
theorem kM_at (w h : Nat) (x : Int64) (f : Nat) {l : Nat} (hl : l < w * h) : kM w h x (f * (w * h) + l) = isM w h x f l := by unfold kM; rw [co_div _ hl, co_mod _ hl]
theorem kR_at (w h : Nat) (f : Nat) {l : Nat} (hl : l < w * h) : kR w h (f * (w * h) + l) = rcv w f l := by unfold kR; rw [co_div _ hl, co_mod _ hl]
noncomputable def ccn (w h : Nat) (x : Int64) (v : Int32) (k : Nat) : Nat := if v = 0 then (mls w h x k).length else cnt (kB w h x) k
theorem mls_succ (w h : Nat) (x : Int64) (k : Nat) : mls w h x (k + 1) = if kM w h x k = true then mls w h x k ++ [kR w h k] else mls w h x k := rfl
theorem mls_f {w h : Nat} {x : Int64} {k : Nat} (hm : kM w h x k = false) : mls w h x (k + 1) = mls w h x k := by rw [mls_succ, hm]; rfl
theorem mls_t {w h : Nat} {x : Int64} {k : Nat} (hm : kM w h x k = true) : mls w h x (k + 1) = mls w h x k ++ [kR w h k] := by rw [mls_succ, if_pos hm]
theorem isM_f {w h : Nat} {x : Int64} {f l : Nat} (hB : isB w x f l = false) : isM w h x f l = false := by unfold isM; rw [hB]; rfl
theorem isM_f2 {w h : Nat} {x : Int64} {f l : Nat} (hB : cwd w h x f l = true) : isM w h x f l = false := by unfold isM; rw [hB]; simp
theorem isM_t {w h : Nat} {x : Int64} {f l : Nat} (hB : isB w x f l = true) (hc : ¬ cwd w h x f l = true) : isM w h x f l = true := isM_iff.mpr ⟨hB, by simpa using hc⟩
theorem mls_skip (w h : Nat) (x : Int64) (f : Nat) (hf : f < w * h) : ∀ d, d ≤ f → mls w h x (f * (w * h) + d) = mls w h x (f * (w * h))
  | 0, _ => rfl
  | d + 1, hd => by
    rw [show f * (w * h) + (d + 1) = f * (w * h) + d + 1 from rfl, mls_f (by rw [kM_at w h x f (by omega)]; exact isM_f (isB_lt (by omega))), mls_skip w h x f hf d (by omega)]
theorem kB_skip (w h : Nat) (x : Int64) (f : Nat) (hf : f < w * h) : ∀ d, d ≤ f → cnt (kB w h x) (f * (w * h) + d) = cnt (kB w h x) (f * (w * h))
  | 0, _ => rfl
  | d + 1, hd => by
    rw [show f * (w * h) + (d + 1) = f * (w * h) + d + 1 from rfl, cnt_succ, kB_at w h x f (show d < w * h by omega), isB_lt (by omega), if_neg (by decide), Nat.add_zero, kB_skip w h x f hf d (by omega)]
section
variable {w h : Nat} {fw fc : Int32} {fwh fbo : Int64} {fra fco fro : Nat → Int32} {fst : Nat → Int64}
theorem hm_in (hw : 2 ≤ w ∧ w ≤ 7 ∧ 2 ≤ h ∧ h ≤ 7) (hF : FOK w h fw fc fwh fbo fra fst fco fro) (x : Int64) (v : Int32) {n : Nat} (hn : 10 ^ 80 ≤ n) {f : Nat} (hf : f < w * h) : ∀ (q l : Nat), l ≤ w * h → w * h - l < q → mX0_howMany_L22 n (nI (w * h)) fco fro fw (nI f) x v fst fra q (nI (ccn w h x v (f * (w * h) + l))) (nI l) = some (nI (ccn w h x v (f * (w * h) + w * h))) := by
  have hb := wh_lt hw
  intro q
  induction q with
  | zero => intro l h0 h1; omega
  | succ q ih =>
    intro l h0 h1
    rw [mX0_howMany_L22]
    by_cases hl : l = w * h
    · rw [hl, if_pos (Int32.le_refl _)]
    · have hlt : l < w * h := by omega
      rw [if_neg (nI_ge hlt (by omega)), between_eq hw hF x hf hlt hn, jb_s, bv_eq hw hF x hf hlt, nI_1 l]
      have ih := ih (l + 1) (by omega) (by omega)
      rw [show f * (w * h) + (l + 1) = f * (w * h) + l + 1 from rfl] at ih
      have km := kM_at w h x f hlt
      have kb := kB_at w h x f hlt
      by_cases b : isB w x f l = true
      · rw [if_pos b, if_neg (rcv_ne0 hw hF hf hlt b)]
        by_cases v0 : v = 0
        · rw [if_pos v0, canWiden_eq hw hF x hf hlt (isB_iff.mp b).1.1 (isB_iff.mp b).1.2 (isB_iff.mp b).2 hn, jb_s, bsel]
          by_cases cw : cwd w h x f l = true
          · rw [if_pos cw, jb_s, show ccn w h x v (f * (w * h) + l) = ccn w h x v (f * (w * h) + l + 1) by unfold ccn; rw [if_pos v0, if_pos v0, mls_f (by rw [km]; exact isM_f2 cw)]]
            exact ih
          · rw [if_neg cw, jb_s, nI_1, show ccn w h x v (f * (w * h) + l) + 1 = ccn w h x v (f * (w * h) + l + 1) by unfold ccn; rw [if_pos v0, if_pos v0, mls_t (by rw [km]; exact isM_t b cw), List.length_append]; rfl]
            exact ih
        · rw [if_neg v0, jb_s, nI_1, show ccn w h x v (f * (w * h) + l) + 1 = ccn w h x v (f * (w * h) + l + 1) by unfold ccn; rw [if_neg v0, if_neg v0, cnt_succ, kb, if_pos b]]
          exact ih
      · have b' : isB w x f l = false := by simpa using b
        rw [if_neg b, if_pos rfl, jb_s, show ccn w h x v (f * (w * h) + l) = ccn w h x v (f * (w * h) + l + 1) by
          unfold ccn
          rw [mls_f (by rw [km]; exact isM_f b'), cnt_succ, kb, if_neg b, Nat.add_zero]]
        exact ih
theorem hm_out (hw : 2 ≤ w ∧ w ≤ 7 ∧ 2 ≤ h ∧ h ≤ 7) (hF : FOK w h fw fc fwh fbo fra fst fco fro) (x : Int64) (v : Int32) {n : Nat} (hn : 10 ^ 80 ≤ n) : ∀ (q f : Nat), f ≤ w * h → w * h - f < q → mX0_howMany_L6 n (nI (w * h)) fco fro fw x v fst fra q (nI (ccn w h x v (f * (w * h)))) (nI f) = some (nI (ccn w h x v (w * h * (w * h)))) := by
  have hb := wh_lt hw
  intro q
  induction q with
  | zero => intro l h0 h1; omega
  | succ q ih =>
    intro f h0 h1
    rw [mX0_howMany_L6]
    by_cases hf : f = w * h
    · rw [hf, if_pos (Int32.le_refl _)]
    · have hlt : f < w * h := by omega
      have e : ccn w h x v (f * (w * h)) = ccn w h x v (f * (w * h) + f) := by
        unfold ccn
        rw [mls_skip w h x f hlt f (Nat.le_refl _), kB_skip w h x f hlt f (Nat.le_refl _)]
      rw [if_neg (nI_ge hlt (by omega)), e, hm_in hw hF x v hn hlt n f (by omega) (by omega), jb_s, nI_1, ← Nat.succ_mul]
      exact ih (f + 1) (by omega) (by omega)
theorem howMany_eq (hw : 2 ≤ w ∧ w ≤ 7 ∧ 2 ≤ h ∧ h ≤ 7) (hF : FOK w h fw fc fwh fbo fra fst fco fro) (x : Int64) (v : Int32) {n : Nat} (hn : 10 ^ 80 ≤ n) : mX0_howMany n (nI (w * h)) fco fro fw fst fra x v = some (nI (ccn w h x v (w * h * (w * h)))) := by
  have hb := wh_lt hw
  have e := hm_out hw hF x v hn n 0 (Nat.zero_le _) (by omega)
  have e2 : ccn w h x v (0 * (w * h)) = 0 := by
    rw [Nat.zero_mul]
    unfold ccn
    by_cases v0 : v = 0
    · rw [if_pos v0]; rfl
    · rw [if_neg v0]; rfl
  rw [e2] at e
  unfold mX0_howMany
  rw [show (0 : Int32) = nI 0 from rfl, e, jb_s]
def ael (e : Nat) (L : List Int64) : Nat := L.countP (fun b => bt64 b e)
theorem ael_app (e : Nat) (L : List Int64) (b : Int64) : ael e (L ++ [b]) = ael e L + if bt64 b e = true then 1 else 0 := by
  unfold ael
  rw [List.countP_append]
  cases hb : bt64 b e <;> simp [hb]
theorem rcv_out (hw : 2 ≤ w ∧ w ≤ 7 ∧ 2 ≤ h ∧ h ≤ 7) (hF : FOK w h fw fc fwh fbo fra fst fco fro) {f l e : Nat} (hf : f < w * h) (hl : l < w * h) (ho : e < f ∨ l < e) : bt64 (rcv w f l) e = false := by
  cases hc : bt64 (rcv w f l) e
  · rfl
  · have := (rc_iff (show 0 < w by omega)).mp (((rcv_both hw hF hf hl (Nat.le_refl _)).2.2 e).mp hc)
    omega
theorem ael_step (hw : 2 ≤ w ∧ w ≤ 7 ∧ 2 ≤ h ∧ h ≤ 7) (hF : FOK w h fw fc fwh fbo fra fst fco fro) (x : Int64) {f l e : Nat} (hf : f < w * h) (hl : l < w * h) : ael e (mls w h x (f * (w * h) + l + 1)) = ael e (mls w h x (f * (w * h) + l)) + (if isM w h x f l = true ∧ bt64 (rcv w f l) e = true then 1 else 0) := by
  by_cases m : isM w h x f l = true
  · rw [mls_t (by rw [kM_at w h x f hl]; exact m), ael_app, kR_at w h f hl]
    simp [m]
  · rw [mls_f (by rw [kM_at w h x f hl]; simpa using m)]
    simp [m]
theorem wa_in (hw : 2 ≤ w ∧ w ≤ 7 ∧ 2 ≤ h ∧ h ≤ 7) (hF : FOK w h fw fc fwh fbo fra fst fco fro) (x : Int64) {n : Nat} (hn : 10 ^ 80 ≤ n) {f e : Nat} (hf : f < w * h) (he : e < w * h) : ∀ (q l : Nat), l ≤ w * h → w * h - l < q → mX0_howManyWidestAt_L15 n (nI (w * h)) fco fro fw (nI f) x (nI e) fst fra q (nI (ael e (mls w h x (f * (w * h) + l)))) (nI l) = some (nI (ael e (mls w h x (f * (w * h) + w * h)))) := by
  have hb := wh_lt hw
  intro q
  induction q with
  | zero => intro l h0 h1; omega
  | succ q ih =>
    intro l h0 h1
    rw [mX0_howManyWidestAt_L15]
    by_cases hl : l = w * h
    · rw [hl, if_pos (Int32.le_refl _)]
    · have hlt : l < w * h := by omega
      rw [if_neg (nI_ge hlt (by omega)), between_eq hw hF x hf hlt hn, jb_s, bv_eq hw hF x hf hlt, nI_1 l]
      have ih := ih (l + 1) (by omega) (by omega)
      rw [show f * (w * h) + (l + 1) = f * (w * h) + l + 1 from rfl] at ih
      have st := ael_step hw hF x (e := e) hf hlt
      by_cases b : isB w x f l = true
      · rw [if_pos b]
        by_cases t : bt64 (rcv w f l) e = true
        · have nz : ¬ (jlushr (rcv w f l) (nI e) &&& 1) = 0 := by rw [tst_bit _ (show e < 64 by omega), t]; decide
          rw [if_neg nz, canWiden_eq hw hF x hf hlt (isB_iff.mp b).1.1 (isB_iff.mp b).1.2 (isB_iff.mp b).2 hn, jb_s, bsel]
          by_cases cw : cwd w h x f l = true
          · have st0 : ael e (mls w h x (f * (w * h) + l + 1)) = ael e (mls w h x (f * (w * h) + l)) := by rw [st, if_neg (by rw [isM_f2 cw]; simp)]; rfl
            rw [if_pos cw, jb_s, ← st0]
            exact ih
          · rw [if_pos ⟨isM_t b cw, t⟩] at st
            rw [if_neg cw, jb_s, nI_1, ← st]
            exact ih
        · have t' : bt64 (rcv w f l) e = false := by simpa using t
          rw [if_pos ((tst_bit _ (show e < 64 by omega)).mpr t'), jb_s]
          have st0 : ael e (mls w h x (f * (w * h) + l + 1)) = ael e (mls w h x (f * (w * h) + l)) := by rw [st, if_neg (fun g => t g.2)]; rfl
          rw [← st0]
          exact ih
      · have b' : isB w x f l = false := by simpa using b
        rw [if_neg b, if_pos ((tst_bit _ (show e < 64 by omega)).mpr (bt_0 e)), jb_s]
        have st0 : ael e (mls w h x (f * (w * h) + l + 1)) = ael e (mls w h x (f * (w * h) + l)) := by rw [st, if_neg (by rw [isM_f b']; simp)]; rfl
        rw [← st0]
        exact ih
theorem wa_skip (hw : 2 ≤ w ∧ w ≤ 7 ∧ 2 ≤ h ∧ h ≤ 7) (hF : FOK w h fw fc fwh fbo fra fst fco fro) (x : Int64) {f e : Nat} (hf : f < w * h) (he : e < w * h) : ∀ d, d ≤ e → ael e (mls w h x (f * (w * h) + d)) = ael e (mls w h x (f * (w * h)))
  | 0, _ => rfl
  | d + 1, hd => by
    rw [show f * (w * h) + (d + 1) = f * (w * h) + d + 1 from rfl, ael_step hw hF x hf (show d < w * h by omega), rcv_out hw hF hf (show d < w * h by omega) (Or.inr (show d < e by omega)), if_neg (by simp), Nat.add_zero, wa_skip hw hF x hf he d (by omega)]
theorem wa_row (hw : 2 ≤ w ∧ w ≤ 7 ∧ 2 ≤ h ∧ h ≤ 7) (hF : FOK w h fw fc fwh fbo fra fst fco fro) (x : Int64) {f e : Nat} (hf : f < w * h) (he : e < f) : ∀ d, d ≤ w * h → ael e (mls w h x (f * (w * h) + d)) = ael e (mls w h x (f * (w * h)))
  | 0, _ => rfl
  | d + 1, hd => by
    rw [show f * (w * h) + (d + 1) = f * (w * h) + d + 1 from rfl, ael_step hw hF x hf (show d < w * h by omega), rcv_out hw hF hf (show d < w * h by omega) (Or.inl he), if_neg (by simp), Nat.add_zero, wa_row hw hF x hf he d (by omega)]
theorem wa_rest (hw : 2 ≤ w ∧ w ≤ 7 ∧ 2 ≤ h ∧ h ≤ 7) (hF : FOK w h fw fc fwh fbo fra fst fco fro) (x : Int64) {e : Nat} : ∀ d, e + 1 + d ≤ w * h → ael e (mls w h x ((e + 1 + d) * (w * h))) = ael e (mls w h x ((e + 1) * (w * h)))
  | 0, _ => rfl
  | d + 1, hd => by
    have := wa_row hw hF x (f := e + 1 + d) (e := e) (by omega) (by omega) (w * h) (Nat.le_refl _)
    rw [show e + 1 + (d + 1) = (e + 1 + d) + 1 from rfl, Nat.succ_mul, this, wa_rest hw hF x d (by omega)]
theorem wa_out (hw : 2 ≤ w ∧ w ≤ 7 ∧ 2 ≤ h ∧ h ≤ 7) (hF : FOK w h fw fc fwh fbo fra fst fco fro) (x : Int64) {n : Nat} (hn : 10 ^ 80 ≤ n) {e : Nat} (he : e < w * h) : ∀ (q f : Nat), f ≤ e + 1 → e + 1 - f < q → mX0_howManyWidestAt_L6 n (nI e) (nI (w * h)) fco fro fw x fst fra q (nI (ael e (mls w h x (f * (w * h))))) (nI f) = some (nI (ael e (mls w h x (w * h * (w * h))))) := by
  have hb := wh_lt hw
  intro q
  induction q with
  | zero => intro l h0 h1; omega
  | succ q ih =>
    intro f h0 h1
    rw [mX0_howManyWidestAt_L6]
    by_cases hf : f = e + 1
    · subst hf
      have := wa_rest hw hF x (e := e) (w * h - (e + 1)) (by omega)
      rw [show e + 1 + (w * h - (e + 1)) = w * h by omega] at this
      rw [if_pos (nI_lt (by omega) (by omega)), this]
    · rw [if_neg (nI_nlt (show f ≤ e by omega) (by omega)), ← wa_skip hw hF x (show f < w * h by omega) he e (Nat.le_refl _), wa_in hw hF x hn (show f < w * h by omega) he n e (by omega) (by omega), jb_s, nI_1, ← Nat.succ_mul]
      exact ih (f + 1) (by omega) (by omega)
theorem widestAt_eq (hw : 2 ≤ w ∧ w ≤ 7 ∧ 2 ≤ h ∧ h ≤ 7) (hF : FOK w h fw fc fwh fbo fra fst fco fro) (x : Int64) {n : Nat} (hn : 10 ^ 80 ≤ n) {e : Nat} (he : e < w * h) : mX0_howManyWidestAt n (nI (w * h)) fco fro fw fst fra x (nI e) = some (nI (ael e (mls w h x (w * h * (w * h))))) := by
  have hb := wh_lt hw
  have e1 := wa_out hw hF x hn he n 0 (Nat.zero_le _) (by omega)
  rw [Nat.zero_mul] at e1
  have e2 : mX0_howManyWidestAt_L6 n (nI e) (nI (w * h)) fco fro fw x fst fra n 0 0 = _ := e1
  unfold mX0_howManyWidestAt
  rw [e2, jb_s]
theorem al_L {L : List Int64} {mgr : Nat → Int64} (hg : AG mgr L) (hL : L.length ≤ 784) {e : Nat} (he : e < 64) (n : Nat) : ∀ (q i : Nat), i ≤ L.length → L.length - i < q → mX8_alone_L48 n (nI L.length) mgr (nI e) q (nI (ael e (L.take i))) (nI i) = some (nI (ael e L)) := by
  intro q
  induction q with
  | zero => intro l h0 h1; omega
  | succ q ih =>
    intro i h0 h1
    rw [mX8_alone_L48]
    by_cases hi : i = L.length
    · rw [hi, if_pos (Int32.le_refl _), List.take_length]
    · have hlt : i < L.length := by omega
      have hgi := hg i hlt
      rw [List.getD_eq_getElem?_getD, List.getElem?_eq_getElem hlt] at hgi
      have hgi : mgr i = L[i] := hgi
      rw [if_neg (nI_ge hlt (by omega)), gd_t (ib_nI (show i < 800 by omega) (by decide)), jl_s, nI_clamp (by omega), has_eq _ he, nI_1 i]
      have ih := ih (i + 1) (by omega) (by omega)
      rw [List.take_succ_eq_append_getElem hlt, ael_app, ← hgi] at ih
      cases hb : bt64 (mgr i) e
      · rw [hb, if_neg (by decide)] at ih
        rw [if_neg (show ¬ false = true by decide), if_pos rfl, show nI (ael e (List.take i L)) + (0 : Int32) = nI (ael e (List.take i L) + 0) from nI_add _ 0]
        exact ih
      · rw [hb] at ih
        rw [if_pos rfl, if_neg (by decide), nI_1]
        exact ih
end
theorem eq_boxes {n : Nat} {xpi : Nat → Int64} {gs0 : Int32} {ga0 : Nat → Int32} {gs1 : Int32} {ga1 : Nat → Int32} {gs2 : Int32} {ga2 : Nat → Int32} {ijn : Int32} {rsz : Int32} {rhi : Nat → Int32} {rmi : Nat → Int32} {srim : Int32} {sst : Nat → Int32} {fw : Int32} {fc : Int32} {fwh : Int64} {fbo : Int64} {fra : Nat → Int32} {fst : Nat → Int64} {fco : Nat → Int32} {fro : Nat → Int32} {mw : Int32} {mt : Int32} {mrim : Int32} {mjn : Int32} {mpn : Int32} {mbm : Int32} {mgm : Int32} {mpi : Nat → Int64} {mst : Nat → Int32} {mam : Nat → Int32} {mac : Nat → Int32} {mhi : Nat → Int32} {mmi : Nat → Int32} {mgr : Nat → Int64} (hn : 10 ^ 80 ≤ n) (hI : Inv fw fc fwh fbo fra fst fco fro srim sst gs0 gs1 gs2 ga0 ga1 ga2 ijn rsz rhi rmi xpi mw mt mrim mjn mpn mpi mst mam mac mhi mmi) (a1 : Int32) (a2 : Int32) : ∃ (r : Int32) (y_mbm : Int32) (y_mgm : Int32) (y_mgr : Nat → Int64), mX7_boxes n fc fco fro fw fst fra xpi a1 a2 = some r ∧ mX8_boxes n mbm mgm mgr mw mt mpi a1 a2 = some (r, y_mbm, y_mgm, y_mgr) ∧ Inv fw fc fwh fbo fra fst fco fro srim sst gs0 gs1 gs2 ga0 ga1 ga2 ijn rsz rhi rmi xpi mw mt mrim mjn mpn mpi mst mam mac mhi mmi := by
  obtain ⟨w, h, hwh, rfl, rfl, hF, hPic, hrest⟩ := id hI
  obtain ⟨rfl, rfl, -⟩ := id hF
  unfold mX7_boxes mX8_boxes
  rcases pic_cases a1 with ⟨p1, p2⟩ | ⟨j, hj, rfl, p1, p2⟩
  · exact ⟨-1, mbm, mgm, mgr, by rw [if_pos p1], by rw [if_pos p2], hI⟩
  · have n1 : ¬ mX7_isPicture (nI j) = 0 := by rw [p1]; decide
    have n2 : ¬ mX8_isPicture (nI j) = 0 := by rw [p2]; decide
    have bj : ib (nI j) 5 := ib_nI hj (by decide)
    obtain ⟨y, y1, y2⟩ := lay_eq hwh hF (mpi j) hn mgr
    rw [if_neg n1, if_neg n2, gd_t bj, gd_t bj, nI_clamp (show j < 2 ^ 31 by omega), (hPic j hj).1, howMany_eq hwh hF _ _ hn, y1, jb_s, jb3_s]
    unfold ccn
    by_cases a0 : a2 = 0
    · rw [if_pos a0, if_pos a0]
      exact ⟨_, _, _, _, rfl, rfl, hI⟩
    · rw [if_neg a0, if_neg a0]
      exact ⟨_, _, _, _, rfl, rfl, hI⟩
theorem eq_alone {n : Nat} {xpi : Nat → Int64} {gs0 : Int32} {ga0 : Nat → Int32} {gs1 : Int32} {ga1 : Nat → Int32} {gs2 : Int32} {ga2 : Nat → Int32} {ijn : Int32} {rsz : Int32} {rhi : Nat → Int32} {rmi : Nat → Int32} {srim : Int32} {sst : Nat → Int32} {fw : Int32} {fc : Int32} {fwh : Int64} {fbo : Int64} {fra : Nat → Int32} {fst : Nat → Int64} {fco : Nat → Int32} {fro : Nat → Int32} {mw : Int32} {mt : Int32} {mrim : Int32} {mjn : Int32} {mpn : Int32} {mbm : Int32} {mgm : Int32} {mpi : Nat → Int64} {mst : Nat → Int32} {mam : Nat → Int32} {mac : Nat → Int32} {mhi : Nat → Int32} {mmi : Nat → Int32} {mgr : Nat → Int64} (hn : 10 ^ 80 ≤ n) (hI : Inv fw fc fwh fbo fra fst fco fro srim sst gs0 gs1 gs2 ga0 ga1 ga2 ijn rsz rhi rmi xpi mw mt mrim mjn mpn mpi mst mam mac mhi mmi) (a1 : Int32) (a2 : Int32) : ∃ (r : Int32) (y_mbm : Int32) (y_mgm : Int32) (y_mgr : Nat → Int64), mX7_alone n fc xpi fco fro fw fst fra a1 a2 = some r ∧ mX8_alone n mbm mgm mgr mw mt mpi a1 a2 = some (r, y_mbm, y_mgm, y_mgr) ∧ Inv fw fc fwh fbo fra fst fco fro srim sst gs0 gs1 gs2 ga0 ga1 ga2 ijn rsz rhi rmi xpi mw mt mrim mjn mpn mpi mst mam mac mhi mmi := by
  obtain ⟨w, h, hwh, rfl, rfl, hF, hPic, hrest⟩ := id hI
  obtain ⟨rfl, rfl, -⟩ := id hF
  have hb := wh_lt hwh
  unfold mX7_alone mX8_alone
  rcases pic_cases a1 with ⟨p1, p2⟩ | ⟨j, hj, rfl, p1, p2⟩
  · exact ⟨-1, mbm, mgm, mgr, by rw [if_pos p1], by rw [if_pos p2], hI⟩
  · have n1 : ¬ mX7_isPicture (nI j) = 0 := by rw [p1]; decide
    have n2 : ¬ mX8_isPicture (nI j) = 0 := by rw [p2]; decide
    rw [if_neg n1, if_neg n2]
    rcases cell_cases hwh a2 with ⟨p3, p4⟩ | ⟨e, he, rfl, p3, p4⟩
    · exact ⟨-1, mbm, mgm, mgr, by rw [if_pos p3], by rw [if_pos p4], hI⟩
    · have n3 : ¬ mX1_isCell (nI (w * h)) (nI e) = 0 := by rw [p3]; decide
      have n4 : ¬ mX8_isCell (nI w) (nI h) (nI e) = 0 := by rw [p4]; decide
      have bj : ib (nI j) 5 := ib_nI hj (by decide)
      obtain ⟨y, y1, y2⟩ := lay_eq hwh hF (mpi j) hn mgr
      have hL := mls_800 hwh (mpi j) (Nat.le_refl _)
      have hal := al_L y2 hL (show e < 64 by omega) n n 0 (Nat.zero_le _) (by omega)
      rw [show ael e (List.take 0 (mls w h (mpi j) (w * h * (w * h)))) = 0 from rfl] at hal
      have hal : mX8_alone_L48 n _ y (nI e) n 0 0 = _ := hal
      unfold mX7_bitAt
      rw [if_neg n3, if_neg n4]
      simp only [gd_t bj, nI_clamp (show j < 2 ^ 31 by omega), (hPic j hj).1, jb_s]
      rw [bitAt_eq _ (show e < 64 by omega), has_eq _ (show e < 64 by omega)]
      cases hbit : bt64 (mpi j) e
      · exact ⟨-3, mbm, mgm, mgr, rfl, rfl, hI⟩
      · rw [if_pos rfl, if_neg (by decide), if_neg (by decide), widestAt_eq hwh hF _ hn he, y1, jb_s, jb3_s, hal, jb_s]
        by_cases o : nI (ael e (mls w h (mpi j) (w * h * (w * h)))) = 1
        · rw [if_pos o, if_pos o]
          exact ⟨_, _, _, _, rfl, rfl, hI⟩
        · rw [if_neg o, if_neg o]
          exact ⟨_, _, _, _, rfl, rfl, hI⟩
