noncomputable def bv (w : Nat) (x : Int64) (f l : Nat) : Int64 := if alI w x f l = true then rcv w f l else 0
noncomputable def isB (w : Nat) (x : Int64) (f l : Nat) : Bool := decide (f % w ≤ l % w ∧ f / w ≤ l / w) && alI w x f l
noncomputable def isM (w h : Nat) (x : Int64) (f l : Nat) : Bool := isB w x f l && !cwd w h x f l
theorem isB_iff {w : Nat} {x : Int64} {f l : Nat} : isB w x f l = true ↔ (f % w ≤ l % w ∧ f / w ≤ l / w) ∧ alI w x f l = true := by
  unfold isB; rw [Bool.and_eq_true, decide_eq_true_eq]
theorem isM_iff {w h : Nat} {x : Int64} {f l : Nat} : isM w h x f l = true ↔ isB w x f l = true ∧ cwd w h x f l = false := by
  unfold isM; rw [Bool.and_eq_true, Bool.not_eq_true']
section
variable {w h : Nat} {fw fc : Int32} {fwh fbo : Int64} {fra fco fro : Nat → Int32} {fst : Nat → Int64}
theorem rcv_self (hw : 2 ≤ w ∧ w ≤ 7 ∧ 2 ≤ h ∧ h ≤ 7) (hF : FOK w h fw fc fwh fbo fra fst fco fro) {f l : Nat} (hf : f < w * h) (hl : l < w * h) (hx : f % w ≤ l % w) (hy : f / w ≤ l / w) : bt64 (rcv w f l) f = true ∧ bt64 (rcv w f l) l = true := by
  have g := (rcv_both hw hF hf hl (Nat.le_refl _)).2.2
  exact ⟨(g f).mpr (rc_self hx hy), (g l).mpr ⟨hx, Nat.le_refl _, hy, Nat.le_refl _⟩⟩
theorem rcv_none (hw : 2 ≤ w ∧ w ≤ 7 ∧ 2 ≤ h ∧ h ≤ 7) (hF : FOK w h fw fc fwh fbo fra fst fco fro) {f l : Nat} (hf : f < w * h) (hl : l < w * h) (hx : ¬ (f % w ≤ l % w ∧ f / w ≤ l / w)) : rcv w f l = 0 := by
  have g := (rcv_both hw hF hf hl (Nat.le_refl _)).2.2
  refine (eq0_iff _).mpr (fun i _ => ?_)
  cases hc : bt64 (rcv w f l) i
  · rfl
  · have := (g i).mp hc
    unfold RcP at this
    omega
theorem bv_eq (hw : 2 ≤ w ∧ w ≤ 7 ∧ 2 ≤ h ∧ h ≤ 7) (hF : FOK w h fw fc fwh fbo fra fst fco fro) (x : Int64) {f l : Nat} (hf : f < w * h) (hl : l < w * h) : bv w x f l = if isB w x f l = true then rcv w f l else 0 := by
  unfold bv
  by_cases q : f % w ≤ l % w ∧ f / w ≤ l / w
  · have : isB w x f l = alI w x f l := by unfold isB; rw [decide_eq_true q, Bool.true_and]
    rw [this]
  · have : isB w x f l = false := by unfold isB; rw [decide_eq_false q, Bool.false_and]
    rw [this, rcv_none hw hF hf hl q]
    cases alI w x f l <;> rfl
theorem rcv_ne0 (hw : 2 ≤ w ∧ w ≤ 7 ∧ 2 ≤ h ∧ h ≤ 7) (hF : FOK w h fw fc fwh fbo fra fst fco fro) {x : Int64} {f l : Nat} (hf : f < w * h) (hl : l < w * h) (hB : isB w x f l = true) : ¬ rcv w f l = 0 := by
  intro e
  have := (rcv_self hw hF hf hl (isB_iff.mp hB).1.1 (isB_iff.mp hB).1.2).1
  rw [e, bt_0] at this
  cases this
theorem between_eq (hw : 2 ≤ w ∧ w ≤ 7 ∧ 2 ≤ h ∧ h ≤ 7) (hF : FOK w h fw fc fwh fbo fra fst fco fro) (x : Int64) {f l : Nat} (hf : f < w * h) (hl : l < w * h) {n : Nat} (hn : 10 ^ 80 ≤ n) : mX0_between n fco fro fw (nI f) (nI l) x = some (bv w x f l) := by
  have hb := wh_lt hw
  obtain ⟨g1, -, g3⟩ := rcv_both hw hF hf hl hn
  have hz : (jlushr x (nI f) &&& jlushr x (nI l)) &&& 1 = 0 ↔ ¬ (bt64 x f = true ∧ bt64 x l = true) := by
    rw [and1_eq, bt_and, bt_ushr x (show f < 64 by omega), bt_ushr x (show l < 64 by omega)]
    cases hx : bt64 x f <;> cases hy : bt64 x l <;> simp [hx, hy]
  unfold mX0_between
  by_cases q : bt64 x f = true ∧ bt64 x l = true
  · rw [if_neg (fun e => hz.mp e q), g1, jb_s]
    unfold bv alI sbb
    by_cases z : rcv w f l &&& (x ^^^ -1) = 0
    · rw [if_pos z, if_pos (decide_eq_true z)]
    · rw [if_neg z, if_neg (by rw [decide_eq_true_eq]; exact z)]
  · rw [if_pos (hz.mpr q)]
    congr 1
    rw [bv_eq hw hF x hf hl]
    by_cases b : isB w x f l = true
    · exfalso
      obtain ⟨⟨b1, b2⟩, b3⟩ := isB_iff.mp b
      have b4 := sbb_iff.mp b3
      have b5 := rcv_self hw hF hf hl b1 b2
      exact q ⟨b4 f b5.1, b4 l b5.2⟩
    · rw [if_neg b]
noncomputable def kB (w h : Nat) (x : Int64) (k : Nat) : Bool := isB w x (k / (w * h)) (k % (w * h))
noncomputable def kM (w h : Nat) (x : Int64) (k : Nat) : Bool := isM w h x (k / (w * h)) (k % (w * h))
noncomputable def kR (w h : Nat) (k : Nat) : Int64 := rcv w (k / (w * h)) (k % (w * h))
noncomputable def mls (w h : Nat) (x : Int64) : Nat → List Int64
  | 0 => []
  | k + 1 => if kM w h x k = true then mls w h x k ++ [kR w h k] else mls w h x k
def kG (w h : Nat) (k : Nat) : Bool := decide ((k / (w * h)) % w ≤ (k % (w * h)) % w ∧ (k / (w * h)) / w ≤ (k % (w * h)) / w)
theorem cnt_up (f : Nat → Bool) {a b : Nat} (hab : a ≤ b) : cnt f a ≤ cnt f b := by
  obtain ⟨d, rfl⟩ : ∃ d, b = a + d := ⟨b - a, by omega⟩
  rw [cnt_split]; omega
theorem cnt_succ (f : Nat → Bool) (k : Nat) : cnt f (k + 1) = cnt f k + (if f k = true then 1 else 0) := by
  rw [cnt_split]
  show cnt f k + cnt (fun i => f (k + i)) 1 = _
  simp [cnt]
theorem kG_784 : ∀ w, w < 8 → ∀ h, h < 8 → cnt (kG w h) (w * h * (w * h)) ≤ 784 := by decide +kernel
theorem mls_len (x : Int64) : ∀ k, (mls w h x k).length ≤ cnt (kG w h) k
  | 0 => Nat.le_refl _
  | k + 1 => by
    have ih := mls_len x k
    rw [cnt_succ]
    unfold mls
    by_cases m : kM w h x k = true
    · have : kG w h k = true := by
        have := (isB_iff.mp (isM_iff.mp m).1).1
        exact decide_eq_true this
      rw [if_pos m, this, List.length_append]
      show _ + 1 ≤ _ + 1
      omega
    · rw [if_neg m]; omega
theorem mls_800 (hw : 2 ≤ w ∧ w ≤ 7 ∧ 2 ≤ h ∧ h ≤ 7) (x : Int64) {k : Nat} (hk : k ≤ w * h * (w * h)) : (mls w h x k).length ≤ 784 :=
  Nat.le_trans (mls_len x k) (Nat.le_trans (cnt_up _ hk) (kG_784 w (by omega) h (by omega)))
def AG (a : Nat → Int64) (L : List Int64) : Prop := ∀ i, i < L.length → a i = L.getD i 0
theorem AG.push {a : Nat → Int64} {L : List Int64} (g : AG a L) (v : Int64) : AG (vp_updL a L.length v) (L ++ [v]) := by
  intro i hi
  rw [List.length_append] at hi
  have hi : i < L.length + 1 := hi
  by_cases e : i = L.length
  · subst e
    rw [updL_s, List.getD_eq_getElem?_getD, List.getElem?_append_right (Nat.le_refl _), Nat.sub_self]
    rfl
  · rw [updL_n _ _ e, List.getD_eq_getElem?_getD, List.getElem?_append_left (by omega), ← List.getD_eq_getElem?_getD]
    exact g i (by omega)
theorem lay_L (hw : 2 ≤ w ∧ w ≤ 7 ∧ 2 ≤ h ∧ h ≤ 7) (hF : FOK w h fw fc fwh fbo fra fst fco fro) (x : Int64) {n : Nat} (hn : 10 ^ 80 ≤ n) : ∀ (q k : Nat) (mgr : Nat → Int64), k ≤ w * h * (w * h) → w * h * (w * h) - k < q → AG mgr (mls w h x k) → ∃ y, mX8_layBoxes_L12 n (nI w) (nI h) x q (nI k) (nI (cnt (kB w h x) k)) (nI (mls w h x k).length) mgr = some (nI (cnt (kB w h x) (w * h * (w * h))), nI (mls w h x (w * h * (w * h))).length, y) ∧ AG y (mls w h x (w * h * (w * h))) := by
  have hb := wh_lt hw
  have hcc : w * h * (w * h) ≤ 49 * 49 := Nat.mul_le_mul hb.2 hb.2
  intro q
  induction q with
  | zero => intro k mgr h0 h1; omega
  | succ q ih =>
    intro k mgr h0 h1 hg
    rw [mX8_layBoxes_L12]
    rw [cells_eq, pk_mul]
    by_cases hk : k = w * h * (w * h)
    · rw [← hk, if_pos (Int32.le_refl _)]
      exact ⟨mgr, rfl, hg⟩
    · have hlt : k < w * h * (w * h) := by omega
      have nz : ¬ nI (w * h) = 0 := nI_ne0 (by omega) (by omega)
      have nw : ¬ nI w = 0 := nI_ne0 (by omega) (by omega)
      have hf : k / (w * h) < w * h := Nat.div_lt_of_lt_mul hlt
      have hl : k % (w * h) < w * h := Nat.mod_lt _ (by omega)
      rw [if_neg (nI_ge hlt (by omega)), gd_t nz, gd_t nz]
      rw [rem_nI (show k < 2 ^ 31 by omega) (show 0 < w * h by omega) (show w * h < 2 ^ 31 by omega), div_nI (show k < 2 ^ 31 by omega) (show 0 < w * h by omega) (show w * h < 2 ^ 31 by omega)]
      have hBk : kB w h x k = isB w x (k / (w * h)) (k % (w * h)) := rfl
      have hMk : kM w h x k = isM w h x (k / (w * h)) (k % (w * h)) := rfl
      have hRk : kR w h k = rcv w (k / (w * h)) (k % (w * h)) := rfl
      have hlen := mls_800 hw x h0
      have hcs := cnt_succ (kB w h x) k
      have hms : mls w h x (k + 1) = if kM w h x k = true then mls w h x k ++ [kR w h k] else mls w h x k := rfl
      generalize hfe : k / (w * h) = f at *
      generalize hle : k % (w * h) = l at *
      have df := dm_lt hf (show 0 < w by omega)
      have dl := dm_lt hl (show 0 < w by omega)
      rw [rem_nI (show l < 2 ^ 31 by omega) (show 0 < w by omega) (show w < 2 ^ 31 by omega), rem_nI (show f < 2 ^ 31 by omega) (show 0 < w by omega) (show w < 2 ^ 31 by omega), gd_t nw, gd_t nw, alI_eq hw hF x hf hl hn, jb_s, bsel2]
      have ecase : (if nI l < nI f then some (0 : Int32) else if nI (l % w) < nI (f % w) then some 0 else some (if alI w x f l = true then 1 else 0)) = some (if isB w x f l = true then 1 else 0) := by
        by_cases c1 : l < f
        · rw [if_pos (nI_lt c1 (by omega))]
          have : isB w x f l = false := by
            unfold isB
            rw [decide_eq_false, Bool.false_and]
            rintro ⟨u1, u2⟩
            have e1 := co_eq w f
            have e2 := co_eq w l
            have := Nat.mul_le_mul_right w u2
            omega
          rw [this]; rfl
        · rw [if_neg (nI_nlt (by omega) (by omega))]
          have hy : f / w ≤ l / w := Nat.div_le_div_right (by omega)
          by_cases c2 : l % w < f % w
          · rw [if_pos (nI_lt c2 (by omega))]
            have : isB w x f l = false := by
              unfold isB
              rw [decide_eq_false, Bool.false_and]
              omega
            rw [this]; rfl
          · rw [if_neg (nI_nlt (by omega) (by omega))]
            have : isB w x f l = alI w x f l := by
              unfold isB
              rw [decide_eq_true, Bool.true_and]
              omega
            rw [this]
      rw [ecase, jb_s, nI_1 k]
      by_cases b : isB w x f l = true
      · rw [hBk, if_pos b] at hcs
        rw [if_pos b, if_neg (by decide), isWithin_eq hw hF x hf hl hn, jb_s, bsel]
        by_cases cw : cwd w h x f l = true
        · have hm : kM w h x k = false := by rw [hMk]; unfold isM; rw [cw]; simp
          rw [hm, if_neg (by decide)] at hms
          rw [if_pos cw, jb3_s, nI_1, ← hcs, ← hms]
          exact ih (k + 1) mgr (by omega) (by omega) (by rw [hms]; exact hg)
        · have hm : kM w h x k = true := by rw [hMk]; exact isM_iff.mpr ⟨b, by simpa using cw⟩
          rw [hm, if_pos rfl] at hms
          have hms2 : (mls w h x (k + 1)).length = (mls w h x k).length + 1 := by rw [hms, List.length_append]; rfl
          rw [if_neg cw, (rcv_both hw hF hf hl hn).2.1, jb_s, gd_t (ib_nI (show (mls w h x k).length < 800 by omega) (by decide)), jb3_s, nI_1, nI_1, ← hcs, nI_clamp (by omega), ← hms2]
          refine ih (k + 1) _ (by omega) (by omega) ?_
          rw [hms, hRk]
          exact hg.push _
      · have hm : kM w h x k = false := by rw [hMk]; unfold isM; rw [show isB w x f l = false by simpa using b]; rfl
        rw [hm, if_neg (by decide)] at hms
        rw [hBk, if_neg b] at hcs
        rw [if_neg b, if_pos rfl, jb3_s]
        have hcs' : cnt (kB w h x) (k + 1) = cnt (kB w h x) k := hcs
        rw [← hcs', ← hms]
        exact ih (k + 1) mgr (by omega) (by omega) (by rw [hms]; exact hg)
theorem lay_eq (hw : 2 ≤ w ∧ w ≤ 7 ∧ 2 ≤ h ∧ h ≤ 7) (hF : FOK w h fw fc fwh fbo fra fst fco fro) (x : Int64) {n : Nat} (hn : 10 ^ 80 ≤ n) (mgr : Nat → Int64) : ∃ y, mX8_layBoxes n (nI w) (nI h) mgr x = some (nI (cnt (kB w h x) (w * h * (w * h))), nI (mls w h x (w * h * (w * h))).length, y) ∧ AG y (mls w h x (w * h * (w * h))) := by
  have hb := wh_lt hw
  have hcc : w * h * (w * h) ≤ 49 * 49 := Nat.mul_le_mul hb.2 hb.2
  obtain ⟨y, y1, y2⟩ := lay_L hw hF x hn n 0 mgr (Nat.zero_le _) (by omega) (fun i hi => absurd hi (Nat.not_lt_zero _))
  have e : mX8_layBoxes_L12 n (nI w) (nI h) x n 0 0 0 mgr = _ := y1
  refine ⟨y, ?_, y2⟩
  unfold mX8_layBoxes
  rw [e, jb3_s]
end
