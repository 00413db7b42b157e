theorem all_tab : ∀ c : Nat, c < 50 → ∀ i : Nat, i < 64 → bt64 (jlshl 1 (nI c) - 1) i = decide (i < c) := by decide +kernel
theorem all_bits {w h : Nat} (hw : 2 ≤ w ∧ w ≤ 7 ∧ 2 ≤ h ∧ h ≤ 7) (i : Nat) : bt64 (mX8_all (nI w) (nI h)) i = true ↔ i < w * h := by
  have hb := wh_lt hw
  unfold mX8_all
  rw [cells_eq]
  rcases Nat.lt_or_ge i 64 with q | q
  · rw [all_tab _ (by omega) i q, decide_eq_true_eq]
  · rw [bt_big q]
    constructor
    · intro g; cases g
    · intro g; omega
section
variable {w h : Nat} {fw fc : Int32} {fwh fbo : Int64} {fra fco fro : Nat → Int32} {fst : Nat → Int64} {sst mst : Nat → Int32} {rim : Int32}
theorem whole_eq (hw : 2 ≤ w ∧ w ≤ 7 ∧ 2 ≤ h ∧ h ≤ 7) (hF : FOK w h fw fc fwh fbo fra fst fco fro) : fwh = mX8_all (nI w) (nI h) := bt_eqv hF.2.2.1 (all_bits hw)
theorem grBy (hw : 2 ≤ w ∧ w ≤ 7 ∧ 2 ≤ h ∧ h ≤ 7) (hF : FOK w h fw fc fwh fbo fra fst fco fro) (hSt : StaOK sst mst) {n : Nat} (hn : 10 ^ 80 ≤ n) (x : Int64) {t : Nat} (ht : t < 4) : ∃ g, mX6_grownBy n fra fst sst x (nI t) = some g ∧ mX8_grown n (nI w) (nI h) x (mst t) = some g ∧ ∀ j, bt64 g j = true → j < w * h := by
  obtain ⟨e1, k, hk, e2⟩ := hSt t ht
  obtain ⟨g, g1, g2, g3⟩ := gr_both hw hF x hk hn
  refine ⟨g, ?_, by rw [e2]; exact g2, fun j hj => ((g3 j).mp hj).lt hw⟩
  unfold mX6_grownBy
  rw [gd_t (ib_nI ht (by decide)), nI_clamp (by omega), e1, e2, g1]; rfl
theorem woBy (hw : 2 ≤ w ∧ w ≤ 7 ∧ 2 ≤ h ∧ h ≤ 7) (hF : FOK w h fw fc fwh fbo fra fst fco fro) (hSt : StaOK sst mst) (hr : rim = 0 ∨ rim = 1) {n : Nat} (hn : 10 ^ 80 ≤ n) (x : Int64) {t : Nat} (ht : t < 4) : ∃ g, mX6_wornBy n fra fst fwh sst rim x (nI t) = some g ∧ mX8_worn n (nI w) (nI h) rim x (mst t) = some g ∧ ∀ j, bt64 g j = true → j < w * h := by
  obtain ⟨e1, k, hk, e2⟩ := hSt t ht
  obtain ⟨g, g1, g2, g3⟩ := wo_both hw hF x hk hr hn
  refine ⟨g, ?_, by rw [e2]; exact g2, g3⟩
  unfold mX6_wornBy
  rw [gd_t (ib_nI ht (by decide)), nI_clamp (by omega), e1, e2, g1]; rfl
theorem made_both (hw : 2 ≤ w ∧ w ≤ 7 ∧ 2 ≤ h ∧ h ≤ 7) (hF : FOK w h fw fc fwh fbo fra fst fco fro) (hSt : StaOK sst mst) (hr : rim = 0 ∨ rim = 1) {n : Nat} (hn : 10 ^ 80 ≤ n) (x : Int64) {a : Int32} (hA : isA a) : ∃ g, mX6_made n fra fst sst fwh rim x a = some g ∧ mX8_acted n mst (nI w) (nI h) rim x a = some g ∧ ∀ j, bt64 g j = true → j < w * h := by
  obtain ⟨t, rfl, ht⟩ := hA
  have ht2 : t ≤ 40 := by omega
  have e1 : nI t / 10 = nI (t / 10) := pk_div (d := 10) (by omega) (by decide) (by decide)
  have e2 : jrem (nI t) 10 = nI (t % 10) := pk_rem (d := 10) (by omega) (by decide) (by decide)
  unfold mX6_made mX8_acted
  rw [e1, e2]
  by_cases h40 : t = 40
  · subst h40
    rw [if_pos (show nI 40 = 40 from rfl), jb_s]
    refine ⟨fwh &&& (x ^^^ -1), ?_, ?_, fun j hj => ?_⟩
    · rw [if_neg (by decide), if_neg (by decide), if_neg (by decide), if_neg (by decide)]
    · rw [if_neg (by decide), if_neg (by decide), if_neg (by decide), if_neg (by decide), whole_eq hw hF]
    · rw [bt_and, Bool.and_eq_true] at hj
      exact (hF.2.2.1 j).mp hj.1
  · have hne : ¬ nI t = 40 := fun e => h40 ((nI_eq (b := 40) (by omega) (by decide)).mp e)
    have hs : t % 10 < 4 := by omega
    have b4 : ib (nI (t % 10)) 4 := ib_nI hs (by decide)
    rw [if_neg hne, gd_t b4, nI_clamp (by omega), jb_s]
    have hk : t / 10 < 4 := by omega
    generalize t / 10 = k at hk
    match k, hk with
    | 0, _ =>
      obtain ⟨g, g1, g2, g3⟩ := grBy hw hF hSt hn x hs
      exact ⟨g, by rw [if_pos (show nI 0 = 0 from rfl), g1]; rfl, by rw [if_pos (show nI 0 = 0 from rfl), g2]; rfl, g3⟩
    | 1, _ =>
      obtain ⟨g, g1, g2, g3⟩ := woBy hw hF hSt hr hn x hs
      exact ⟨g, by rw [if_neg (by decide), if_pos (show nI 1 = 1 from rfl), g1]; rfl, by rw [if_neg (by decide), if_pos (show nI 1 = 1 from rfl), g2]; rfl, g3⟩
    | 2, _ =>
      obtain ⟨g, g1, g2, g3⟩ := woBy hw hF hSt hr hn x hs
      obtain ⟨g', g1', g2', g3'⟩ := grBy hw hF hSt hn g hs
      exact ⟨g', by rw [if_neg (by decide), if_neg (by decide), if_pos (show nI 2 = 2 from rfl), g1, jb_s, g1']; rfl, by rw [if_neg (by decide), if_neg (by decide), if_pos (show nI 2 = 2 from rfl), g2, jb_s, g2']; rfl, g3'⟩
    | 3, _ =>
      obtain ⟨g, g1, g2, g3⟩ := grBy hw hF hSt hn x hs
      obtain ⟨g', g1', g2', g3'⟩ := woBy hw hF hSt hr hn g hs
      exact ⟨g', by rw [if_neg (by decide), if_neg (by decide), if_neg (by decide), if_pos (show nI 3 = 3 from rfl), g1, jb_s, g1']; rfl, by rw [if_neg (by decide), if_neg (by decide), if_neg (by decide), if_pos (show nI 3 = 3 from rfl), g2, jb_s, g2']; rfl, g3'⟩
/-- a program, from its act i on, on both sides; o is where its row begins in the reference -/
theorem prog_L (hw : 2 ≤ w ∧ w ≤ 7 ∧ 2 ≤ h ∧ h ≤ 7) (hF : FOK w h fw fc fwh fbo fra fst fco fro) (hSt : StaOK sst mst) (hr : rim = 0 ∨ rim = 1) {n : Nat} (hn : 10 ^ 80 ≤ n) {p z : Nat} (hp : p < 3) (hz : z ≤ 8) {mam mac gac : Nat → Int32} (hm : mam p = nI z) (hrow : ∀ k, k < z → gac k = mac (8 * p + k) ∧ isA (mac (8 * p + k))) : ∀ (q q2 i : Nat) (x : Int64), (∀ j, bt64 x j = true → j < w * h) → i ≤ z → z - i < q → z - i < q2 → ∃ g, mX4_madeOf_L5 n (nI z) fra fst sst fwh rim gac q x (nI i) = some g ∧ mX8_ran_L6 n (nI p) mam mst (nI w) (nI h) rim mac q2 x (nI i) = some g ∧ ∀ j, bt64 g j = true → j < w * h := by
  intro q
  induction q with
  | zero => intro q2 i x hx h1 h2; omega
  | succ q ih =>
    intro q2 i x hx h1 h2 h3
    match q2, h3 with
    | 0, h3 => omega
    | q2 + 1, h3 =>
      rw [mX4_madeOf_L5, mX8_ran_L6, gd_t (ib_nI hp (by decide)), nI_clamp (show p < 2 ^ 31 by omega), hm]
      by_cases hi : i = z
      · subst hi
        rw [if_pos (Int32.le_refl _), if_pos (Int32.le_refl _)]
        exact ⟨x, rfl, rfl, hx⟩
      · have hlt : i < z := by omega
        rw [if_neg (nI_ge hlt (by omega)), if_neg (nI_ge hlt (by omega))]
        have e8 : (8 : Int32) * nI p + nI i = nI (8 * p + i) := by rw [show (8 : Int32) = nI 8 from rfl, pk_mul, nI_add]
        rw [gd_t (ib_nI (show i < 8 by omega) (by decide)), nI_clamp (show i < 2 ^ 31 by omega), e8, gd_t (ib_nI (show 8 * p + i < 24 by omega) (by decide)), nI_clamp (show 8 * p + i < 2 ^ 31 by omega), (hrow i hlt).1]
        obtain ⟨g, g1, g2, g3⟩ := made_both hw hF hSt hr hn x (hrow i hlt).2
        rw [g1, g2, jb_s, jb_s, nI_1]
        exact ih q2 (i + 1) g g3 (by omega) (by omega) (by omega)
theorem prog_both (hw : 2 ≤ w ∧ w ≤ 7 ∧ 2 ≤ h ∧ h ≤ 7) (hF : FOK w h fw fc fwh fbo fra fst fco fro) (hSt : StaOK sst mst) (hr : rim = 0 ∨ rim = 1) {n : Nat} (hn : 10 ^ 80 ≤ n) {p z : Nat} (hp : p < 3) (hz : z ≤ 8) {mam mac gac : Nat → Int32} (hm : mam p = nI z) (hrow : ∀ k, k < z → gac k = mac (8 * p + k) ∧ isA (mac (8 * p + k))) (x : Int64) (hx : ∀ j, bt64 x j = true → j < w * h) : ∃ g, mX4_madeOf n (nI z) fra fst sst fwh rim gac x = some g ∧ mX8_ran n mam mst (nI w) (nI h) rim mac x (nI p) = some g ∧ ∀ j, bt64 g j = true → j < w * h := by
  obtain ⟨g, g1, g2, g3⟩ := prog_L hw hF hSt hr hn hp hz hm hrow n n 0 x hx (by omega) (by omega) (by omega)
  refine ⟨g, ?_, ?_, g3⟩
  · unfold mX4_madeOf; rw [show (0 : Int32) = nI 0 from rfl, g1]; rfl
  · unfold mX8_ran; rw [show (0 : Int32) = nI 0 from rfl, g2]; rfl
/-- the program chosen by its number -/
theorem prog_sel (hw : 2 ≤ w ∧ w ≤ 7 ∧ 2 ≤ h ∧ h ≤ 7) (hF : FOK w h fw fc fwh fbo fra fst fco fro) (hSt : StaOK sst mst) (hr : rim = 0 ∨ rim = 1) {n : Nat} (hn : 10 ^ 80 ≤ n) {gs0 gs1 gs2 : Int32} {ga0 ga1 ga2 mam mac : Nat → Int32} (hPr : PrgOK gs0 gs1 gs2 ga0 ga1 ga2 mam mac) {p : Nat} (hp : p < 3) (x : Int64) (hx : ∀ j, bt64 x j = true → j < w * h) : ∃ g, mX4_madeOf n (s3 (nI p) gs0 gs1 gs2) fra fst sst fwh rim (s3 (nI p) ga0 ga1 ga2) x = some g ∧ mX8_ran n mam mst (nI w) (nI h) rim mac x (nI p) = some g ∧ ∀ j, bt64 g j = true → j < w * h := by
  obtain ⟨z, hm, ⟨e0, e1, e2⟩, h0, h1, h2⟩ := hPr
  have hzp := hm p hp
  match p, hp, hzp with
  | 0, hp, hzp =>
    rw [show s3 (nI 0) gs0 gs1 gs2 = gs0 from rfl, show s3 (nI 0) ga0 ga1 ga2 = ga0 from rfl, e0]
    exact prog_both hw hF hSt hr hn hp hzp.1 hzp.2 (fun k hk => by rw [show 8 * 0 + k = k by omega]; exact h0 k hk) x hx
  | 1, hp, hzp =>
    rw [show s3 (nI 1) gs0 gs1 gs2 = gs1 from rfl, show s3 (nI 1) ga0 ga1 ga2 = ga1 from rfl, e1]
    exact prog_both hw hF hSt hr hn hp hzp.1 hzp.2 (fun k hk => h1 k hk) x hx
  | 2, hp, hzp =>
    rw [show s3 (nI 2) gs0 gs1 gs2 = gs2 from rfl, show s3 (nI 2) ga0 ga1 ga2 = ga2 from rfl, e2]
    exact prog_both hw hF hSt hr hn hp hzp.1 hzp.2 (fun k hk => h2 k hk) x hx
end
