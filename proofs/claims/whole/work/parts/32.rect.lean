def RcP (w f l j : Nat) : Prop := f % w ≤ j % w ∧ j % w ≤ l % w ∧ f / w ≤ j / w ∧ j / w ≤ l / w
theorem rc_iff {w f l j : Nat} (hw : 0 < w) : RcP w f l j ↔ (f ≤ j ∧ j ≤ l ∧ f % w ≤ j % w ∧ j % w ≤ l % w) := by
  have ef := Nat.div_add_mod f w
  have ej := Nat.div_add_mod j w
  have el := Nat.div_add_mod l w
  constructor
  · rintro ⟨h1, h2, h3, h4⟩
    have g1 := Nat.mul_le_mul_left w h3
    have g2 := Nat.mul_le_mul_left w h4
    exact ⟨by omega, by omega, h1, h2⟩
  · rintro ⟨h1, h2, h3, h4⟩
    exact ⟨h3, h4, Nat.div_le_div_right h1, Nat.div_le_div_right h2⟩
theorem in3 {a b c : Nat} (ha : a < 2 ^ 31) (hb : b < 2 ^ 31) (hc : c < 2 ^ 31) : mX8_in (nI a).toInt64 (nI b).toInt64 (nI c).toInt64 = if b ≤ a ∧ a ≤ c then 1 else 0 := by
  unfold mX8_in
  rw [nI_l ha, nI_l hb, nI_l hc]
  by_cases h1 : a < b
  · rw [if_pos ((lN_lt ha hb).mpr h1), if_neg (by omega)]
  · rw [if_neg (fun e => h1 ((lN_lt ha hb).mp e))]
    by_cases h2 : c < a
    · rw [if_pos ((lN_lt hc ha).mpr h2), if_neg (by omega)]
    · rw [if_neg (fun e => h2 ((lN_lt hc ha).mp e)), if_pos (by omega)]
theorem rem_nI {a w : Nat} (ha : a < 2 ^ 31) (hw : 0 < w) (hw2 : w < 2 ^ 31) : jrem (nI a) (nI w) = nI (a % w) := pk_rem ha hw hw2
theorem div_nI {a w : Nat} (ha : a < 2 ^ 31) (hw : 0 < w) (hw2 : w < 2 ^ 31) : nI a / nI w = nI (a / w) := pk_div ha hw hw2
theorem bo_L {w f l : Nat} (hw : 2 ≤ w ∧ w ≤ 7) (hf : f < 64) (hl : l < 63) (n : Nat) : ∀ (q c : Nat) (acc : Int64), c ≤ l + 1 ∨ l < c → l + 1 - c < q → c < 65 → ∃ g, mX8_boxOf_L5 n (nI l) (nI w) (nI f) q acc (nI c) = some g ∧ ∀ j, bt64 g j = true ↔ (bt64 acc j = true ∨ (c ≤ j ∧ j ≤ l ∧ f % w ≤ j % w ∧ j % w ≤ l % w)) := by
  intro q
  induction q with
  | zero => intro c acc h0 h1; omega
  | succ q ih =>
    intro c acc h0 h1 h65
    rw [mX8_boxOf_L5]
    by_cases hc : l < c
    · rw [if_pos (nI_lt hc (by omega))]
      exact ⟨_, rfl, fun j => ⟨Or.inl, fun g => g.elim id (fun g => by omega)⟩⟩
    · rw [if_neg (nI_nlt (by omega) (by omega))]
      have nz : ¬ nI w = 0 := nI_ne0 (by omega) (by omega)
      have hm : c % w < w := Nat.mod_lt _ (by omega)
      have hm2 : f % w < w := Nat.mod_lt _ (by omega)
      have hm3 : l % w < w := Nat.mod_lt _ (by omega)
      rw [gd_t nz, gd_t nz, gd_t nz, jl_s, rem_nI (a := c) (by omega) (by omega) (by omega), rem_nI (a := f) (by omega) (by omega) (by omega), rem_nI (a := l) (by omega) (by omega) (by omega), in3 (by omega) (by omega) (by omega), nI_1]
      by_cases hin : f % w ≤ c % w ∧ c % w ≤ l % w
      · rw [if_pos hin, if_neg (by decide)]
        obtain ⟨g, g1, g2⟩ := ih (c + 1) (acc ||| jlshl 1 (nI c)) (by omega) (by omega) (by omega)
        refine ⟨g, g1, fun j => ?_⟩
        rw [g2, bt_or, Bool.or_eq_true, bt_one (by omega), decide_eq_true_eq]
        constructor
        · rintro ((g | g) | g)
          · exact Or.inl g
          · subst g; exact Or.inr ⟨Nat.le_refl _, by omega, hin⟩
          · exact Or.inr ⟨by omega, g.2⟩
        · rintro (g | g)
          · exact Or.inl (Or.inl g)
          · by_cases e : j = c
            · exact Or.inl (Or.inr e)
            · exact Or.inr ⟨by omega, g.2⟩
      · rw [if_neg hin, if_pos rfl]
        obtain ⟨g, g1, g2⟩ := ih (c + 1) (acc ||| 0) (by omega) (by omega) (by omega)
        refine ⟨g, g1, fun j => ?_⟩
        rw [g2, bt_or, bt_0, Bool.or_false]
        constructor
        · rintro (g | g)
          · exact Or.inl g
          · exact Or.inr ⟨by omega, g.2⟩
        · rintro (g | g)
          · exact Or.inl g
          · by_cases e : j = c
            · subst e; exact absurd g.2.2 hin
            · exact Or.inr ⟨by omega, g.2⟩
theorem boxOf_ok {w f l : Nat} (hw : 2 ≤ w ∧ w ≤ 7) (hf : f < 64) (hl : l < 63) {n : Nat} (hn : 10 ^ 80 ≤ n) : ∃ g, mX8_boxOf n (nI w) (nI f) (nI l) = some g ∧ ∀ j, bt64 g j = true ↔ RcP w f l j := by
  obtain ⟨g, g1, g2⟩ := bo_L hw hf hl n n f 0 (by omega) (by omega) (by omega)
  refine ⟨g, ?_, fun j => ?_⟩
  · unfold mX8_boxOf; rw [g1]; rfl
  · rw [g2, bt_0, rc_iff (by omega)]
    exact ⟨fun g => g.elim (fun z => by cases z) id, Or.inr⟩
theorem re_L {w hi wd f : Nat} (hw : 2 ≤ w ∧ w ≤ 7) {row : Int64} (hrow : ∀ j, bt64 row j = true ↔ (f ≤ j ∧ j < f + wd)) (hb : f + wd + hi * w ≤ 64 + w) (hh : hi ≤ 7) (n : Nat) : ∀ (q y : Nat) (acc : Int64), y ≤ hi → hi - y < q → ∃ g, mX1_rectangle_L59 n (nI hi) row (nI w) q acc (nI y) = some g ∧ ∀ j, bt64 g j = true ↔ (bt64 acc j = true ∨ ∃ t, y ≤ t ∧ t < hi ∧ f + t * w ≤ j ∧ j < f + t * w + wd) := by
  intro q
  induction q with
  | zero => intro y acc h0 h1; omega
  | succ q ih =>
    intro y acc h0 h1
    rw [mX1_rectangle_L59]
    by_cases hy : y = hi
    · subst hy
      rw [if_pos (Int32.le_refl _)]
      exact ⟨_, rfl, fun j => ⟨Or.inl, fun g => g.elim id (fun ⟨t, g1, g2, _⟩ => by omega)⟩⟩
    · have hlt : y < hi := by omega
      have e1 : y * w + w ≤ hi * w := by rw [← Nat.succ_mul]; exact Nat.mul_le_mul_right w hlt
      rw [if_neg (nI_ge hlt (by omega)), pk_mul, nI_1]
      obtain ⟨g, g1, g2⟩ := ih (y + 1) (acc ||| jlshl row (nI (y * w))) (by omega) (by omega)
      refine ⟨g, g1, fun j => ?_⟩
      rcases Nat.lt_or_ge (y * w) 64 with q64 | q64
      · rw [g2, bt_or, Bool.or_eq_true, bt_shl _ q64, Bool.and_eq_true, decide_eq_true_eq, hrow]
        constructor
        · rintro ((g | ⟨⟨g3, g4⟩, g5, g6⟩) | ⟨t, g3, g4⟩)
          · exact Or.inl g
          · exact Or.inr ⟨y, Nat.le_refl y, hlt, by omega, by omega⟩
          · exact Or.inr ⟨t, by omega, g4⟩
        · rintro (g | ⟨t, g3, g4, g5, g6⟩)
          · exact Or.inl (Or.inl g)
          · by_cases e : t = y
            · subst e; exact Or.inl (Or.inr ⟨⟨by omega, by omega⟩, by omega, by omega⟩)
            · exact Or.inr ⟨t, by omega, g4, g5, g6⟩
      · have : y * w ≤ 6 * 7 := Nat.mul_le_mul (by omega) hw.2
        omega
section
variable {w h : Nat} {fw fc : Int32} {fwh fbo : Int64} {fra fco fro : Nat → Int32} {fst : Nat → Int64}
theorem dm_lt {w h i : Nat} (hi : i < w * h) (hw : 0 < w) : i % w < w ∧ i / w < h := ⟨Nat.mod_lt _ hw, Nat.div_lt_of_lt_mul hi⟩
theorem rect_ok (hw : 2 ≤ w ∧ w ≤ 7 ∧ 2 ≤ h ∧ h ≤ 7) (hF : FOK w h fw fc fwh fbo fra fst fco fro) {f l : Nat} (hf : f < w * h) (hl : l < w * h) {n : Nat} (hn : 10 ^ 80 ≤ n) : ∃ g, mX1_rectangle n fco fro fw (nI f) (nI l) = some g ∧ ∀ j, bt64 g j = true ↔ RcP w f l j := by
  have hb := wh_lt hw
  obtain ⟨e0, -, -, -, -, -, hcr⟩ := hF
  have bf : ib (nI f) 49 := ib_nI (by omega) (by decide)
  have bl : ib (nI l) 49 := ib_nI (by omega) (by decide)
  have df := dm_lt hf (by omega)
  have dl := dm_lt hl (by omega)
  have ef := Nat.div_add_mod f w
  have el := Nat.div_add_mod l w
  unfold mX1_rectangle RcP
  simp only [gd_t bf, gd_t bl, nI_clamp (show f < 2 ^ 31 by omega), nI_clamp (show l < 2 ^ 31 by omega), (hcr f hf).1, (hcr f hf).2, (hcr l hl).1, (hcr l hl).2, e0]
  clear hcr
  generalize f % w = fx at *
  generalize f / w = fy at *
  generalize l % w = lx at *
  generalize l / w = ly at *
  have d1 : (nI (lx) - nI (fx) + 1).toInt = (lx : Nat) - (fx : Nat) + 1 := by
    rw [Int32.toInt_add, pk_sub_toInt (by omega) (by omega), show (1 : Int32).toInt = 1 from rfl, Int.bmod_eq_of_le (by omega) (by omega)]
  have d2 : (nI (ly) - nI (fy) + 1).toInt = (ly : Nat) - (fy : Nat) + 1 := by
    rw [Int32.toInt_add, pk_sub_toInt (by omega) (by omega), show (1 : Int32).toInt = 1 from rfl, Int.bmod_eq_of_le (by omega) (by omega)]
  by_cases hx : lx < fx
  · rw [if_pos (by rw [Int32.le_iff_toInt_le, d1]; show _ ≤ (0 : Int); omega)]
    refine ⟨0, rfl, fun j => ?_⟩
    rw [bt_0]
    exact ⟨fun g => (by cases g), fun g => (by have := g.1; have := g.2.1; omega)⟩
  · rw [if_neg (by rw [Int32.le_iff_toInt_le, d1]; show ¬ _ ≤ (0 : Int); omega)]
    by_cases hy : ly < fy
    · rw [if_neg (by rw [Int32.lt_iff_toInt_lt, d2]; show ¬ (0 : Int) < _; omega)]
      refine ⟨0, rfl, fun j => ?_⟩
      rw [bt_0]
      exact ⟨fun g => (by cases g), fun g => (by have := g.2.2.1; have := g.2.2.2; omega)⟩
    · rw [if_pos (by rw [Int32.lt_iff_toInt_lt, d2]; show (0 : Int) < _; omega)]
      have ew : nI (lx) - nI (fx) + 1 = nI (lx - fx + 1) := by rw [pk_sub (by omega), nI_1]
      have eh : nI (ly) - nI (fy) + 1 = nI (ly - fy + 1) := by rw [pk_sub (by omega), nI_1]
      rw [ew, eh]
      have em : w * (ly - fy) = w * (ly) - w * (fy) := Nat.mul_sub ..
      have em2 : w * (fy) ≤ w * (ly) := Nat.mul_le_mul_left w (by omega)
      have hrow : ∀ j, bt64 (jlshl (jlshl 1 (nI (lx - fx + 1)) - 1) (nI f)) j = true ↔ (f ≤ j ∧ j < f + (lx - fx + 1)) := by
        intro j
        rw [bt_shl _ (by omega), Bool.and_eq_true, decide_eq_true_eq]
        constructor
        · rintro ⟨⟨g1, g2⟩, g3⟩
          rw [all_tab _ (by omega) _ (by omega), decide_eq_true_eq] at g3
          omega
        · rintro ⟨g1, g2⟩
          refine ⟨⟨g1, by omega⟩, ?_⟩
          rw [all_tab _ (by omega) _ (by omega), decide_eq_true_eq]
          omega
      have hbb : f + (lx - fx + 1) + (ly - fy + 1) * w ≤ 64 + w := by
        rw [Nat.succ_mul, Nat.mul_comm _ w, em]
        omega
      obtain ⟨g, g1, g2⟩ := re_L ⟨hw.1, hw.2.1⟩ hrow hbb (by omega) n n 0 0 (Nat.zero_le _) (by omega)
      rw [show (0 : Int32) = nI 0 from rfl, g1]
      refine ⟨g, rfl, fun j => ?_⟩
      rw [g2, bt_0]
      have ej := Nat.div_add_mod j w
      constructor
      · rintro (g | ⟨t, -, t2, t3, t4⟩)
        · cases g
        · have ez : j = (fx + (j - f - t * w)) + w * (fy + t) := by
            rw [Nat.mul_add, Nat.mul_comm w t]
            omega
          have hlt : fx + (j - f - t * w) < w := by omega
          have m1 : j % w = fx + (j - f - t * w) := by
            rw [ez, Nat.add_mul_mod_self_left, Nat.mod_eq_of_lt]
            · rw [← ez]
            · exact hlt
          have m2 : j / w = fy + t := by
            have h9 : j = w * (j / w) + j % w := ej.symm
            have h10 : w * (j / w) = w * (fy + t) := by omega
            exact Nat.eq_of_mul_eq_mul_left (by omega) h10
          exact ⟨by omega, by omega, by omega, by omega⟩
      · rintro ⟨t1, t2, t3, t4⟩
        refine Or.inr ⟨j / w - fy, Nat.zero_le _, by omega, ?_⟩
        have e9 : w * (j / w - fy) = w * (j / w) - w * (fy) := Nat.mul_sub ..
        have e10 : w * (fy) ≤ w * (j / w) := Nat.mul_le_mul_left w t3
        rw [Nat.mul_comm _ w, e9]
        omega
/-- the rectangle between two cells: one set, on both sides -/
theorem rect_both (hw : 2 ≤ w ∧ w ≤ 7 ∧ 2 ≤ h ∧ h ≤ 7) (hF : FOK w h fw fc fwh fbo fra fst fco fro) {f l : Nat} (hf : f < w * h) (hl : l < w * h) {n : Nat} (hn : 10 ^ 80 ≤ n) : ∃ g, mX1_rectangle n fco fro fw (nI f) (nI l) = some g ∧ mX8_boxOf n (nI w) (nI f) (nI l) = some g ∧ ∀ j, bt64 g j = true ↔ RcP w f l j := by
  have hb := wh_lt hw
  obtain ⟨g, g1, g2⟩ := rect_ok hw hF hf hl hn
  obtain ⟨g', g3, g4⟩ := boxOf_ok ⟨hw.1, hw.2.1⟩ (show f < 64 by omega) (show l < 63 by omega) hn
  have e := bt_eqv g2 g4
  subst e
  exact ⟨g, g1, g3, g2⟩
end
