def GrP (w h : Nat) (x : Int64) (k j : Nat) : Prop := ∃ i s, i < w * h ∧ s < 9 ∧ bt64 x i = true ∧ k.testBit s = true ∧ stp w h i s ∧ j = tg w i s
def WoP (w h : Nat) (x : Int64) (k : Nat) (rim : Prop) (i : Nat) : Prop := i < w * h ∧ ∀ s, s < 9 → k.testBit s = true → (stp w h i s ∧ bt64 x (tg w i s) = true) ∨ (rim ∧ ¬ stp w h i s)
theorem GrP.lt {w h : Nat} (hw : 2 ≤ w ∧ w ≤ 7 ∧ 2 ≤ h ∧ h ≤ 7) {x : Int64} {k j : Nat} (g : GrP w h x k j) : j < w * h := by
  obtain ⟨i, s, -, -, -, -, h1, rfl⟩ := g
  exact tg_lt hw h1
section
variable {w h : Nat} {fw fc : Int32} {fwh fbo : Int64} {fra fco fro : Nat → Int32} {fst : Nat → Int64}
theorem grX_L (hw : 2 ≤ w ∧ w ≤ 7 ∧ 2 ≤ h ∧ h ≤ 7) (hF : FOK w h fw fc fwh fbo fra fst fco fro) (x : Int64) {k : Nat} (hk : k < 512) (n : Nat) : ∀ (q s : Nat) (acc : Int64), s ≤ 9 → 9 - s < q → ∃ g, mX1_grown_L6 n (nI k) fra fst x q acc (nI s) = some g ∧ ∀ j, bt64 g j = true ↔ (bt64 acc j = true ∨ ∃ i t, i < w * h ∧ s ≤ t ∧ t < 9 ∧ bt64 x i = true ∧ k.testBit t = true ∧ stp w h i t ∧ j = tg w i t) := by
  intro q
  induction q with
  | zero => intro s acc h1 h2; omega
  | succ q ih =>
    intro s acc h1 h2
    rw [mX1_grown_L6]
    by_cases h9 : s = 9
    · subst h9
      rw [if_pos (by decide)]
      exact ⟨_, rfl, fun j => ⟨Or.inl, fun hh => hh.elim id (fun ⟨i, t, _, g1, g2, _⟩ => by omega)⟩⟩
    · have hs : s < 9 := by omega
      rw [if_neg (show ¬ (9 : Int32) ≤ nI s from nI_ge (b := 9) hs (by decide))]
      by_cases hb : k.testBit s = true
      · rw [if_neg (fun e => by rw [(sbit0 hk hs).mp e] at hb; cases hb)]
        obtain ⟨a, ha, hab⟩ := ahead_ok hw hF x hs
        rw [ha, jb_s, jb_s, nI_1]
        obtain ⟨g, hg, hgb⟩ := ih (s + 1) (acc ||| a) (by omega) (by omega)
        refine ⟨g, hg, fun j => ?_⟩
        rw [hgb, bt_or, Bool.or_eq_true, hab]
        constructor
        · rintro ((h3 | ⟨i, g1, g2, g3, g4⟩) | ⟨i, t, g1, g2, g3, g4⟩)
          · exact Or.inl h3
          · exact Or.inr ⟨i, s, g2, Nat.le_refl s, hs, g1, hb, g3, g4⟩
          · exact Or.inr ⟨i, t, g1, by omega, g3, g4⟩
        · rintro (h3 | ⟨i, t, g1, g2, g3, g4, g5, g6, g7⟩)
          · exact Or.inl (Or.inl h3)
          · by_cases e : t = s
            · subst e; exact Or.inl (Or.inr ⟨i, g4, g1, g6, g7⟩)
            · exact Or.inr ⟨i, t, g1, by omega, g3, g4, g5, g6, g7⟩
      · have hb' : k.testBit s = false := by cases hc : k.testBit s <;> simp_all
        rw [if_pos ((sbit0 hk hs).mpr hb'), jb_s, nI_1]
        obtain ⟨g, hg, hgb⟩ := ih (s + 1) acc (by omega) (by omega)
        refine ⟨g, hg, fun j => ?_⟩
        rw [hgb]
        constructor
        · rintro (h3 | ⟨i, t, g1, g2, g3, g4⟩)
          · exact Or.inl h3
          · exact Or.inr ⟨i, t, g1, by omega, g3, g4⟩
        · rintro (h3 | ⟨i, t, g1, g2, g3, g4, g5, g6, g7⟩)
          · exact Or.inl h3
          · by_cases e : t = s
            · subst e; exact absurd g5 hb
            · exact Or.inr ⟨i, t, g1, by omega, g3, g4, g5, g6, g7⟩
theorem grX (hw : 2 ≤ w ∧ w ≤ 7 ∧ 2 ≤ h ∧ h ≤ 7) (hF : FOK w h fw fc fwh fbo fra fst fco fro) (x : Int64) {k : Nat} (hk : k < 512) {n : Nat} (hn : 10 ^ 80 ≤ n) : ∃ g, mX1_grown n fra fst x (nI k) = some g ∧ ∀ j, bt64 g j = true ↔ GrP w h x k j := by
  obtain ⟨g, hg, hgb⟩ := grX_L hw hF x hk n n 0 0 (by omega) (by omega)
  refine ⟨g, ?_, fun j => ?_⟩
  · unfold mX1_grown
    rw [show (0 : Int32) = nI 0 from rfl, hg]; rfl
  · rw [hgb]
    constructor
    · rintro (h3 | ⟨i, t, g1, g2, g3, g4, g5, g6, g7⟩)
      · rw [bt_0] at h3; cases h3
      · exact ⟨i, t, g1, g3, g4, g5, g6, g7⟩
    · rintro ⟨i, t, g1, g3, g4, g5, g6, g7⟩
      exact Or.inr ⟨i, t, g1, Nat.zero_le t, g3, g4, g5, g6, g7⟩
theorem grM_in (hw : 2 ≤ w ∧ w ≤ 7 ∧ 2 ≤ h ∧ h ≤ 7) (x : Int64) {k c : Nat} (hk : k < 512) (hc : c < w * h) (n : Nat) : ∀ (q s : Nat) (acc : Int64), s ≤ 9 → 9 - s < q → ∃ g, mX8_grown_L18 n x (nI c) (nI k) (nI w) (nI h) q acc (nI s) = some g ∧ ∀ j, bt64 g j = true ↔ (bt64 acc j = true ∨ ∃ t, s ≤ t ∧ t < 9 ∧ bt64 x c = true ∧ k.testBit t = true ∧ stp w h c t ∧ j = tg w c t) := by
  have hb := wh_lt hw
  intro q
  induction q with
  | zero => intro s acc h1 h2; omega
  | succ q ih =>
    intro s acc h1 h2
    rw [mX8_grown_L18]
    by_cases h9 : s = 9
    · subst h9
      rw [if_pos (by decide)]
      exact ⟨_, rfl, fun j => ⟨Or.inl, fun hh => hh.elim id (fun ⟨t, g1, g2, _⟩ => by omega)⟩⟩
    · have hs : s < 9 := by omega
      rw [if_neg (show ¬ (9 : Int32) ≤ nI s from nI_ge (b := 9) hs (by decide)), has_eq x (by omega)]
      cases hx : bt64 x c
      · rw [if_pos (by decide)]
        exact ⟨_, rfl, fun j => ⟨Or.inl, fun hh => hh.elim id (fun ⟨t, g1, g2, g3, _⟩ => by cases g3)⟩⟩
      · rw [if_neg (by decide)]
        by_cases hbt : k.testBit s = true
        · rw [if_pos ((sbit1 hk hs).mpr hbt)]
          by_cases hst : stp w h c s
          · rw [step_in hw hc hs hst, jb_s, jb_s, jl_s, nI_1]
            have ht := tg_lt hw hst
            have hne : ¬ nI (tg w c s) = -9 := by
              intro e
              have e2 := congrArg Int32.toInt e
              rw [nI_toInt (by omega)] at e2
              have : (-9 : Int32).toInt = -9 := rfl
              omega
            rw [if_neg hne]
            obtain ⟨g, hg, hgb⟩ := ih (s + 1) (acc ||| jlshl 1 (nI (tg w c s))) (by omega) (by omega)
            refine ⟨g, hg, fun j => ?_⟩
            rw [hgb, bt_or, Bool.or_eq_true, bt_one (by omega), decide_eq_true_eq]
            constructor
            · rintro ((h3 | h3) | ⟨t, g2, g3, g4⟩)
              · exact Or.inl h3
              · exact Or.inr ⟨s, Nat.le_refl s, hs, rfl, hbt, hst, h3⟩
              · exact Or.inr ⟨t, by omega, g3, rfl, g4.2⟩
            · rintro (h3 | ⟨t, g2, g3, g4, g5, g6, g7⟩)
              · exact Or.inl (Or.inl h3)
              · by_cases e : t = s
                · subst e; exact Or.inl (Or.inr g7)
                · exact Or.inr ⟨t, by omega, g3, hx, g5, g6, g7⟩
          · rw [step_out hw hc hs hst, jb_s, jb_s, jl_s, nI_1, if_pos rfl]
            obtain ⟨g, hg, hgb⟩ := ih (s + 1) (acc ||| 0) (by omega) (by omega)
            refine ⟨g, hg, fun j => ?_⟩
            rw [hgb, bt_or, bt_0, Bool.or_false]
            constructor
            · rintro (h3 | ⟨t, g2, g3, g4⟩)
              · exact Or.inl h3
              · exact Or.inr ⟨t, by omega, g3, rfl, g4.2⟩
            · rintro (h3 | ⟨t, g2, g3, g4, g5, g6, g7⟩)
              · exact Or.inl h3
              · by_cases e : t = s
                · subst e; exact absurd g6 hst
                · exact Or.inr ⟨t, by omega, g3, hx, g5, g6, g7⟩
        · rw [if_neg (fun e => hbt ((sbit1 hk hs).mp e)), jb_s, jl_s, nI_1, if_pos rfl]
          obtain ⟨g, hg, hgb⟩ := ih (s + 1) (acc ||| 0) (by omega) (by omega)
          refine ⟨g, hg, fun j => ?_⟩
          rw [hgb, bt_or, bt_0, Bool.or_false]
          constructor
          · rintro (h3 | ⟨t, g2, g3, g4⟩)
            · exact Or.inl h3
            · exact Or.inr ⟨t, by omega, g3, rfl, g4.2⟩
          · rintro (h3 | ⟨t, g2, g3, g4, g5, g6, g7⟩)
            · exact Or.inl h3
            · by_cases e : t = s
              · subst e; exact absurd g5 hbt
              · exact Or.inr ⟨t, by omega, g3, hx, g5, g6, g7⟩
theorem grM_L (hw : 2 ≤ w ∧ w ≤ 7 ∧ 2 ≤ h ∧ h ≤ 7) (x : Int64) {k : Nat} (hk : k < 512) {n : Nat} (hn : 10 ^ 80 ≤ n) : ∀ (q c : Nat) (acc : Int64), c ≤ w * h → w * h - c < q → ∃ g, mX8_grown_L6 n (nI w) (nI h) x (nI k) q acc (nI c) = some g ∧ ∀ j, bt64 g j = true ↔ (bt64 acc j = true ∨ ∃ i t, c ≤ i ∧ i < w * h ∧ t < 9 ∧ bt64 x i = true ∧ k.testBit t = true ∧ stp w h i t ∧ j = tg w i t) := by
  have hb := wh_lt hw
  intro q
  induction q with
  | zero => intro s acc h1 h2; omega
  | succ q ih =>
    intro c acc h1 h2
    rw [mX8_grown_L6, cells_eq]
    by_cases h9 : c = w * h
    · subst h9
      rw [if_pos (Int32.le_refl _)]
      exact ⟨_, rfl, fun j => ⟨Or.inl, fun hh => hh.elim id (fun ⟨i, t, g1, g2, _⟩ => by omega)⟩⟩
    · have hc : c < w * h := by omega
      rw [if_neg (nI_ge hc (by omega))]
      obtain ⟨g1, e1, b1⟩ := grM_in hw x hk hc n n 0 acc (by omega) (by omega)
      rw [show (0 : Int32) = nI 0 from rfl, e1, jb_s, nI_1]
      obtain ⟨g, hg, hgb⟩ := ih (c + 1) g1 (by omega) (by omega)
      refine ⟨g, hg, fun j => ?_⟩
      rw [hgb, b1]
      constructor
      · rintro ((h3 | ⟨t, g2, g3, g4⟩) | ⟨i, t, g2, g3, g4⟩)
        · exact Or.inl h3
        · exact Or.inr ⟨c, t, Nat.le_refl c, hc, g3, g4⟩
        · exact Or.inr ⟨i, t, by omega, g3, g4⟩
      · rintro (h3 | ⟨i, t, g2, g3, g4, g5⟩)
        · exact Or.inl (Or.inl h3)
        · by_cases e : i = c
          · subst e; exact Or.inl (Or.inr ⟨t, Nat.zero_le t, g4, g5⟩)
          · exact Or.inr ⟨i, t, by omega, g3, g4, g5⟩
theorem grM (hw : 2 ≤ w ∧ w ≤ 7 ∧ 2 ≤ h ∧ h ≤ 7) (x : Int64) {k : Nat} (hk : k < 512) {n : Nat} (hn : 10 ^ 80 ≤ n) : ∃ g, mX8_grown n (nI w) (nI h) x (nI k) = some g ∧ ∀ j, bt64 g j = true ↔ GrP w h x k j := by
  have hb := wh_lt hw
  obtain ⟨g, hg, hgb⟩ := grM_L hw x hk hn n 0 0 (by omega) (by omega)
  refine ⟨g, ?_, fun j => ?_⟩
  · unfold mX8_grown
    rw [show (0 : Int32) = nI 0 from rfl, hg]; rfl
  · rw [hgb]
    constructor
    · rintro (h3 | ⟨i, t, g1, g2, g3, g4, g5, g6, g7⟩)
      · rw [bt_0] at h3; cases h3
      · exact ⟨i, t, g2, g3, g4, g5, g6, g7⟩
    · rintro ⟨i, t, g2, g3, g4, g5, g6, g7⟩
      exact Or.inr ⟨i, t, Nat.zero_le i, g2, g3, g4, g5, g6, g7⟩
theorem bt_eqv {x y : Int64} {P : Nat → Prop} (hx : ∀ j, bt64 x j = true ↔ P j) (hy : ∀ j, bt64 y j = true ↔ P j) : x = y := by
  apply bt_ext
  intro i _
  have := (hx i).trans (hy i).symm
  cases h1 : bt64 x i <;> cases h2 : bt64 y i <;> simp_all
/-- grown: one set, on both sides -/
theorem gr_both (hw : 2 ≤ w ∧ w ≤ 7 ∧ 2 ≤ h ∧ h ≤ 7) (hF : FOK w h fw fc fwh fbo fra fst fco fro) (x : Int64) {k : Nat} (hk : k < 512) {n : Nat} (hn : 10 ^ 80 ≤ n) : ∃ g, mX1_grown n fra fst x (nI k) = some g ∧ mX8_grown n (nI w) (nI h) x (nI k) = some g ∧ ∀ j, bt64 g j = true ↔ GrP w h x k j := by
  obtain ⟨g, e1, b1⟩ := grX hw hF x hk hn
  obtain ⟨g', e2, b2⟩ := grM hw x hk hn
  have e := bt_eqv b1 b2
  subst e
  exact ⟨g, e1, e2, b1⟩
end
