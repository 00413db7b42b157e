section
variable {w h : Nat} {fw fc : Int32} {fwh fbo : Int64} {fra fco fro : Nat → Int32} {fst : Nat → Int64}
def WoS (w h : Nat) (x : Int64) (k : Nat) (rim : Prop) (i s : Nat) : Prop := k.testBit s = true → (stp w h i s ∧ bt64 x (tg w i s) = true) ∨ (rim ∧ ¬ stp w h i s)
theorem woX_L (hw : 2 ≤ w ∧ w ≤ 7 ∧ 2 ≤ h ∧ h ≤ 7) (hF : FOK w h fw fc fwh fbo fra fst fco fro) (x : Int64) {k : Nat} (hk : k < 512) {rim : Int32} (n : Nat) : ∀ (q s : Nat) (acc : Int64), (∀ i, bt64 acc i = true → i < w * h) → s ≤ 9 → 9 - s < q → ∃ g, mX1_worn_L9 n (nI k) fra fst x rim q acc (nI s) = some g ∧ ∀ i, bt64 g i = true ↔ (bt64 acc i = true ∧ ∀ t, s ≤ t → t < 9 → WoS w h x k (¬ rim = 0) i t) := by
  have hb := wh_lt hw
  intro q
  induction q with
  | zero => intro s acc h0 h1 h2; omega
  | succ q ih =>
    intro s acc h0 h1 h2
    rw [mX1_worn_L9]
    by_cases h9 : s = 9
    · subst h9
      rw [if_pos (by decide)]
      exact ⟨_, rfl, fun j => ⟨fun g => ⟨g, fun t g1 g2 => by omega⟩, fun g => g.1⟩⟩
    · have hs : s < 9 := by omega
      rw [if_neg (show ¬ (9 : Int32) ≤ nI s from nI_ge (b := 9) hs (by decide))]
      by_cases hbt : k.testBit s = true
      · rw [if_neg (fun e => by rw [(sbit0 hk hs).mp e] at hbt; cases hbt)]
        obtain ⟨a, ha, hab⟩ := behind_ok hw hF x hs
        have b9 : ib (nI s) 9 := ib_nI hs (by decide)
        obtain ⟨z, hz, hzb⟩ : ∃ z, (if rim = 0 then some (0 : Int64) else gd (ib (nI s) 9) (some (fst (nI s).toNatClampNeg ^^^ -1))) = some z ∧ ∀ i, i < w * h → (bt64 z i = true ↔ (¬ rim = 0 ∧ ¬ stp w h i s)) := by
          by_cases hr : rim = 0
          · exact ⟨0, by rw [if_pos hr], fun i _ => ⟨fun g => absurd g (by rw [bt_0]; decide), fun g => absurd hr g.1⟩⟩
          · refine ⟨_, by rw [if_neg hr, gd_t b9, nI_clamp (by omega)], fun i hi => ?_⟩
            have hst := hF.2.2.2.2.2.1 s hs i
            rw [bt_not _ (by omega)]
            constructor
            · intro g
              refine ⟨hr, fun g2 => ?_⟩
              rw [hst.mpr ⟨hi, g2⟩] at g
              cases g
            · rintro ⟨g1, g2⟩
              cases hc : bt64 (fst s) i
              · rfl
              · exact absurd (hst.mp hc).2 g2
        rw [ha, jb_s, hz, jb_s, jb_s, nI_1]
        obtain ⟨g, hg, hgb⟩ := ih (s + 1) (acc &&& (a ||| z)) (fun i hi => by rw [bt_and, Bool.and_eq_true] at hi; exact h0 i hi.1) (by omega) (by omega)
        refine ⟨g, hg, fun i => ?_⟩
        rw [hgb, bt_and, Bool.and_eq_true, bt_or, Bool.or_eq_true, hab]
        constructor
        · rintro ⟨⟨g1, g2⟩, g3⟩
          refine ⟨g1, fun t ht1 ht2 => ?_⟩
          by_cases e : t = s
          · subst e
            intro _
            rcases g2 with g2 | g2
            · exact Or.inl g2.2
            · exact Or.inr ((hzb i (h0 i g1)).mp g2)
          · exact g3 t (by omega) ht2
        · rintro ⟨g1, g2⟩
          refine ⟨⟨g1, ?_⟩, fun t ht1 ht2 => g2 t (by omega) ht2⟩
          rcases g2 s (Nat.le_refl s) hs hbt with g3 | g3
          · exact Or.inl ⟨h0 i g1, g3⟩
          · exact Or.inr ((hzb i (h0 i g1)).mpr g3)
      · have hb' : k.testBit s = false := by cases hc : k.testBit s <;> simp_all
        rw [if_pos ((sbit0 hk hs).mpr hb'), jb_s, nI_1]
        obtain ⟨g, hg, hgb⟩ := ih (s + 1) acc h0 (by omega) (by omega)
        refine ⟨g, hg, fun i => ?_⟩
        rw [hgb]
        constructor
        · rintro ⟨g1, g3⟩
          refine ⟨g1, fun t ht1 ht2 => ?_⟩
          by_cases e : t = s
          · subst e; intro g; exact absurd g hbt
          · exact g3 t (by omega) ht2
        · rintro ⟨g1, g2⟩
          exact ⟨g1, fun t ht1 ht2 => g2 t (by omega) ht2⟩
theorem woX (hw : 2 ≤ w ∧ w ≤ 7 ∧ 2 ≤ h ∧ h ≤ 7) (hF : FOK w h fw fc fwh fbo fra fst fco fro) (x : Int64) {k : Nat} (hk : k < 512) {rim : Int32} {n : Nat} (hn : 10 ^ 80 ≤ n) : ∃ g, mX1_worn n fra fst fwh x (nI k) rim = some g ∧ ∀ i, bt64 g i = true ↔ WoP w h x k (¬ rim = 0) i := by
  have hwh := hF.2.2.1
  obtain ⟨g, hg, hgb⟩ := woX_L hw hF x hk (rim := rim) n n 0 fwh (fun i hi => (hwh i).mp hi) (by omega) (by omega)
  refine ⟨g, ?_, fun i => ?_⟩
  · unfold mX1_worn
    rw [show (0 : Int32) = nI 0 from rfl, hg]; rfl
  · rw [hgb, hwh]
    exact ⟨fun g => ⟨g.1, fun s hs => g.2 s (Nat.zero_le s) hs⟩, fun g => ⟨g.1, fun s _ hs => g.2 s hs⟩⟩
theorem woM_in (hw : 2 ≤ w ∧ w ≤ 7 ∧ 2 ≤ h ∧ h ≤ 7) (x : Int64) {k c : Nat} (hk : k < 512) (hc : c < w * h) {rim : Int32} (n : Nat) : ∀ (q s : Nat) (v : Int32), (v = 0 ∨ v = 1) → s ≤ 9 → 9 - s < q → ∃ r, mX8_worn_L21 n (nI k) (nI w) (nI h) (nI c) rim x q v (nI s) = some r ∧ (r = 0 ∨ r = 1) ∧ (r = 1 ↔ (v = 1 ∧ ∀ t, s ≤ t → t < 9 → WoS w h x k (rim = 1) c t)) := by
  have hb := wh_lt hw
  intro q
  induction q with
  | zero => intro s acc h0 h1 h2; omega
  | succ q ih =>
    intro s v hv h1 h2
    rw [mX8_worn_L21]
    by_cases h9 : s = 9
    · subst h9
      rw [if_pos (by decide)]
      exact ⟨_, rfl, hv, fun g => ⟨g, fun t g1 g2 => by omega⟩, fun g => g.1⟩
    · have hs : s < 9 := by omega
      rw [if_neg (show ¬ (9 : Int32) ≤ nI s from nI_ge (b := 9) hs (by decide))]
      rcases hv with hv | hv
      · subst hv
        rw [if_pos rfl]
        exact ⟨_, rfl, Or.inl rfl, fun g => absurd g (by decide), fun g => absurd g.1 (by decide)⟩
      · subst hv
        rw [if_neg (by decide)]
        by_cases hbt : k.testBit s = true
        · rw [if_pos ((sbit1 hk hs).mpr hbt)]
          by_cases hst : stp w h c s
          · have ht := tg_lt hw hst
            have hne : ¬ nI (tg w c s) = -9 := by
              intro e
              have e2 := congrArg Int32.toInt e
              rw [nI_toInt (by omega)] at e2
              have : (-9 : Int32).toInt = -9 := rfl
              omega
            rw [step_in hw hc hs hst, jb_s, jl_s, if_neg hne, jb_s, nI_1, has_eq x (by omega)]
            cases hx : bt64 x (tg w c s)
            · obtain ⟨r, e1, e2, e3⟩ := ih (s + 1) 0 (Or.inl rfl) (by omega) (by omega)
              refine ⟨r, e1, e2, fun g => absurd (e3.mp g).1 (by decide), fun g => ?_⟩
              rcases g.2 s (Nat.le_refl s) hs hbt with g2 | g2
              · rw [hx] at g2; exact absurd g2.2 (by decide)
              · exact absurd hst g2.2
            · obtain ⟨r, e1, e2, e3⟩ := ih (s + 1) 1 (Or.inr rfl) (by omega) (by omega)
              refine ⟨r, e1, e2, fun g => ⟨rfl, fun t g1 g2 => ?_⟩, fun g => e3.mpr ⟨rfl, fun t g1 g2 => g.2 t (by omega) g2⟩⟩
              by_cases e : t = s
              · subst e; intro _; exact Or.inl ⟨hst, hx⟩
              · exact (e3.mp g).2 t (by omega) g2
          · rw [step_out hw hc hs hst, jb_s, jl_s, if_pos rfl, jb_s, nI_1]
            by_cases hr : rim = 1
            · rw [if_pos hr]
              obtain ⟨r, e1, e2, e3⟩ := ih (s + 1) 1 (Or.inr rfl) (by omega) (by omega)
              refine ⟨r, e1, e2, fun g => ⟨rfl, fun t g1 g2 => ?_⟩, fun g => e3.mpr ⟨rfl, fun t g1 g2 => g.2 t (by omega) g2⟩⟩
              by_cases e : t = s
              · subst e; intro _; exact Or.inr ⟨hr, hst⟩
              · exact (e3.mp g).2 t (by omega) g2
            · rw [if_neg hr]
              obtain ⟨r, e1, e2, e3⟩ := ih (s + 1) 0 (Or.inl rfl) (by omega) (by omega)
              refine ⟨r, e1, e2, fun g => absurd (e3.mp g).1 (by decide), fun g => ?_⟩
              rcases g.2 s (Nat.le_refl s) hs hbt with g2 | g2
              · exact absurd g2.1 hst
              · exact absurd g2.1 hr
        · rw [if_neg (fun e => hbt ((sbit1 hk hs).mp e)), jb_s, nI_1]
          obtain ⟨r, e1, e2, e3⟩ := ih (s + 1) 1 (Or.inr rfl) (by omega) (by omega)
          refine ⟨r, e1, e2, fun g => ⟨rfl, fun t g1 g2 => ?_⟩, fun g => e3.mpr ⟨rfl, fun t g1 g2 => g.2 t (by omega) g2⟩⟩
          by_cases e : t = s
          · subst e; intro g; exact absurd g hbt
          · exact (e3.mp g).2 t (by omega) g2
theorem woM_L (hw : 2 ≤ w ∧ w ≤ 7 ∧ 2 ≤ h ∧ h ≤ 7) (x : Int64) {k : Nat} (hk : k < 512) {rim : Int32} {n : Nat} (hn : 10 ^ 80 ≤ n) : ∀ (q c : Nat) (acc : Int64), c ≤ w * h → w * h - c < q → ∃ g, mX8_worn_L6 n (nI w) (nI h) (nI k) rim x q acc (nI c) = some g ∧ ∀ j, bt64 g j = true ↔ (bt64 acc j = true ∨ (c ≤ j ∧ WoP w h x k (rim = 1) j)) := by
  have hb := wh_lt hw
  intro q
  induction q with
  | zero => intro s acc h1 h2; omega
  | succ q ih =>
    intro c acc h1 h2
    rw [mX8_worn_L6, cells_eq]
    by_cases h9 : c = w * h
    · subst h9
      rw [if_pos (Int32.le_refl _)]
      exact ⟨_, rfl, fun j => ⟨Or.inl, fun hh => hh.elim id (fun g => absurd g.2.1 (by omega))⟩⟩
    · have hc : c < w * h := by omega
      rw [if_neg (nI_ge hc (by omega))]
      obtain ⟨r, e1, e2, e3⟩ := woM_in hw x hk hc (rim := rim) n n 0 1 (Or.inr rfl) (by omega) (by omega)
      rw [show (0 : Int32) = nI 0 from rfl, e1, jb_s, jl_s, nI_1]
      have hWo : r = 1 ↔ WoP w h x k (rim = 1) c := e3.trans ⟨fun g => ⟨hc, fun s hs => g.2 s (Nat.zero_le s) hs⟩, fun g => ⟨rfl, fun s _ hs => g.2 s hs⟩⟩
      rcases e2 with e2 | e2
      · rw [if_pos (show r = nI 0 from e2)]
        obtain ⟨g, hg, hgb⟩ := ih (c + 1) (acc ||| 0) (by omega) (by omega)
        refine ⟨g, hg, fun j => ?_⟩
        rw [hgb, bt_or, bt_0, Bool.or_false]
        constructor
        · rintro (g1 | g1)
          · exact Or.inl g1
          · exact Or.inr ⟨by omega, g1.2⟩
        · rintro (g1 | g1)
          · exact Or.inl g1
          · by_cases e : j = c
            · subst e
              have := hWo.mpr g1.2
              rw [e2] at this
              exact absurd this (by decide)
            · exact Or.inr ⟨by omega, g1.2⟩
      · rw [if_neg (show ¬ r = nI 0 by rw [e2]; decide)]
        obtain ⟨g, hg, hgb⟩ := ih (c + 1) (acc ||| jlshl 1 (nI c)) (by omega) (by omega)
        refine ⟨g, hg, fun j => ?_⟩
        rw [hgb, bt_or, Bool.or_eq_true, bt_one (by omega), decide_eq_true_eq]
        constructor
        · rintro ((g1 | g1) | g1)
          · exact Or.inl g1
          · subst g1; exact Or.inr ⟨Nat.le_refl _, hWo.mp e2⟩
          · exact Or.inr ⟨by omega, g1.2⟩
        · rintro (g1 | g1)
          · exact Or.inl (Or.inl g1)
          · by_cases e : j = c
            · exact Or.inl (Or.inr e)
            · exact Or.inr ⟨by omega, g1.2⟩
theorem woM (hw : 2 ≤ w ∧ w ≤ 7 ∧ 2 ≤ h ∧ h ≤ 7) (x : Int64) {k : Nat} (hk : k < 512) {rim : Int32} {n : Nat} (hn : 10 ^ 80 ≤ n) : ∃ g, mX8_worn n (nI w) (nI h) rim x (nI k) = some g ∧ ∀ j, bt64 g j = true ↔ WoP w h x k (rim = 1) j := by
  have hb := wh_lt hw
  obtain ⟨g, hg, hgb⟩ := woM_L hw x hk (rim := rim) hn n 0 0 (by omega) (by omega)
  refine ⟨g, ?_, fun j => ?_⟩
  · unfold mX8_worn
    rw [show (0 : Int32) = nI 0 from rfl, hg]; rfl
  · rw [hgb]
    constructor
    · rintro (g1 | g1)
      · rw [bt_0] at g1; cases g1
      · exact g1.2
    · intro g1; exact Or.inr ⟨Nat.zero_le j, g1⟩
theorem wo_both (hw : 2 ≤ w ∧ w ≤ 7 ∧ 2 ≤ h ∧ h ≤ 7) (hF : FOK w h fw fc fwh fbo fra fst fco fro) (x : Int64) {k : Nat} (hk : k < 512) {rim : Int32} (hr : rim = 0 ∨ rim = 1) {n : Nat} (hn : 10 ^ 80 ≤ n) : ∃ g, mX1_worn n fra fst fwh x (nI k) rim = some g ∧ mX8_worn n (nI w) (nI h) rim x (nI k) = some g ∧ ∀ j, bt64 g j = true → j < w * h := by
  obtain ⟨g, e1, b1⟩ := woX hw hF x hk (rim := rim) hn
  obtain ⟨g', e2, b2⟩ := woM hw x hk (rim := rim) hn
  have hrr : (¬ rim = 0) = (rim = 1) := by
    rcases hr with e | e <;> subst e <;> simp
  rw [hrr] at b1
  have e := bt_eqv b1 b2
  subst e
  exact ⟨g, e1, e2, fun j hj => ((b1 j).mp hj).1⟩
end
