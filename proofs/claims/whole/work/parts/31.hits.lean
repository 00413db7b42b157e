def HiS (w h : Nat) (x : Int64) (a b i s : Nat) : Prop := (a.testBit s = true → (stp w h i s ∧ bt64 x (tg w i s) = true)) ∧ (b.testBit s = true → ¬ (stp w h i s ∧ bt64 x (tg w i s) = true))
def HiP (w h : Nat) (x : Int64) (a b i : Nat) : Prop := bt64 x i = true ∧ ∀ s, s < 9 → HiS w h x a b i s
section
variable {w h : Nat} {fw fc : Int32} {fwh fbo : Int64} {fra fco fro : Nat → Int32} {fst : Nat → Int64} {sst mst : Nat → Int32}
theorem hiX_L (hw : 2 ≤ w ∧ w ≤ 7 ∧ 2 ≤ h ∧ h ≤ 7) (hF : FOK w h fw fc fwh fbo fra fst fco fro) (x : Int64) {a b : Nat} (ha : a < 512) (hb : b < 512) (n : Nat) : ∀ (q s : Nat) (acc : Int64), (∀ i, bt64 acc i = true → i < w * h) → s ≤ 9 → 9 - s < q → ∃ g, mX2_hitIn_L38 n fra fst x (nI a) (nI b) q acc (nI s) = some g ∧ ∀ i, bt64 g i = true ↔ (bt64 acc i = true ∧ ∀ t, s ≤ t → t < 9 → HiS w h x a b i t) := by
  have hbd := wh_lt hw
  intro q
  induction q with
  | zero => intro s acc h0 h1 h2; omega
  | succ q ih =>
    intro s acc h0 h1 h2
    rw [mX2_hitIn_L38]
    by_cases h9 : s = 9
    · subst h9
      rw [if_pos (by decide)]
      exact ⟨_, rfl, fun j => ⟨fun g => ⟨g, fun t g1 g2 => by omega⟩, fun g => g.1⟩⟩
    · have hs : s < 9 := by omega
      rw [if_neg (show ¬ (9 : Int32) ≤ nI s from nI_ge (b := 9) hs (by decide))]
      obtain ⟨y, hy, hyb⟩ := behind_ok hw hF x hs
      rw [hy, jb_s, jl_s, jl_s, nI_1]
      generalize hz : (if nI b >>> (nI s &&& 31) &&& 1 = 0 then (if nI a >>> (nI s &&& 31) &&& 1 = 0 then acc else acc &&& y) else (if nI a >>> (nI s &&& 31) &&& 1 = 0 then acc else acc &&& y) &&& (y ^^^ -1)) = z
      have hzb : ∀ i, bt64 z i = true ↔ (bt64 acc i = true ∧ HiS w h x a b i s) := by
        intro i
        have hyi : i < w * h → (bt64 y i = true ↔ (stp w h i s ∧ bt64 x (tg w i s) = true)) := fun hi => (hyb i).trans ⟨fun g => g.2, fun g => ⟨hi, g⟩⟩
        have e1 : bt64 (if nI a >>> (nI s &&& 31) &&& 1 = 0 then acc else acc &&& y) i = true ↔ (bt64 acc i = true ∧ (a.testBit s = true → (stp w h i s ∧ bt64 x (tg w i s) = true))) := by
          by_cases hA : a.testBit s = true
          · rw [if_neg (fun e => by rw [(sbit0 ha hs).mp e] at hA; cases hA), bt_and, Bool.and_eq_true]
            exact ⟨fun g => ⟨g.1, fun _ => (hyi (h0 i g.1)).mp g.2⟩, fun g => ⟨g.1, (hyi (h0 i g.1)).mpr (g.2 hA)⟩⟩
          · have hA' : a.testBit s = false := by cases hc : a.testBit s <;> simp_all
            rw [if_pos ((sbit0 ha hs).mpr hA')]
            exact ⟨fun g => ⟨g, fun g2 => absurd g2 hA⟩, fun g => g.1⟩
        rw [← hz]
        by_cases hB : b.testBit s = true
        · rw [if_neg (fun e => by rw [(sbit0 hb hs).mp e] at hB; cases hB), bt_andn, Bool.and_eq_true, e1]
          constructor
          · rintro ⟨⟨g1, g2⟩, g3⟩
            refine ⟨g1, g2, fun _ g4 => ?_⟩
            rw [(hyi (h0 i g1)).mpr g4] at g3
            cases g3
          · rintro ⟨g1, g2, g3⟩
            refine ⟨⟨g1, g2⟩, ?_⟩
            cases hc : bt64 y i
            · rfl
            · exact absurd ((hyi (h0 i g1)).mp hc) (g3 hB)
        · have hB' : b.testBit s = false := by cases hc : b.testBit s <;> simp_all
          rw [if_pos ((sbit0 hb hs).mpr hB'), e1]
          exact ⟨fun g => ⟨g.1, g.2, fun g2 => absurd g2 hB⟩, fun g => ⟨g.1, g.2.1⟩⟩
      obtain ⟨g, hg, hgb⟩ := ih (s + 1) z (fun i hi => h0 i ((hzb i).mp hi).1) (by omega) (by omega)
      refine ⟨g, hg, fun i => ?_⟩
      rw [hgb, hzb]
      constructor
      · rintro ⟨⟨g1, g2⟩, g3⟩
        refine ⟨g1, fun t ht1 ht2 => ?_⟩
        by_cases e : t = s
        · subst e; exact g2
        · exact g3 t (by omega) ht2
      · rintro ⟨g1, g2⟩
        exact ⟨⟨g1, g2 s (Nat.le_refl s) hs⟩, fun t ht1 ht2 => g2 t (by omega) ht2⟩
theorem hiM_in (hw : 2 ≤ w ∧ w ≤ 7 ∧ 2 ≤ h ∧ h ≤ 7) (x : Int64) {a b c p ja jb : Nat} (ha : a < 512) (hb : b < 512) (hc : c < w * h) (hp : p < 8) (hja : ja < 4) (hjb : jb < 4) {mhi mmi : Nat → Int32} (e1 : mhi p = nI ja) (e2 : mmi p = nI jb) (e3 : mst ja = nI a) (e4 : mst jb = nI b) (n : Nat) : ∀ (q s : Nat) (v : Int32), (v = 0 ∨ v = 1) → s ≤ 9 → 9 - s < q → ∃ r, mX8_hitsOf_L26 n (nI w) (nI h) (nI c) x (nI p) mhi mst mmi q v (nI s) = some r ∧ (r = 0 ∨ r = 1) ∧ (r = 1 ↔ (v = 1 ∧ ∀ t, s ≤ t → t < 9 → HiS w h x a b c t)) := by
  have hbd := wh_lt hw
  intro q
  induction q with
  | zero => intro s acc h0 h1 h2; omega
  | succ q ih =>
    intro s v hv h1 h2
    rw [mX8_hitsOf_L26]
    by_cases h9 : s = 9
    · subst h9
      rw [if_pos (by decide)]
      exact ⟨_, rfl, hv, fun g => ⟨g, fun t g1 g2 => by omega⟩, fun g => g.1⟩
    · have hs : s < 9 := by omega
      rw [if_neg (show ¬ (9 : Int32) ≤ nI s from nI_ge (b := 9) hs (by decide))]
      rcases hv with hv | hv
      · subst hv
        rw [if_pos rfl]
        exact ⟨_, rfl, Or.inl rfl, fun g => absurd g (by decide), fun g => absurd g.1 (by decide)⟩
      · subst hv
        rw [if_neg (by decide)]
        obtain ⟨o, T, ho, hT, hoo⟩ : ∃ (o : Int32) (T : Bool), mX8_stepFrom (nI w) (nI h) (nI c) (nI s) = some o ∧ (T = true ↔ (stp w h c s ∧ bt64 x (tg w c s) = true)) ∧ (if o = -9 then (0 : Int32) else (if mX8_has x o = 0 then 0 else 1)) = if T = true then 1 else 0 := by
          by_cases hst : stp w h c s
          · have ht := tg_lt hw hst
            have hne : ¬ nI (tg w c s) = -9 := by
              intro e
              have e2 := congrArg Int32.toInt e
              rw [nI_toInt (by omega)] at e2
              have : (-9 : Int32).toInt = -9 := rfl
              omega
            refine ⟨_, bt64 x (tg w c s), step_in hw hc hs hst, ⟨fun g => ⟨hst, g⟩, fun g => g.2⟩, ?_⟩
            rw [if_neg hne, has_eq x (by omega)]
            cases hx : bt64 x (tg w c s) <;> rfl
          · exact ⟨_, false, step_out hw hc hs hst, ⟨fun g => (by cases g), fun g => absurd g.1 hst⟩, rfl⟩
        rw [ho, jb_s, jl_s, hoo]
        have b8 : ib (nI p) 8 := ib_nI hp (by decide)
        have ba : ib (nI ja) 4 := ib_nI hja (by decide)
        have bb : ib (nI jb) 4 := ib_nI hjb (by decide)
        simp only [gd_t b8, nI_clamp (show p < 2 ^ 31 by omega), e1, e2, gd_t ba, gd_t bb, nI_clamp (show ja < 2 ^ 31 by omega), nI_clamp (show jb < 2 ^ 31 by omega), e3, e4, jl_s, nI_1, sbit ha hs, sbit hb hs]
        have key : ∀ z : Int32, (z = 0 ∨ z = 1) → (z = 1 ↔ HiS w h x a b c s) → ∃ r, mX8_hitsOf_L26 n (nI w) (nI h) (nI c) x (nI p) mhi mst mmi q z (nI (s + 1)) = some r ∧ (r = 0 ∨ r = 1) ∧ (r = 1 ↔ (True ∧ ∀ t, s ≤ t → t < 9 → HiS w h x a b c t)) := by
          intro z z1 z2
          obtain ⟨r, r1, r2, r3⟩ := ih (s + 1) z z1 (by omega) (by omega)
          refine ⟨r, r1, r2, r3.trans ?_⟩
          constructor
          · rintro ⟨g1, g2⟩
            refine ⟨trivial, fun t ht1 ht2 => ?_⟩
            by_cases e : t = s
            · subst e; exact z2.mp g1
            · exact g2 t (by omega) ht2
          · rintro ⟨-, g2⟩
            exact ⟨z2.mpr (g2 s (Nat.le_refl s) hs), fun t ht1 ht2 => g2 t (by omega) ht2⟩
        have hH : HiS w h x a b c s ↔ ((a.testBit s = true → T = true) ∧ (b.testBit s = true → ¬ T = true)) := by
          unfold HiS; rw [hT]
        cases hA : a.testBit s <;> cases hB : b.testBit s <;> cases hTT : T
        all_goals
          refine key _ ?_ ?_
          · decide
          · rw [hH, hA, hB, hTT]
            decide
theorem hiM_L (hw : 2 ≤ w ∧ w ≤ 7 ∧ 2 ≤ h ∧ h ≤ 7) (x : Int64) {a b p ja jb : Nat} (ha : a < 512) (hb : b < 512) (hp : p < 8) (hja : ja < 4) (hjb : jb < 4) {mhi mmi : Nat → Int32} (e1 : mhi p = nI ja) (e2 : mmi p = nI jb) (e3 : mst ja = nI a) (e4 : mst jb = nI b) {n : Nat} (hn : 10 ^ 80 ≤ n) : ∀ (q c : Nat) (acc : Int64), c ≤ w * h → w * h - c < q → ∃ g, mX8_hitsOf_L6 n (nI w) (nI h) x (nI p) mhi mst mmi q acc (nI c) = some g ∧ ∀ j, bt64 g j = true ↔ (bt64 acc j = true ∨ (c ≤ j ∧ j < w * h ∧ HiP w h x a b j)) := by
  have hbd := wh_lt hw
  intro q
  induction q with
  | zero => intro s acc h1 h2; omega
  | succ q ih =>
    intro c acc h1 h2
    rw [mX8_hitsOf_L6, cells_eq]
    by_cases h9 : c = w * h
    · subst h9
      rw [if_pos (Int32.le_refl _)]
      exact ⟨_, rfl, fun j => ⟨Or.inl, fun hh => hh.elim id (fun g => absurd g.2.1 (by omega))⟩⟩
    · have hc : c < w * h := by omega
      rw [if_neg (nI_ge hc (by omega)), has_eq x (by omega)]
      obtain ⟨r, r1, r2, r3⟩ := hiM_in hw x ha hb hc hp hja hjb e1 e2 e3 e4 n n 0 (if bt64 x c = true then 1 else 0) (by cases bt64 x c <;> simp) (by omega) (by omega)
      rw [show (0 : Int32) = nI 0 from rfl] at r1 ⊢
      rw [r1, jb_s, jl_s, nI_1]
      have hHi : r = 1 ↔ HiP w h x a b c := r3.trans ⟨fun g => ⟨by cases hx : bt64 x c <;> simp_all, fun s hs => g.2 s (Nat.zero_le s) hs⟩, fun g => ⟨by rw [g.1]; rfl, fun s _ hs => g.2 s hs⟩⟩
      rcases r2 with r2 | r2
      · rw [if_pos (show r = nI 0 from r2)]
        obtain ⟨g, hg, hgb⟩ := ih (c + 1) (acc ||| 0) (by omega) (by omega)
        refine ⟨g, hg, fun j => ?_⟩
        rw [hgb, bt_or, bt_0, Bool.or_false]
        constructor
        · rintro (g1 | g1)
          · exact Or.inl g1
          · exact Or.inr ⟨by omega, g1.2⟩
        · rintro (g1 | g1)
          · exact Or.inl g1
          · by_cases e : j = c
            · subst e
              have := hHi.mpr g1.2.2
              rw [r2] at this
              exact absurd this (by decide)
            · exact Or.inr ⟨by omega, g1.2⟩
      · rw [if_neg (show ¬ r = nI 0 by rw [r2]; decide)]
        obtain ⟨g, hg, hgb⟩ := ih (c + 1) (acc ||| jlshl 1 (nI c)) (by omega) (by omega)
        refine ⟨g, hg, fun j => ?_⟩
        rw [hgb, bt_or, Bool.or_eq_true, bt_one (by omega), decide_eq_true_eq]
        constructor
        · rintro ((g1 | g1) | g1)
          · exact Or.inl g1
          · subst g1; exact Or.inr ⟨Nat.le_refl _, hc, hHi.mp r2⟩
          · exact Or.inr ⟨by omega, g1.2⟩
        · rintro (g1 | g1)
          · exact Or.inl (Or.inl g1)
          · by_cases e : j = c
            · exact Or.inl (Or.inr e)
            · exact Or.inr ⟨by omega, g1.2⟩
/-- the cells that pair p hits, on both sides -/
theorem hi_both (hw : 2 ≤ w ∧ w ≤ 7 ∧ 2 ≤ h ∧ h ≤ 7) (hF : FOK w h fw fc fwh fbo fra fst fco fro) (hSt : StaOK sst mst) {rhi rmi mhi mmi : Nat → Int32} {p : Nat} (hp : p < 8) (hpa : rhi p = mhi p ∧ rmi p = mmi p ∧ (∃ a, a < 4 ∧ mhi p = nI a) ∧ (∃ a, a < 4 ∧ mmi p = nI a)) {n : Nat} (hn : 10 ^ 80 ≤ n) (x : Int64) (hx : ∀ i, bt64 x i = true → i < w * h) : ∃ g, mX2_hitIn n rhi rmi fra fst sst x (nI p) = some g ∧ mX8_hitsOf n (nI w) (nI h) mhi mst mmi x (nI p) = some g ∧ ∀ i, bt64 g i = true → bt64 x i = true := by
  obtain ⟨f1, f2, ⟨ja, hja, e1⟩, ⟨jb, hjb, e2⟩⟩ := hpa
  obtain ⟨s1, a, ha, e3⟩ := hSt ja hja
  obtain ⟨s2, b, hb, e4⟩ := hSt jb hjb
  obtain ⟨g, g1, g2⟩ := hiX_L hw hF x ha hb n n 0 x hx (by omega) (by omega)
  have hbd := wh_lt hw
  obtain ⟨g', g3, g4⟩ := hiM_L hw x ha hb hp hja hjb e1 e2 e3 e4 hn n 0 0 (by omega) (by omega)
  have e : g = g' := bt_eqv (P := fun i => i < w * h ∧ HiP w h x a b i) (fun i => by
    rw [g2]
    exact ⟨fun q => ⟨hx i q.1, q.1, fun s hs => q.2 s (Nat.zero_le s) hs⟩, fun q => ⟨q.2.1, fun s _ hs => q.2.2 s hs⟩⟩) (fun i => by
    rw [g4, bt_0]
    exact ⟨fun q => q.elim (fun z => by cases z) (fun z => z.2), fun q => Or.inr ⟨Nat.zero_le i, q⟩⟩)
  subst e
  refine ⟨g, ?_, ?_, fun i hi => ((g2 i).mp hi).1⟩
  · unfold mX2_hitIn
    have g1 : mX2_hitIn_L38 n fra fst x (nI a) (nI b) n x 0 = some g := g1
    simp only [gd_t (ib_nI hp (show 8 < 2 ^ 31 by decide)), nI_clamp (show p < 2 ^ 31 by omega), f1, f2, e1, e2, gd_t (ib_nI hja (show 4 < 2 ^ 31 by decide)), gd_t (ib_nI hjb (show 4 < 2 ^ 31 by decide)), nI_clamp (show ja < 2 ^ 31 by omega), nI_clamp (show jb < 2 ^ 31 by omega), s1, s2, e3, e4, g1, jb_s]
  · unfold mX8_hitsOf
    rw [show (0 : Int32) = nI 0 from rfl, g3]; rfl
end
