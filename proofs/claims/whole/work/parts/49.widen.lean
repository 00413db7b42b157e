def CSp (w h : Nat) (x r : Int64) (s : Nat) : Prop := ∀ j, bt64 r j = true → stp w h j s ∧ bt64 x (tg w j s) = true
theorem side4_t : ∀ t, t < 4 → side4 t = nI (2 * t + 1) := by decide
section
variable {w h : Nat} {fw fc : Int32} {fwh fbo : Int64} {fra fco fro : Nat → Int32} {fst : Nat → Int64}
theorem cw_L (hw : 2 ≤ w ∧ w ≤ 7 ∧ 2 ≤ h ∧ h ≤ 7) (hF : FOK w h fw fc fwh fbo fra fst fco fro) (x : Int64) {r : Int64} (hr : ∀ j, bt64 r j = true → j < w * h) (n : Nat) : ∀ (q t : Nat), t ≤ 4 → 4 - t < q → ∃ v, mX1_canWiden_L13 n (4 : Int32) r fst fra x q (nI t) = some v ∧ (((∃ u, t ≤ u ∧ u < 4 ∧ CSp w h x r (2 * u + 1)) ∧ v = .inl ()) ∨ ((¬ ∃ u, t ≤ u ∧ u < 4 ∧ CSp w h x r (2 * u + 1)) ∧ v = .inr ())) := by
  intro q
  induction q with
  | zero => intro t h0 h1; omega
  | succ q ih =>
    intro t h0 h1
    rw [mX1_canWiden_L13]
    by_cases ht : t = 4
    · subst ht
      rw [if_pos (show (4 : Int32) ≤ nI 4 by decide)]
      exact ⟨_, rfl, Or.inr ⟨fun ⟨u, a, b, _⟩ => by omega, rfl⟩⟩
    · have hlt : t < 4 := by omega
      have hs : 2 * t + 1 < 9 := by omega
      have b4 : ib (nI t) 4 := ib_nI hlt (by decide)
      have b9 : ib (nI (2 * t + 1)) 9 := ib_nI hs (by decide)
      have hst := hF.2.2.2.2.2.1 (2 * t + 1) hs
      obtain ⟨a, a1, a2⟩ := ahead_ok hw hF r hs
      rw [if_neg (show ¬ (4 : Int32) ≤ nI t from nI_ge hlt (by decide)), gd_t b4]
      simp only [nI_clamp (show t < 2 ^ 31 by omega), side4_t t hlt, nI_clamp (show 2 * t + 1 < 2 ^ 31 by omega), gd_t b9, jl_s, a1, jb_s, nI_1]
      obtain ⟨v, v1, v2⟩ := ih (t + 1) (by omega) (by omega)
      have hskip : ¬ CSp w h x r (2 * t + 1) → ∃ v, mX1_canWiden_L13 n (4 : Int32) r fst fra x q (nI (t + 1)) = some v ∧ (((∃ u, t ≤ u ∧ u < 4 ∧ CSp w h x r (2 * u + 1)) ∧ v = .inl ()) ∨ ((¬ ∃ u, t ≤ u ∧ u < 4 ∧ CSp w h x r (2 * u + 1)) ∧ v = .inr ())) := by
        intro hno
        refine ⟨v, v1, ?_⟩
        rcases v2 with ⟨⟨u, u1, u2, u3⟩, e⟩ | ⟨g, e⟩
        · exact Or.inl ⟨⟨u, by omega, u2, u3⟩, e⟩
        · refine Or.inr ⟨fun ⟨u, u1, u2, u3⟩ => ?_, e⟩
          by_cases eu : u = t
          · subst eu; exact hno u3
          · exact g ⟨u, by omega, u2, u3⟩
      by_cases z1 : r &&& (fst (2 * t + 1) ^^^ -1) = 0
      · have g1 := sbb_iff.mp (decide_eq_true z1 : sbb (fst (2 * t + 1)) r = true)
        rw [if_pos z1, if_neg (by decide)]
        by_cases z2 : a &&& (x ^^^ -1) = 0
        · have g2 := sbb_iff.mp (decide_eq_true z2 : sbb x a = true)
          rw [if_pos z2]
          refine ⟨_, rfl, Or.inl ⟨⟨t, Nat.le_refl _, hlt, fun j hj => ?_⟩, rfl⟩⟩
          have g3 := (hst j).mp (g1 j hj)
          exact ⟨g3.2, g2 _ ((a2 _).mpr ⟨j, hj, g3.1, g3.2, rfl⟩)⟩
        · rw [if_neg z2]
          refine hskip (fun hc => z2 (of_decide_eq_true (sbb_iff (x := x) (r := a) |>.mpr (fun j hj => ?_))))
          obtain ⟨i, i1, i2, i3, i4⟩ := (a2 j).mp hj
          rw [i4]
          exact (hc i i1).2
      · rw [if_neg z1, if_pos rfl]
        refine hskip (fun hc => z1 (of_decide_eq_true (sbb_iff (x := fst (2 * t + 1)) (r := r) |>.mpr (fun j hj => ?_))))
        exact (hst j).mpr ⟨hr j hj, (hc j hj).1⟩
def CSc (w h : Nat) (x : Int64) (fx fy lx ly s : Nat) : Prop := ∀ a b, fx ≤ a → a ≤ lx → fy ≤ b → b ≤ ly → (1 ≤ a + s % 3 ∧ a + s % 3 ≤ w ∧ 1 ≤ b + s / 3 ∧ b + s / 3 ≤ h) ∧ bt64 x ((b + s / 3 - 1) * w + (a + s % 3 - 1)) = true
theorem csc_iff (hw : 2 ≤ w ∧ w ≤ 7 ∧ 2 ≤ h ∧ h ≤ 7) (hF : FOK w h fw fc fwh fbo fra fst fco fro) (x : Int64) {fx fy lx ly : Nat} (h1 : fx < w) (h2 : fy < h) (h3 : lx < w) (h4 : ly < h) (s : Nat) : CSp w h x (rcv w (fy * w + fx) (ly * w + lx)) s ↔ CSc w h x fx fy lx ly s := by
  obtain ⟨-, -, g⟩ := rcv_both hw hF (co_lt h1 h2) (co_lt h3 h4) (Nat.le_refl _)
  constructor
  · intro q a b q1 q2 q3 q4
    obtain ⟨c1, c2⟩ := q (b * w + a) ((g _).mpr (by
      unfold RcP
      rw [co_mod _ h1, co_mod _ h3, co_div _ h1, co_div _ h3, co_mod b (show a < w by omega), co_div b (show a < w by omega)]
      exact ⟨q1, q2, q3, q4⟩))
    have c3 := tg_co hw.1 c1
    unfold stp at c1
    rw [co_mod b (show a < w by omega), co_div b (show a < w by omega)] at c1 c3
    refine ⟨c1, ?_⟩
    rw [co_eq w (tg w (b * w + a) s), c3.1, c3.2] at c2
    exact c2
  · intro q j hj
    have hj := (g j).mp hj
    unfold RcP at hj
    rw [co_mod _ h1, co_mod _ h3, co_div _ h1, co_div _ h3] at hj
    obtain ⟨c1, c2⟩ := q _ _ hj.1 hj.2.1 hj.2.2.1 hj.2.2.2
    have c4 : stp w h j s := c1
    have c3 := tg_co hw.1 c4
    refine ⟨c4, ?_⟩
    rw [co_eq w (tg w j s), c3.1, c3.2]
    exact c2
theorem cw_side (hw : 2 ≤ w ∧ w ≤ 7 ∧ 2 ≤ h ∧ h ≤ 7) (x : Int64) {fx fy lx ly : Nat} (h1 : fx ≤ lx) (h2 : fy ≤ ly) (h3 : lx < w) (h4 : ly < h) (hin : ∀ a b, fx ≤ a → a ≤ lx → fy ≤ b → b ≤ ly → bt64 x (b * w + a) = true) : (∃ u, 0 ≤ u ∧ u < 4 ∧ CSc w h x fx fy lx ly (2 * u + 1)) ↔ ((0 < fx ∧ ∀ b, fy ≤ b → b ≤ ly → bt64 x (b * w + (fx - 1)) = true) ∨ (lx + 1 < w ∧ ∀ b, fy ≤ b → b ≤ ly → bt64 x (b * w + (lx + 1)) = true) ∨ (0 < fy ∧ ∀ a, fx ≤ a → a ≤ lx → bt64 x ((fy - 1) * w + a) = true) ∨ (ly + 1 < h ∧ ∀ a, fx ≤ a → a ≤ lx → bt64 x ((ly + 1) * w + a) = true)) := by
  have u0 : CSc w h x fx fy lx ly 1 ↔ (0 < fy ∧ ∀ a, fx ≤ a → a ≤ lx → bt64 x ((fy - 1) * w + a) = true) := by
    constructor
    · intro g
      refine ⟨by have := (g fx fy (Nat.le_refl _) h1 (Nat.le_refl _) h2).1; omega, fun a a1 a2 => ?_⟩
      exact (g a fy a1 a2 (Nat.le_refl _) h2).2
    · intro ⟨g1, g2⟩ a b q1 q2 q3 q4
      refine ⟨⟨by omega, by omega, by omega, by omega⟩, ?_⟩
      show bt64 x ((b - 1) * w + a) = true
      by_cases e : b = fy
      · subst e; exact g2 a q1 q2
      · exact hin a (b - 1) q1 q2 (by omega) (by omega)
  have u1 : CSc w h x fx fy lx ly 3 ↔ (0 < fx ∧ ∀ b, fy ≤ b → b ≤ ly → bt64 x (b * w + (fx - 1)) = true) := by
    constructor
    · intro g
      refine ⟨by have := (g fx fy (Nat.le_refl _) h1 (Nat.le_refl _) h2).1; omega, fun b b1 b2 => ?_⟩
      exact (g fx b (Nat.le_refl _) h1 b1 b2).2
    · intro ⟨g1, g2⟩ a b q1 q2 q3 q4
      refine ⟨⟨by omega, by omega, by omega, by omega⟩, ?_⟩
      show bt64 x (b * w + (a - 1)) = true
      by_cases e : a = fx
      · subst e; exact g2 b q3 q4
      · exact hin (a - 1) b (by omega) (by omega) q3 q4
  have u2 : CSc w h x fx fy lx ly 5 ↔ (lx + 1 < w ∧ ∀ b, fy ≤ b → b ≤ ly → bt64 x (b * w + (lx + 1)) = true) := by
    constructor
    · intro g
      refine ⟨by have := (g lx fy h1 (Nat.le_refl _) (Nat.le_refl _) h2).1; omega, fun b b1 b2 => ?_⟩
      exact (g lx b h1 (Nat.le_refl _) b1 b2).2
    · intro ⟨g1, g2⟩ a b q1 q2 q3 q4
      refine ⟨⟨by omega, by omega, by omega, by omega⟩, ?_⟩
      show bt64 x (b * w + (a + 1)) = true
      by_cases e : a = lx
      · subst e; exact g2 b q3 q4
      · exact hin (a + 1) b (by omega) (by omega) q3 q4
  have u3 : CSc w h x fx fy lx ly 7 ↔ (ly + 1 < h ∧ ∀ a, fx ≤ a → a ≤ lx → bt64 x ((ly + 1) * w + a) = true) := by
    constructor
    · intro g
      refine ⟨by have := (g fx ly (Nat.le_refl _) h1 h2 (Nat.le_refl _)).1; omega, fun a a1 a2 => ?_⟩
      exact (g a ly a1 a2 h2 (Nat.le_refl _)).2
    · intro ⟨g1, g2⟩ a b q1 q2 q3 q4
      refine ⟨⟨by omega, by omega, by omega, by omega⟩, ?_⟩
      show bt64 x ((b + 1) * w + a) = true
      by_cases e : b = ly
      · subst e; exact g2 a q1 q2
      · exact hin a (b + 1) q1 q2 (by omega) (by omega)
  constructor
  · rintro ⟨u, -, hu, g⟩
    rcases (show u = 0 ∨ u = 1 ∨ u = 2 ∨ u = 3 by omega) with e | e | e | e <;> subst e
    · exact Or.inr (Or.inr (Or.inl (u0.mp g)))
    · exact Or.inl (u1.mp g)
    · exact Or.inr (Or.inl (u2.mp g))
    · exact Or.inr (Or.inr (Or.inr (u3.mp g)))
  · rintro (g | g | g | g)
    · exact ⟨1, by omega, by omega, u1.mpr g⟩
    · exact ⟨2, by omega, by omega, u2.mpr g⟩
    · exact ⟨0, by omega, by omega, u0.mpr g⟩
    · exact ⟨3, by omega, by omega, u3.mpr g⟩
/-- a box within the picture can be widened: one answer on both sides -/
theorem canWiden_eq (hw : 2 ≤ w ∧ w ≤ 7 ∧ 2 ≤ h ∧ h ≤ 7) (hF : FOK w h fw fc fwh fbo fra fst fco fro) (x : Int64) {f l : Nat} (hf : f < w * h) (hl : l < w * h) (hx : f % w ≤ l % w) (hy : f / w ≤ l / w) (hal : alI w x f l = true) {n : Nat} (hn : 10 ^ 80 ≤ n) : mX1_canWiden n fst fra (rcv w f l) x = some (if cwd w h x f l = true then 1 else 0) := by
  have hb := wh_lt hw
  have df := dm_lt hf (show 0 < w by omega)
  have dl := dm_lt hl (show 0 < w by omega)
  have hr : ∀ j, bt64 (rcv w f l) j = true → j < w * h := by
    intro j hj
    have := (rc_iff (show 0 < w by omega)).mp (((rcv_both hw hF hf hl hn).2.2 j).mp hj)
    omega
  obtain ⟨v, v1, v2⟩ := cw_L hw hF x hr n n 0 (by omega) (by omega)
  have ef := co_eq w f
  have el := co_eq w l
  have key : (∃ u, 0 ≤ u ∧ u < 4 ∧ CSp w h x (rcv w f l) (2 * u + 1)) ↔ cwd w h x f l = true := by
    generalize f % w = fx at *
    generalize f / w = fy at *
    generalize l % w = lx at *
    generalize l / w = ly at *
    subst ef el
    rw [cwd_iff hw hF x hx hy dl.1 dl.2, ← cw_side hw x hx hy dl.1 dl.2 ((alI_co hw hF x df.1 df.2 dl.1 dl.2).mp hal)]
    exact ⟨fun ⟨u, a, b, c⟩ => ⟨u, a, b, (csc_iff hw hF x df.1 df.2 dl.1 dl.2 _).mp c⟩, fun ⟨u, a, b, c⟩ => ⟨u, a, b, (csc_iff hw hF x df.1 df.2 dl.1 dl.2 _).mpr c⟩⟩
  unfold mX1_canWiden
  rw [show (0 : Int32) = nI 0 from rfl, v1, jb_s]
  rw [key] at v2
  rcases v2 with ⟨g, e⟩ | ⟨g, e⟩
  · subst e; rw [if_pos g]; rfl
  · subst e; rw [if_neg g]; rfl
end
