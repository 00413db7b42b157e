theorem co_mod {w a : Nat} (b : Nat) (ha : a < w) : (b * w + a) % w = a := by rw [Nat.mul_comm, Nat.mul_add_mod, Nat.mod_eq_of_lt ha]
theorem co_div {w a : Nat} (b : Nat) (ha : a < w) : (b * w + a) / w = b := by
  rw [Nat.mul_comm, Nat.mul_add_div (by omega), Nat.div_eq_of_lt ha, Nat.add_zero]
theorem co_eq (w j : Nat) : j = j / w * w + j % w := by rw [Nat.mul_comm]; exact (Nat.div_add_mod j w).symm
theorem co_lt {w h a b : Nat} (ha : a < w) (hb : b < h) : b * w + a < w * h := by
  have := Nat.mul_le_mul_right w (show b + 1 ≤ h by omega)
  rw [Nat.add_mul, Nat.one_mul, Nat.mul_comm h w] at this
  omega
noncomputable def rcv (w f l : Nat) : Int64 := Classical.epsilon (fun g => ∀ j, bt64 g j = true ↔ RcP w f l j)
section
variable {w h : Nat} {fw fc : Int32} {fwh fbo : Int64} {fra fco fro : Nat → Int32} {fst : Nat → Int64}
theorem rcv_both (hw : 2 ≤ w ∧ w ≤ 7 ∧ 2 ≤ h ∧ h ≤ 7) (hF : FOK w h fw fc fwh fbo fra fst fco fro) {f l : Nat} (hf : f < w * h) (hl : l < w * h) {n : Nat} (hn : 10 ^ 80 ≤ n) : mX1_rectangle n fco fro fw (nI f) (nI l) = some (rcv w f l) ∧ mX8_boxOf n (nI w) (nI f) (nI l) = some (rcv w f l) ∧ ∀ j, bt64 (rcv w f l) j = true ↔ RcP w f l j := by
  obtain ⟨g, g1, g2, g3⟩ := rect_both hw hF hf hl hn
  have hs : ∀ j, bt64 (rcv w f l) j = true ↔ RcP w f l j := Classical.epsilon_spec (p := fun g => ∀ j, bt64 g j = true ↔ RcP w f l j) ⟨g, g3⟩
  have e : g = rcv w f l := bt_eqv g3 hs
  rw [← e]
  exact ⟨g1, g2, g3⟩
def sbb (x r : Int64) : Bool := decide (r &&& (x ^^^ -1) = 0)
theorem sbb_iff {x r : Int64} : sbb x r = true ↔ ∀ j, bt64 r j = true → bt64 x j = true := by
  unfold sbb
  rw [decide_eq_true_eq, eq0_iff]
  constructor
  · intro g j hj
    have := g j (bt_lt hj)
    rw [bt_andn, hj] at this
    cases hx : bt64 x j
    · rw [hx] at this; cases this
    · rfl
  · intro g j _
    rw [bt_andn]
    cases hj : bt64 r j
    · rfl
    · rw [g j hj]; rfl
noncomputable def alI (w : Nat) (x : Int64) (f l : Nat) : Bool := sbb x (rcv w f l)
theorem alI_eq (hw : 2 ≤ w ∧ w ≤ 7 ∧ 2 ≤ h ∧ h ≤ 7) (hF : FOK w h fw fc fwh fbo fra fst fco fro) (x : Int64) {f l : Nat} (hf : f < w * h) (hl : l < w * h) {n : Nat} (hn : 10 ^ 80 ≤ n) : mX8_isAllIn n (nI w) x (nI f) (nI l) = some (if alI w x f l = true then 1 else 0) := by
  obtain ⟨-, g2, -⟩ := rcv_both hw hF hf hl hn
  unfold mX8_isAllIn alI sbb
  rw [g2, jb_s]
  by_cases hz : rcv w f l &&& (x ^^^ -1) = 0
  · rw [if_pos hz, if_pos (decide_eq_true hz)]
  · rw [if_neg hz, if_neg (by rw [decide_eq_true_eq]; exact hz)]
theorem alI_co (hw : 2 ≤ w ∧ w ≤ 7 ∧ 2 ≤ h ∧ h ≤ 7) (hF : FOK w h fw fc fwh fbo fra fst fco fro) (x : Int64) {fx fy lx ly : Nat} (h1 : fx < w) (h2 : fy < h) (h3 : lx < w) (h4 : ly < h) : alI w x (fy * w + fx) (ly * w + lx) = true ↔ ∀ a b, fx ≤ a → a ≤ lx → fy ≤ b → b ≤ ly → bt64 x (b * w + a) = true := by
  obtain ⟨-, -, g⟩ := rcv_both hw hF (co_lt h1 h2) (co_lt h3 h4) (Nat.le_refl _)
  unfold alI
  rw [sbb_iff]
  constructor
  · intro q a b q1 q2 q3 q4
    refine q _ ((g _).mpr ?_)
    unfold RcP
    rw [co_mod _ h1, co_mod _ h3, co_div _ h1, co_div _ h3, co_mod b (show a < w by omega), co_div b (show a < w by omega)]
    exact ⟨q1, q2, q3, q4⟩
  · intro q j hj
    have hj := (g j).mp hj
    unfold RcP at hj
    rw [co_mod _ h1, co_mod _ h3, co_div _ h1, co_div _ h3] at hj
    rw [co_eq w j]
    exact q _ _ hj.1 hj.2.1 hj.2.2.1 hj.2.2.2
noncomputable def cwd (w h : Nat) (x : Int64) (f l : Nat) : Bool :=
  (decide (0 < f % w) && alI w x (f - 1) (l / w * w + f % w - 1)) || ((decide (l % w + 1 < w) && alI w x (f / w * w + l % w + 1) (l + 1)) || ((decide (0 < f / w) && alI w x (f - w) ((f / w - 1) * w + l % w)) || (decide (l / w + 1 < h) && alI w x ((l / w + 1) * w + f % w) (l + w))))
theorem bsel {α : Type} (b : Bool) (p q : α) : (if (if b = true then (1 : Int32) else 0) = 0 then p else q) = if b = true then q else p := by cases b <;> rfl
theorem bsel2 (b : Bool) : (if (if b = true then (1 : Int32) else 0) = 0 then (some (0 : Int32)) else some 1) = some (if b = true then 1 else 0) := by cases b <;> rfl
theorem isWithin_eq (hw : 2 ≤ w ∧ w ≤ 7 ∧ 2 ≤ h ∧ h ≤ 7) (hF : FOK w h fw fc fwh fbo fra fst fco fro) (x : Int64) {f l : Nat} (hf : f < w * h) (hl : l < w * h) {n : Nat} (hn : 10 ^ 80 ≤ n) : mX8_isWithin n (nI w) (nI h) x (nI f) (nI l) = some (if cwd w h x f l = true then 1 else 0) := by
  have hb := wh_lt hw
  have nz : ¬ nI w = 0 := nI_ne0 (by omega) (by omega)
  have df := dm_lt hf (show 0 < w by omega)
  have dl := dm_lt hl (show 0 < w by omega)
  have ef := co_eq w f
  have el := co_eq w l
  unfold mX8_isWithin cwd
  rw [gd_t nz, gd_t nz, gd_t nz, gd_t nz]
  rw [rem_nI (show f < 2 ^ 31 by omega) (show 0 < w by omega) (show w < 2 ^ 31 by omega), rem_nI (show l < 2 ^ 31 by omega) (show 0 < w by omega) (show w < 2 ^ 31 by omega), div_nI (show f < 2 ^ 31 by omega) (show 0 < w by omega) (show w < 2 ^ 31 by omega), div_nI (show l < 2 ^ 31 by omega) (show 0 < w by omega) (show w < 2 ^ 31 by omega)]
  generalize f % w = fx at *
  generalize f / w = fy at *
  generalize l % w = lx at *
  generalize l / w = ly at *
  have c1 := co_lt df.1 df.2
  have c2 := co_lt dl.1 dl.2
  have e1 : (if nI fx ≤ 0 then (some (0 : Int32)) else jb (mX8_isAllIn n (nI w) x (nI f - 1) (nI ly * nI w + nI fx - 1)) (fun (r9 : Int32) => if r9 = 0 then (some 0) else some 1)) = some (if (decide (0 < fx) && alI w x (f - 1) (ly * w + fx - 1)) = true then 1 else 0) := by
    by_cases q : 0 < fx
    · have c3 := co_lt (a := fx - 1) (w := w) (by omega) dl.2
      rw [if_neg (show ¬ nI fx ≤ (0 : Int32) from nI_ge q (by omega)), pk_mul, nI_add, show nI f - 1 = nI (f - 1) from pk_sub (b := 1) (by omega), show nI (ly * w + fx) - 1 = nI (ly * w + fx - 1) from pk_sub (b := 1) (by omega), alI_eq hw hF x (by omega) (by omega) hn, jb_s]
      rw [bsel2]
      simp [q]
    · rw [if_pos (show nI fx ≤ (0 : Int32) from nI_le (show fx ≤ 0 by omega) (by decide))]
      simp [q]
  have e2 : (if nI w - 1 ≤ nI lx then (some (0 : Int32)) else jb (mX8_isAllIn n (nI w) x (nI fy * nI w + nI lx + 1) (nI l + 1)) (fun (r9 : Int32) => if r9 = 0 then (some 0) else some 1)) = some (if (decide (lx + 1 < w) && alI w x (fy * w + lx + 1) (l + 1)) = true then 1 else 0) := by
    rw [show nI w - 1 = nI (w - 1) from pk_sub (b := 1) (by omega)]
    by_cases q : lx + 1 < w
    · have c3 := co_lt (a := lx + 1) (w := w) (by omega) df.2
      have c4 := co_lt (a := lx + 1) (w := w) (by omega) dl.2
      rw [if_neg (nI_ge (show lx < w - 1 by omega) (by omega)), pk_mul, nI_add, nI_1, nI_1, alI_eq hw hF x (by omega) (by omega) hn, jb_s, bsel2]
      simp [q]
    · rw [if_pos (nI_le (show w - 1 ≤ lx by omega) (by omega))]
      simp [q]
  have e3 : (if nI fy ≤ 0 then (some (0 : Int32)) else jb (mX8_isAllIn n (nI w) x (nI f - nI w) ((nI fy - 1) * nI w + nI lx)) (fun (r9 : Int32) => if r9 = 0 then (some 0) else some 1)) = some (if (decide (0 < fy) && alI w x (f - w) ((fy - 1) * w + lx)) = true then 1 else 0) := by
    by_cases q : 0 < fy
    · have c3 := co_lt (a := lx) (b := fy - 1) (w := w) dl.1 (show fy - 1 < h by omega)
      have c4 := Nat.mul_le_mul_right w (show 1 ≤ fy by omega)
      rw [if_neg (show ¬ nI fy ≤ (0 : Int32) from nI_ge q (by omega)), show nI fy - 1 = nI (fy - 1) from pk_sub (b := 1) (by omega), pk_mul, nI_add, pk_sub (by omega), alI_eq hw hF x (by omega) c3 hn, jb_s, bsel2]
      simp [q]
    · rw [if_pos (show nI fy ≤ (0 : Int32) from nI_le (show fy ≤ 0 by omega) (by decide))]
      simp [q]
  have e4 : (if nI h - 1 ≤ nI ly then (some (0 : Int32)) else jb (mX8_isAllIn n (nI w) x ((nI ly + 1) * nI w + nI fx) (nI l + nI w)) (fun (r9 : Int32) => if r9 = 0 then (some 0) else some 1)) = some (if (decide (ly + 1 < h) && alI w x ((ly + 1) * w + fx) (l + w)) = true then 1 else 0) := by
    rw [show nI h - 1 = nI (h - 1) from pk_sub (b := 1) (by omega)]
    by_cases q : ly + 1 < h
    · have c3 := co_lt df.1 q
      have c4 := co_lt dl.1 q
      have c5 : (ly + 1) * w = ly * w + w := Nat.succ_mul ly w
      rw [if_neg (nI_ge (show ly < h - 1 by omega) (by omega)), nI_1, pk_mul, nI_add, nI_add, alI_eq hw hF x c3 (by omega) hn, jb_s, bsel2]
      simp [q]
    · rw [if_pos (nI_le (show h - 1 ≤ ly by omega) (by omega))]
      simp [q]
  rw [e1, jb_s, e2, jb_s, e3, jb_s, e4, jb_s]
  generalize (decide (0 < fx) && alI w x (f - 1) (ly * w + fx - 1)) = b1
  generalize (decide (lx + 1 < w) && alI w x (fy * w + lx + 1) (l + 1)) = b2
  generalize (decide (0 < fy) && alI w x (f - w) ((fy - 1) * w + lx)) = b3
  generalize (decide (ly + 1 < h) && alI w x ((ly + 1) * w + fx) (l + w)) = b4
  cases b1 <;> cases b2 <;> cases b3 <;> cases b4 <;> rfl
theorem cwd_iff (hw : 2 ≤ w ∧ w ≤ 7 ∧ 2 ≤ h ∧ h ≤ 7) (hF : FOK w h fw fc fwh fbo fra fst fco fro) (x : Int64) {fx fy lx ly : Nat} (h1 : fx ≤ lx) (h2 : fy ≤ ly) (h3 : lx < w) (h4 : ly < h) : cwd w h x (fy * w + fx) (ly * w + lx) = true ↔ ((0 < fx ∧ ∀ b, fy ≤ b → b ≤ ly → bt64 x (b * w + (fx - 1)) = true) ∨ (lx + 1 < w ∧ ∀ b, fy ≤ b → b ≤ ly → bt64 x (b * w + (lx + 1)) = true) ∨ (0 < fy ∧ ∀ a, fx ≤ a → a ≤ lx → bt64 x ((fy - 1) * w + a) = true) ∨ (ly + 1 < h ∧ ∀ a, fx ≤ a → a ≤ lx → bt64 x ((ly + 1) * w + a) = true)) := by
  unfold cwd
  rw [co_mod fy (show fx < w by omega), co_div fy (show fx < w by omega), co_mod ly h3, co_div ly h3]
  simp only [Bool.or_eq_true, Bool.and_eq_true, decide_eq_true_eq]
  have e1 : 0 < fx → (alI w x (fy * w + fx - 1) (ly * w + fx - 1) = true ↔ ∀ b, fy ≤ b → b ≤ ly → bt64 x (b * w + (fx - 1)) = true) := by
    intro q
    rw [show fy * w + fx - 1 = fy * w + (fx - 1) by omega, show ly * w + fx - 1 = ly * w + (fx - 1) by omega, alI_co hw hF x (by omega) (by omega) (by omega) h4]
    exact ⟨fun g b => g _ b (Nat.le_refl _) (Nat.le_refl _), fun g a b q1 q2 => by rw [show a = fx - 1 by omega]; exact g b⟩
  have e2 : lx + 1 < w → (alI w x (fy * w + lx + 1) (ly * w + lx + 1) = true ↔ ∀ b, fy ≤ b → b ≤ ly → bt64 x (b * w + (lx + 1)) = true) := by
    intro q
    rw [Nat.add_assoc, Nat.add_assoc, alI_co hw hF x q (by omega) q h4]
    exact ⟨fun g b => g _ b (Nat.le_refl _) (Nat.le_refl _), fun g a b q1 q2 => by rw [show a = lx + 1 by omega]; exact g b⟩
  have e3 : 0 < fy → (alI w x (fy * w + fx - w) ((fy - 1) * w + lx) = true ↔ ∀ a, fx ≤ a → a ≤ lx → bt64 x ((fy - 1) * w + a) = true) := by
    intro q
    have : fy * w = (fy - 1) * w + w := by rw [← Nat.succ_mul, show (fy - 1).succ = fy by omega]
    rw [show fy * w + fx - w = (fy - 1) * w + fx by omega, alI_co hw hF x (by omega) (by omega) h3 (by omega)]
    exact ⟨fun g a q1 q2 => g a _ q1 q2 (Nat.le_refl _) (Nat.le_refl _), fun g a b q1 q2 q3 q4 => by rw [show b = fy - 1 by omega]; exact g a q1 q2⟩
  have e4 : ly + 1 < h → (alI w x ((ly + 1) * w + fx) (ly * w + lx + w) = true ↔ ∀ a, fx ≤ a → a ≤ lx → bt64 x ((ly + 1) * w + a) = true) := by
    intro q
    have : (ly + 1) * w = ly * w + w := Nat.succ_mul ly w
    rw [show ly * w + lx + w = (ly + 1) * w + lx by omega, alI_co hw hF x (by omega) q h3 q]
    exact ⟨fun g a q1 q2 => g a _ q1 q2 (Nat.le_refl _) (Nat.le_refl _), fun g a b q1 q2 q3 q4 => by rw [show b = ly + 1 by omega]; exact g a q1 q2⟩
  exact or_congr (and_congr_right e1) (or_congr (and_congr_right e2) (or_congr (and_congr_right e3) (and_congr_right e4)))
end
