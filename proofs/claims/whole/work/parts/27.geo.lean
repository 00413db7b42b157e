def tg (w i s : Nat) : Nat := i + (s / 3 * w + s % 3) - (w + 1)
def rz (s w : Nat) : Int32 := Int32.ofInt (((s / 3 : Nat) : Int) * w + ((s % 3 : Nat) : Int) - w - 1)
def chkR (s w : Nat) : Bool := if s < 4 then decide (rz s w < 0) && decide (-(rz s w) = nI (w + 1 - (s / 3 * w + s % 3))) else (!decide (rz s w < 0)) && decide (rz s w = nI (s / 3 * w + s % 3 - (w + 1)))
theorem chkR_all : ∀ s : Nat, s < 9 → ∀ w : Nat, w < 8 → 2 ≤ w → chkR s w = true := by decide +kernel
theorem raise_tab (s : Nat) (hs : s < 9) (w : Nat) (hw : w < 8) (h2 : 2 ≤ w) : (s < 4 → Int32.ofInt (((s / 3 : Nat) : Int) * w + ((s % 3 : Nat) : Int) - w - 1) < 0 ∧ -(Int32.ofInt (((s / 3 : Nat) : Int) * w + ((s % 3 : Nat) : Int) - w - 1)) = nI (w + 1 - (s / 3 * w + s % 3))) ∧ (4 ≤ s → ¬ Int32.ofInt (((s / 3 : Nat) : Int) * w + ((s % 3 : Nat) : Int) - w - 1) < 0 ∧ Int32.ofInt (((s / 3 : Nat) : Int) * w + ((s % 3 : Nat) : Int) - w - 1) = nI (s / 3 * w + s % 3 - (w + 1))) := by
  have h := chkR_all s hs w hw h2
  unfold chkR at h
  refine ⟨fun q => ?_, fun q => ?_⟩
  · rw [if_pos q] at h
    simp only [Bool.and_eq_true, decide_eq_true_eq] at h
    exact h
  · rw [if_neg (by omega)] at h
    simp only [Bool.and_eq_true, Bool.not_eq_true', decide_eq_false_iff_not, decide_eq_true_eq] at h
    exact h
theorem sum_tab : ∀ s, s < 9 → ∀ w, w < 8 → 2 ≤ w → (s < 4 → s / 3 * w + s % 3 ≤ w + 1) ∧ (4 ≤ s → w + 1 ≤ s / 3 * w + s % 3) ∧ s / 3 * w + s % 3 ≤ 2 * w + 2 := by decide +kernel
def chkS (w h c s : Nat) : Bool := !decide (2 ≤ w ∧ 2 ≤ h ∧ c < w * h) || decide (mX8_stepFrom (nI w) (nI h) (nI c) (nI s) = some (if 1 ≤ c % w + s % 3 ∧ c % w + s % 3 ≤ w ∧ 1 ≤ c / w + s / 3 ∧ c / w + s / 3 ≤ h then nI (tg w c s) else -9))
theorem chkS_all : ∀ w : Nat, w < 8 → ∀ h : Nat, h < 8 → ∀ c : Nat, c < 49 → ∀ s : Nat, s < 9 → chkS w h c s = true := by decide +kernel
theorem step_tab (w : Nat) (h1 : w < 8) (h : Nat) (h2 : h < 8) (c : Nat) (h3 : c < 49) (s : Nat) (h4 : s < 9) (h5 : 2 ≤ w ∧ 2 ≤ h ∧ c < w * h) : mX8_stepFrom (nI w) (nI h) (nI c) (nI s) = some (if 1 ≤ c % w + s % 3 ∧ c % w + s % 3 ≤ w ∧ 1 ≤ c / w + s / 3 ∧ c / w + s / 3 ≤ h then nI (tg w c s) else -9) := by
  have hh := chkS_all w h1 h h2 c h3 s h4
  unfold chkS at hh
  simp only [Bool.or_eq_true, Bool.not_eq_true', decide_eq_false_iff_not, decide_eq_true_eq] at hh
  exact hh.resolve_left (fun n => n h5)
theorem step_in {w h c s : Nat} (hw : 2 ≤ w ∧ w ≤ 7 ∧ 2 ≤ h ∧ h ≤ 7) (hc : c < w * h) (hs : s < 9) (h1 : stp w h c s) : mX8_stepFrom (nI w) (nI h) (nI c) (nI s) = some (nI (tg w c s)) := by
  have := wh_lt hw
  unfold stp at h1
  rw [step_tab w (by omega) h (by omega) c (by omega) s hs ⟨hw.1, hw.2.2.1, hc⟩, if_pos h1]
theorem step_out {w h c s : Nat} (hw : 2 ≤ w ∧ w ≤ 7 ∧ 2 ≤ h ∧ h ≤ 7) (hc : c < w * h) (hs : s < 9) (h1 : ¬ stp w h c s) : mX8_stepFrom (nI w) (nI h) (nI c) (nI s) = some (-9) := by
  have := wh_lt hw
  unfold stp at h1
  rw [step_tab w (by omega) h (by omega) c (by omega) s hs ⟨hw.1, hw.2.2.1, hc⟩, if_neg h1]
theorem tg_lt {w h i s : Nat} (hw : 2 ≤ w ∧ w ≤ 7 ∧ 2 ≤ h ∧ h ≤ 7) (h1 : stp w h i s) : tg w i s < w * h := by
  obtain ⟨a, b, c, d⟩ := h1
  obtain ⟨w2, w7, h2, h7⟩ := hw
  unfold tg
  have hi : i = i / w * w + i % w := by rw [Nat.mul_comm]; exact (Nat.div_add_mod i w).symm
  have hlt : i % w < w := Nat.mod_lt _ (by omega)
  generalize i / w = y at *
  generalize i % w = x at *
  generalize s / 3 = sy at *
  generalize s % 3 = sx at *
  have e1 : (y + sy) * w = y * w + sy * w := Nat.add_mul _ _ _
  have e2 : (y + sy) * w ≤ h * w := Nat.mul_le_mul_right w d
  have e3 : 0 < h * w := Nat.mul_pos (by omega) (by omega)
  rw [Nat.mul_comm w h]
  omega
theorem tg_ge {w h i s : Nat} (hw : 2 ≤ w) (h1 : stp w h i s) : w + 1 ≤ i + (s / 3 * w + s % 3) := by
  obtain ⟨a, b, c, d⟩ := h1
  have hi : i = i / w * w + i % w := by rw [Nat.mul_comm]; exact (Nat.div_add_mod i w).symm
  generalize i / w = y at *
  generalize i % w = x at *
  generalize s / 3 = sy at *
  generalize s % 3 = sx at *
  have e1 : (y + sy) * w = y * w + sy * w := Nat.add_mul _ _ _
  have e2 : 1 * w ≤ (y + sy) * w := Nat.mul_le_mul_right w c
  omega
theorem sh31 : ∀ s, s < 32 → ((nI s &&& 31).toBitVec.smod 32).toNat = s := by decide +kernel
theorem sbit {k s : Nat} (hk : k < 512) (hs : s < 9) : (nI k >>> (nI s &&& 31)) &&& 1 = if k.testBit s then 1 else 0 := by
  rw [pk_shrN (by omega) _ s (sh31 s (by omega)), Nat.testBit_eq_decide_div_mod_eq]
  have h2 : k / 2 ^ s < 2 ^ 32 := Nat.lt_of_le_of_lt (Nat.div_le_self _ _) (by omega)
  rw [pk_andN h2 (m := 1) 1 (by decide), Nat.pow_one]
  rcases Nat.mod_two_eq_zero_or_one (k / 2 ^ s) with e | e <;> rw [e] <;> rfl
theorem sbit0 {k s : Nat} (hk : k < 512) (hs : s < 9) : (nI k >>> (nI s &&& 31)) &&& 1 = 0 ↔ k.testBit s = false := by
  rw [sbit hk hs]; cases k.testBit s <;> simp
theorem sbit1 {k s : Nat} (hk : k < 512) (hs : s < 9) : (nI k >>> (nI s &&& 31)) &&& 1 = 1 ↔ k.testBit s = true := by
  rw [sbit hk hs]; cases k.testBit s <;> simp
section
variable {w h : Nat} {fw fc : Int32} {fwh fbo : Int64} {fra fco fro : Nat → Int32} {fst : Nat → Int64}
theorem ahead_ok (hw : 2 ≤ w ∧ w ≤ 7 ∧ 2 ≤ h ∧ h ≤ 7) (hF : FOK w h fw fc fwh fbo fra fst fco fro) (x : Int64) {s : Nat} (hs : s < 9) : ∃ a, mX1_ahead fra fst x (nI s) = some a ∧ ∀ j, bt64 a j = true ↔ ∃ i, bt64 x i = true ∧ i < w * h ∧ stp w h i s ∧ j = tg w i s := by
  obtain ⟨-, -, -, -, hra, hst, -⟩ := hF
  have hb := wh_lt hw
  have b9 : ib (nI s) 9 := ib_nI hs (by decide)
  unfold mX1_ahead
  rw [gd_t b9, gd_t b9, nI_clamp (by omega), hra s hs]
  have rt := raise_tab s hs w (by omega) hw.1
  have st := sum_tab s hs w (by omega) hw.1
  rcases Nat.lt_or_ge s 4 with q | q
  · obtain ⟨r1, r2⟩ := rt.1 q
    rw [if_pos r1, r2]
    refine ⟨_, rfl, fun j => ?_⟩
    have hD : w + 1 - (s / 3 * w + s % 3) < 64 := by omega
    rw [bt_ushr _ hD, bt_and, Bool.and_eq_true, hst s hs]
    constructor
    · rintro ⟨h1, h2, h3⟩
      exact ⟨_, h1, h2, h3, by unfold tg; have := st.1 q; omega⟩
    · rintro ⟨i, h1, h2, h3, h4⟩
      have h5 := tg_ge hw.1 h3
      have e : w + 1 - (s / 3 * w + s % 3) + j = i := by unfold tg at h4; have := st.1 q; omega
      rw [e]
      exact ⟨h1, h2, h3⟩
  · obtain ⟨r1, r2⟩ := rt.2 q
    rw [if_neg r1, r2]
    refine ⟨_, rfl, fun j => ?_⟩
    have hD : s / 3 * w + s % 3 - (w + 1) < 64 := by omega
    rw [bt_shl _ hD, bt_and, Bool.and_eq_true, Bool.and_eq_true, hst s hs, decide_eq_true_eq]
    constructor
    · rintro ⟨⟨g1, g2⟩, h1, h2, h3⟩
      exact ⟨_, h1, h2, h3, by unfold tg; have := st.2.1 q; omega⟩
    · rintro ⟨i, h1, h2, h3, h4⟩
      have h5 := tg_lt hw h3
      have e : j - (s / 3 * w + s % 3 - (w + 1)) = i := by unfold tg at h4; have := st.2.1 q; omega
      rw [e]
      exact ⟨⟨by unfold tg at h4; have := st.2.1 q; omega, by omega⟩, h1, h2, h3⟩
theorem behind_ok (hw : 2 ≤ w ∧ w ≤ 7 ∧ 2 ≤ h ∧ h ≤ 7) (hF : FOK w h fw fc fwh fbo fra fst fco fro) (x : Int64) {s : Nat} (hs : s < 9) : ∃ a, mX1_behind fra fst x (nI s) = some a ∧ ∀ i, bt64 a i = true ↔ (i < w * h ∧ stp w h i s ∧ bt64 x (tg w i s) = true) := by
  obtain ⟨-, -, -, -, hra, hst, -⟩ := hF
  have hb := wh_lt hw
  have b9 : ib (nI s) 9 := ib_nI hs (by decide)
  unfold mX1_behind
  simp only [gd_t b9, nI_clamp (show s < 2 ^ 31 by omega), hra s hs, jl_s]
  have rt := raise_tab s hs w (by omega) hw.1
  have st := sum_tab s hs w (by omega) hw.1
  rcases Nat.lt_or_ge s 4 with q | q
  · obtain ⟨r1, r2⟩ := rt.1 q
    rw [if_pos r1, r2]
    refine ⟨_, rfl, fun i => ?_⟩
    have hD : w + 1 - (s / 3 * w + s % 3) < 64 := by omega
    rw [bt_and, Bool.and_eq_true, bt_shl _ hD, Bool.and_eq_true, hst s hs, decide_eq_true_eq]
    constructor
    · rintro ⟨⟨⟨g1, g2⟩, g3⟩, h1, h2⟩
      refine ⟨h1, h2, ?_⟩
      rw [show tg w i s = i - (w + 1 - (s / 3 * w + s % 3)) by unfold tg; have := st.1 q; omega]
      exact g3
    · rintro ⟨h1, h2, h3⟩
      have h5 := tg_ge hw.1 h2
      rw [show tg w i s = i - (w + 1 - (s / 3 * w + s % 3)) by unfold tg; have := st.1 q; omega] at h3
      exact ⟨⟨⟨by omega, by omega⟩, h3⟩, h1, h2⟩
  · obtain ⟨r1, r2⟩ := rt.2 q
    rw [if_neg r1, r2]
    refine ⟨_, rfl, fun i => ?_⟩
    have hD : s / 3 * w + s % 3 - (w + 1) < 64 := by omega
    rw [bt_and, Bool.and_eq_true, bt_ushr _ hD, hst s hs]
    rw [show s / 3 * w + s % 3 - (w + 1) + i = tg w i s by unfold tg; have := st.2.1 q; omega]
    constructor
    · rintro ⟨h1, h2, h3⟩; exact ⟨h2, h3, h1⟩
    · rintro ⟨h1, h2, h3⟩; exact ⟨h3, h1, h2⟩
end
