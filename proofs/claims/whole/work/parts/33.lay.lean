theorem lay_row {w h y : Nat} (hw : 2 ≤ w ∧ w ≤ 7 ∧ 2 ≤ h ∧ h ≤ 7) (hy : y < h) (n : Nat) : ∀ (q x : Nat) (fco fro : Nat → Int32), x ≤ w → w - x < q → ∃ C R, mX1_lay_L38 n (nI w) (nI y) q (nI (w * y + x)) (nI x) fco fro = some (nI (w * y + w), C, R) ∧ ∀ i, (w * y + x ≤ i ∧ i < w * y + w → C i = nI (i - w * y) ∧ R i = nI y) ∧ (¬ (w * y + x ≤ i ∧ i < w * y + w) → C i = fco i ∧ R i = fro i) := by
  have hb := wh_lt hw
  have hm : w * y + w ≤ w * h := by rw [← Nat.mul_succ]; exact Nat.mul_le_mul_left w hy
  intro q
  induction q with
  | zero => intro x fco fro h1 h2; omega
  | succ q ih =>
    intro x fco fro h1 h2
    rw [mX1_lay_L38]
    by_cases hx : x = w
    · subst hx
      rw [if_pos (Int32.le_refl _)]
      exact ⟨_, _, rfl, fun i => ⟨fun g => by omega, fun _ => ⟨rfl, rfl⟩⟩⟩
    · have hlt : x < w := by omega
      have bi : ib (nI (w * y + x)) 49 := ib_nI (by omega) (by decide)
      rw [if_neg (nI_ge hlt (by omega)), gd_t bi, gd_t bi, nI_clamp (by omega), nI_1, nI_1]
      obtain ⟨C, R, e1, e2⟩ := ih (x + 1) (upd fco (w * y + x) (nI x)) (upd fro (w * y + x) (nI y)) (by omega) (by omega)
      refine ⟨C, R, e1, fun i => ⟨fun g => ?_, fun g => ?_⟩⟩
      · by_cases e : i = w * y + x
        · subst e
          have := (e2 (w * y + x)).2 (by omega)
          rw [this.1, this.2, pk_us, pk_us]
          exact ⟨by rw [Nat.add_sub_cancel_left], rfl⟩
        · exact (e2 i).1 (by omega)
      · have := (e2 i).2 (by omega)
        rw [this.1, this.2, pk_un (by omega), pk_un (by omega)]
        exact ⟨rfl, rfl⟩
theorem lay_rows {w h : Nat} (hw : 2 ≤ w ∧ w ≤ 7 ∧ 2 ≤ h ∧ h ≤ 7) {n : Nat} (hn : 10 ^ 80 ≤ n) : ∀ (q y : Nat) (fco fro : Nat → Int32), y ≤ h → h - y < q → ∃ C R, mX1_lay_L29 n (nI h) (nI w) q (nI (w * y)) (nI y) fco fro = some (C, R) ∧ ∀ i, (w * y ≤ i ∧ i < w * h → C i = nI (i % w) ∧ R i = nI (i / w)) ∧ (i < w * y → C i = fco i ∧ R i = fro i) := by
  have hb := wh_lt hw
  intro q
  induction q with
  | zero => intro y fco fro h1 h2; omega
  | succ q ih =>
    intro y fco fro h1 h2
    rw [mX1_lay_L29]
    by_cases hy : y = h
    · subst hy
      rw [if_pos (Int32.le_refl _)]
      exact ⟨_, _, rfl, fun i => ⟨fun g => by omega, fun _ => ⟨rfl, rfl⟩⟩⟩
    · have hlt : y < h := by omega
      rw [if_neg (nI_ge hlt (by omega))]
      obtain ⟨C1, R1, e1, e2⟩ := lay_row hw hlt n n 0 fco fro (Nat.zero_le _) (by omega)
      rw [Nat.add_zero] at e1
      rw [show (0 : Int32) = nI 0 from rfl, e1, jb3_s, nI_1, ← Nat.mul_succ]
      obtain ⟨C, R, f1, f2⟩ := ih (y + 1) C1 R1 (by omega) (by omega)
      have hms : w * (y + 1) = w * y + w := Nat.mul_succ w y
      refine ⟨C, R, f1, fun i => ⟨fun g => ?_, fun g => ?_⟩⟩
      · rcases Nat.lt_or_ge i (w * (y + 1)) with q1 | q1
        · have a1 := (f2 i).2 q1
          have a2 := (e2 i).1 (by omega)
          have ei : i = w * y + (i - w * y) := by omega
          have m1 : i % w = i - w * y := by
            rw [ei, Nat.mul_add_mod, Nat.mod_eq_of_lt (by omega)]
            omega
          have m2 : i / w = y := by
            have h9 := Nat.div_add_mod i w
            have h10 : w * (i / w) = w * y := by omega
            exact Nat.eq_of_mul_eq_mul_left (by omega) h10
          rw [a1.1, a1.2, a2.1, a2.2, m1, m2]
          exact ⟨rfl, rfl⟩
        · exact (f2 i).1 ⟨q1, g.2⟩
      · have a1 := (f2 i).2 (by omega)
        have a2 := (e2 i).2 (by omega)
        rw [a1.1, a1.2, a2.1, a2.2]
        exact ⟨rfl, rfl⟩
theorem dx_tab : ∀ s : Nat, s < 9 → (jrem (nI s) 3 - 1).toInt = ((s % 3 : Nat) : Int) - 1 ∧ (nI s / 3 - 1).toInt = ((s / 3 : Nat) : Int) - 1 := by decide +kernel
theorem rz_tab : ∀ s : Nat, s < 9 → ∀ w : Nat, w < 8 → (nI s / 3 - 1) * nI w + (jrem (nI s) 3 - 1) = rz s w := by decide +kernel
theorem add_toInt {a : Nat} {d : Int32} (ha : a < 100) (hd : -1 ≤ d.toInt ∧ d.toInt ≤ 1) : (nI a + d).toInt = (a : Int) + d.toInt := by
  rw [Int32.toInt_add, nI_toInt (by omega), Int.bmod_eq_of_le (by omega) (by omega)]
theorem lst_L {w h s : Nat} (hw : 2 ≤ w ∧ w ≤ 7 ∧ 2 ≤ h ∧ h ≤ 7) (hs : s < 9) {C R : Nat → Int32} (hCR : ∀ i, i < w * h → C i = nI (i % w) ∧ R i = nI (i / w)) (n : Nat) : ∀ (q c : Nat) (acc : Int64), c ≤ w * h → w * h - c < q → ∃ g, mX1_layStep_L34 n (nI (w * h)) C (jrem (nI s) 3 - 1) (nI w) R (nI s / 3 - 1) (nI h) q acc (nI c) = some g ∧ ∀ j, bt64 g j = true ↔ (bt64 acc j = true ∨ (c ≤ j ∧ j < w * h ∧ stp w h j s)) := by
  have hb := wh_lt hw
  have dt := dx_tab s hs
  intro q
  induction q with
  | zero => intro c acc h1 h2; omega
  | succ q ih =>
    intro c acc h1 h2
    rw [mX1_layStep_L34]
    by_cases hc : c = w * h
    · subst hc
      rw [if_pos (Int32.le_refl _)]
      exact ⟨_, rfl, fun j => ⟨Or.inl, fun g => g.elim id (fun g => by omega)⟩⟩
    · have hlt : c < w * h := by omega
      have bi : ib (nI c) 49 := ib_nI (by omega) (by decide)
      have dm := dm_lt hlt (show 0 < w by omega)
      rw [if_neg (nI_ge hlt (by omega)), gd_t bi, gd_t bi, jl_s, nI_clamp (by omega), (hCR c hlt).1, (hCR c hlt).2, nI_1]
      have t1 := add_toInt (a := c % w) (d := jrem (nI s) 3 - 1) (by omega) (by rw [dt.1]; omega)
      have t2 := add_toInt (a := c / w) (d := nI s / 3 - 1) (by omega) (by rw [dt.2]; omega)
      rw [dt.1] at t1
      rw [dt.2] at t2
      generalize nI (c % w) + (jrem (nI s) 3 - 1) = X at t1 ⊢
      generalize nI (c / w) + (nI s / 3 - 1) = Y at t2 ⊢
      have ew : (nI w).toInt = (w : Int) := nI_toInt (by omega)
      have eh : (nI h).toInt = (h : Int) := nI_toInt (by omega)
      have z0 : (0 : Int32).toInt = 0 := rfl
      by_cases hst : stp w h c s
      · have hst' := hst
        unfold stp at hst'
        have c1 : ¬ X < 0 := by rw [Int32.lt_iff_toInt_lt, t1]; omega
        have c2 : ¬ nI w ≤ X := by rw [Int32.le_iff_toInt_le, t1, ew]; omega
        have c3 : ¬ Y < 0 := by rw [Int32.lt_iff_toInt_lt, t2]; omega
        have c4 : ¬ nI h ≤ Y := by rw [Int32.le_iff_toInt_le, t2, eh]; omega
        rw [if_neg c1, if_neg c2, if_neg c3, if_neg c4]
        obtain ⟨g, g1, g2⟩ := ih (c + 1) (acc ||| jlshl 1 (nI c)) (by omega) (by omega)
        refine ⟨g, g1, fun j => ?_⟩
        rw [g2, bt_or, Bool.or_eq_true, bt_one (by omega), decide_eq_true_eq]
        constructor
        · rintro ((g | g) | g)
          · exact Or.inl g
          · subst g; exact Or.inr ⟨Nat.le_refl _, hlt, hst⟩
          · exact Or.inr ⟨by omega, g.2⟩
        · rintro (g | g)
          · exact Or.inl (Or.inl g)
          · by_cases e : j = c
            · exact Or.inl (Or.inr e)
            · exact Or.inr ⟨by omega, g.2⟩
      · have hv : (if X < 0 then acc else if nI w ≤ X then acc else if Y < 0 then acc else if nI h ≤ Y then acc else acc ||| jlshl 1 (nI c)) = acc := by
          by_cases c1 : X < 0
          · rw [if_pos c1]
          · rw [if_neg c1]
            by_cases c2 : nI w ≤ X
            · rw [if_pos c2]
            · rw [if_neg c2]
              by_cases c3 : Y < 0
              · rw [if_pos c3]
              · rw [if_neg c3]
                by_cases c4 : nI h ≤ Y
                · rw [if_pos c4]
                · exfalso
                  apply hst
                  unfold stp
                  rw [Int32.lt_iff_toInt_lt] at c1 c3
                  rw [Int32.le_iff_toInt_le] at c2 c4
                  rw [t1] at c1 c2
                  rw [t2] at c3 c4
                  rw [ew] at c2
                  rw [eh] at c4
                  omega
        rw [hv]
        obtain ⟨g, g1, g2⟩ := ih (c + 1) acc (by omega) (by omega)
        refine ⟨g, g1, fun j => ?_⟩
        rw [g2]
        constructor
        · rintro (g | g)
          · exact Or.inl g
          · exact Or.inr ⟨by omega, g.2⟩
        · rintro (g | g)
          · exact Or.inl g
          · by_cases e : j = c
            · subst e; exact absurd g.2.2 hst
            · exact Or.inr ⟨by omega, g.2⟩
theorem lst_ok {w h s : Nat} (hw : 2 ≤ w ∧ w ≤ 7 ∧ 2 ≤ h ∧ h ≤ 7) (hs : s < 9) {C R : Nat → Int32} (hCR : ∀ i, i < w * h → C i = nI (i % w) ∧ R i = nI (i / w)) {n : Nat} (hn : 10 ^ 80 ≤ n) (fra : Nat → Int32) (fst : Nat → Int64) : ∃ g, mX1_layStep n (nI (w * h)) C (nI w) R fra fst (nI s) (nI h) = some (upd fra s (rz s w), vp_updL fst s g) ∧ ∀ j, bt64 g j = true ↔ (j < w * h ∧ stp w h j s) := by
  have hb := wh_lt hw
  obtain ⟨g, g1, g2⟩ := lst_L hw hs hCR n n 0 0 (Nat.zero_le _) (by omega)
  refine ⟨g, ?_, fun j => ?_⟩
  · unfold mX1_layStep
    have b9 : ib (nI s) 9 := ib_nI hs (by decide)
    have g1 : mX1_layStep_L34 n (nI (w * h)) C (jrem (nI s) 3 - 1) (nI w) R (nI s / 3 - 1) (nI h) n 0 0 = some g := g1
    rw [gd_t b9, g1, jb_s, gd_t b9, nI_clamp (by omega), rz_tab s hs w (by omega)]
  · rw [g2, bt_0]
    exact ⟨fun z => z.elim (fun z => by cases z) (fun z => z.2), fun z => Or.inr ⟨Nat.zero_le j, z⟩⟩
theorem lay_steps {w h : Nat} (hw : 2 ≤ w ∧ w ≤ 7 ∧ 2 ≤ h ∧ h ≤ 7) {C R : Nat → Int32} (hCR : ∀ i, i < w * h → C i = nI (i % w) ∧ R i = nI (i / w)) {n : Nat} (hn : 10 ^ 80 ≤ n) {W : Int64} (hW : ∀ i, bt64 W i = true ↔ i < w * h) : ∀ (q s : Nat) (fbo : Int64) (fra : Nat → Int32) (fst : Nat → Int64), s ≤ 9 → 9 - s < q → ∃ B A S, mX1_lay_L83 n (nI (w * h)) C (nI w) R (nI h) W q (nI s) fbo fra fst = some (B, A, S) ∧ (∀ i, bt64 B i = true ↔ (bt64 fbo i = true ∨ ∃ t, s ≤ t ∧ t < 9 ∧ i < w * h ∧ ¬ stp w h i t)) ∧ ∀ t, (s ≤ t ∧ t < 9 → A t = rz t w ∧ ∀ i, bt64 (S t) i = true ↔ (i < w * h ∧ stp w h i t)) ∧ (t < s → A t = fra t ∧ S t = fst t) := by
  intro q
  induction q with
  | zero => intro s fbo fra fst h1 h2; omega
  | succ q ih =>
    intro s fbo fra fst h1 h2
    rw [mX1_lay_L83]
    by_cases h9 : s = 9
    · subst h9
      rw [if_pos (by decide)]
      exact ⟨_, _, _, rfl, fun i => ⟨Or.inl, fun g => g.elim id (fun ⟨t, a, b, _⟩ => by omega)⟩, fun t => ⟨fun g => by omega, fun _ => ⟨rfl, rfl⟩⟩⟩
    · have hs : s < 9 := by omega
      obtain ⟨g, g1, g2⟩ := lst_ok hw hs hCR hn fra fst
      have b9 : ib (nI s) 9 := ib_nI hs (by decide)
      rw [if_neg (show ¬ (9 : Int32) ≤ nI s from nI_ge (b := 9) hs (by decide)), g1, jb2_s, gd_t b9, nI_clamp (by omega), pk_uLs, nI_1]
      obtain ⟨B, A, S, f1, f2, f3⟩ := ih (s + 1) (fbo ||| W &&& (g ^^^ -1)) (upd fra s (rz s w)) (vp_updL fst s g) (by omega) (by omega)
      refine ⟨B, A, S, f1, fun i => ?_, fun t => ⟨fun ht => ?_, fun ht => ?_⟩⟩
      · rw [f2, bt_or, Bool.or_eq_true, bt_andn, Bool.and_eq_true, hW]
        constructor
        · rintro ((z | ⟨z1, z2⟩) | ⟨t, t1, t2, t3⟩)
          · exact Or.inl z
          · refine Or.inr ⟨s, Nat.le_refl s, hs, z1, fun hc => ?_⟩
            rw [(g2 i).mpr ⟨z1, hc⟩] at z2
            cases z2
          · exact Or.inr ⟨t, by omega, t2, t3⟩
        · rintro (z | ⟨t, t1, t2, t3, t4⟩)
          · exact Or.inl (Or.inl z)
          · by_cases e : t = s
            · subst e
              refine Or.inl (Or.inr ⟨t3, ?_⟩)
              cases hc : bt64 g i
              · rfl
              · exact absurd ((g2 i).mp hc).2 t4
            · exact Or.inr ⟨t, by omega, t2, t3, t4⟩
      · by_cases e : t = s
        · subst e
          have := (f3 t).2 (by omega)
          rw [this.1, this.2, pk_us, pk_uLs]
          exact ⟨rfl, g2⟩
        · exact (f3 t).1 (by omega)
      · have := (f3 t).2 (by omega)
        rw [this.1, this.2, pk_un (by omega), pk_uLn (by omega)]
        exact ⟨rfl, rfl⟩
theorem edge_iff {w h i : Nat} (hw : 2 ≤ w ∧ w ≤ 7 ∧ 2 ≤ h ∧ h ≤ 7) (hi : i < w * h) : (∃ t, t < 9 ∧ ¬ stp w h i t) ↔ edg w h i := by
  have dm := dm_lt hi (show 0 < w by omega)
  unfold stp edg
  generalize i % w = x at *
  generalize i / w = y at *
  constructor
  · rintro ⟨t, h1, h2⟩
    have a1 : t % 3 ≤ 2 := by omega
    have a2 : t / 3 ≤ 2 := by omega
    omega
  · rintro (z | z | z | z)
    · exact ⟨3, by omega, by omega⟩
    · exact ⟨5, by omega, by omega⟩
    · exact ⟨1, by omega, by omega⟩
    · exact ⟨7, by omega, by omega⟩
theorem lay_ok {n : Nat} {fco : Nat → Int32} {fro : Nat → Int32} {fra : Nat → Int32} {fst : Nat → Int64} {w h : Nat} (hn : 10 ^ 80 ≤ n) (hw : 2 ≤ w ∧ w ≤ 7 ∧ 2 ≤ h ∧ h ≤ 7) : ∃ (y_fw : Int32) (y_fc : Int32) (y_fwh : Int64) (y_fbo : Int64) (y_fra : Nat → Int32) (y_fst : Nat → Int64) (y_fco : Nat → Int32) (y_fro : Nat → Int32), mX1_lay n fco fro fra fst (nI w) (nI h) = some (y_fw, y_fc, y_fwh, y_fbo, y_fra, y_fst, y_fco, y_fro) ∧ FOK w h y_fw y_fc y_fwh y_fbo y_fra y_fst y_fco y_fro := by
  have hb := wh_lt hw
  obtain ⟨C, R, e1, e2⟩ := lay_rows hw hn n 0 fco fro (Nat.zero_le _) (by omega)
  have hCR : ∀ i, i < w * h → C i = nI (i % w) ∧ R i = nI (i / w) := fun i hi => (e2 i).1 ⟨by omega, hi⟩
  have hW := all_bits hw
  obtain ⟨B, A, S, f1, f2, f3⟩ := lay_steps hw hCR hn hW n 0 0 fra fst (Nat.zero_le _) (by omega)
  refine ⟨nI w, nI (w * h), mX8_all (nI w) (nI h), B, A, S, C, R, ?_, rfl, rfl, hW, fun i => ?_, fun s hs => ((f3 s).1 ⟨Nat.zero_le _, hs⟩).1, fun s hs => ((f3 s).1 ⟨Nat.zero_le _, hs⟩).2, hCR⟩
  · unfold mX1_lay
    rw [Nat.mul_zero] at e1
    have e1 : mX1_lay_L29 n (nI h) (nI w) n 0 0 fco fro = some (C, R) := e1
    have f1 : mX1_lay_L83 n (nI (w * h)) C (nI w) R (nI h) (mX8_all (nI w) (nI h)) n 0 0 fra fst = some (B, A, S) := f1
    have hall : jlshl 1 (nI (w * h)) - 1 = mX8_all (nI w) (nI h) := by unfold mX8_all; rw [cells_eq]
    rw [e1, jb2_s, pk_mul, hall, f1, jb3_s]
  · rw [f2, bt_0]
    constructor
    · rintro (z | ⟨t, -, t2, t3, t4⟩)
      · cases z
      · exact ⟨t3, (edge_iff hw t3).mp ⟨t, t2, t4⟩⟩
    · rintro ⟨z1, z2⟩
      obtain ⟨t, t1, t2⟩ := (edge_iff hw z1).mpr z2
      exact Or.inr ⟨t, Nat.zero_le _, t1, z1, t2⟩
