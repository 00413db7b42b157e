section
variable {w h : Nat} {fw fc : Int32} {fwh fbo : Int64} {fra fco fro : Nat → Int32} {fst : Nat → Int64}
theorem one_bit {c : Nat} (hc : c < 64) : bt64 (jlshl 1 (nI c)) c = true := by rw [bt_one hc]; simp
theorem no_bits {x : Int64} {c : Nat} (h1 : ∀ i, bt64 x i = true → i < c) (h2 : ∀ i, i < c → bt64 x i = false) : x = 0 := (eq0_iff x).mpr (fun i _ => by
  cases hb : bt64 x i
  · rfl
  · have := h2 i (h1 i hb)
    rw [hb] at this
    exact this)
theorem tst_bit (x : Int64) {t : Nat} (ht : t < 64) : ((jlushr x (nI t)) &&& 1) = 0 ↔ bt64 x t = false := by
  rw [and1_eq, bt_ushr x ht, Nat.add_zero]
  cases bt64 x t <;> simp
theorem cut_low {x r : Int64} {t : Nat} (h1 : ∀ i, i < t → bt64 x i = false) (h2 : bt64 r t = true) : ∀ i, i < t + 1 → bt64 (x &&& (r ^^^ -1)) i = false := by
  intro i hi
  rw [bt_andn]
  by_cases e : i = t
  · subst e; rw [h2]; simp
  · rw [h1 i (by omega)]; rfl
theorem pcs_L (hw : 2 ≤ w ∧ w ≤ 7 ∧ 2 ≤ h ∧ h ≤ 7) (hF : FOK w h fw fc fwh fbo fra fst fco fro) {n : Nat} (hn : 10 ^ 80 ≤ n) {j : Int32} (hj : j = 4 ∨ j = 8) : ∀ (q q2 t : Nat) (x : Int64) (v : Int32), t ≤ w * h → (∀ i, bt64 x i = true → i < w * h) → (∀ i, i < t → bt64 x i = false) → w * h - t < q → w * h - t < q2 → ∃ r, mX3_howManyBy_L9 n (nI (w * h)) fra fst j q x v (nI t) = some r ∧ mX8_piecesOf_L5 n (nI w) (nI h) j q2 x v = some r := by
  have hb := wh_lt hw
  intro q
  induction q with
  | zero => intro q2 t x v h1 h2 h3 h4; omega
  | succ q ih =>
    intro q2 t x v h1 h2 h3 h4 h5
    rw [mX3_howManyBy_L9]
    by_cases ht : t = w * h
    · subst ht
      match q2, h5 with
      | 0, h5 => omega
      | q2 + 1, h5 =>
        rw [if_pos (Int32.le_refl _), mX8_piecesOf_L5, if_pos (no_bits h2 h3)]
        exact ⟨v, rfl, rfl⟩
    · have hlt : t < w * h := by omega
      rw [if_neg (nI_ge hlt (by omega))]
      cases hbt : bt64 x t
      · rw [if_pos ((tst_bit x (by omega)).mpr hbt), jb2_s, nI_1]
        refine ih q2 (t + 1) x v (by omega) h2 (fun i hi => ?_) (by omega) (by omega)
        by_cases e : i = t
        · subst e; exact hbt
        · exact h3 i (by omega)
      · match q2, h5 with
        | 0, h5 => omega
        | q2 + 1, h5 =>
          have hx0 : ¬ x = 0 := by intro e; rw [e, bt_0] at hbt; cases hbt
          obtain ⟨r, r1, r2, r3⟩ := piece_both hw hF hn hj h2 hbt
          rw [if_neg (fun e => by rw [(tst_bit x (by omega)).mp e] at hbt; cases hbt), r1, jb_s, jb2_s, nI_1, mX8_piecesOf_L5, if_neg hx0, firstOf_ok hn (by omega) hbt h3, jb_s, r2, jb_s]
          have hrt : bt64 r t = true := (r3 t).mpr (Re.seed (one_bit (by omega)))
          exact ih q2 (t + 1) (x &&& (r ^^^ -1)) (v + 1) (by omega) (fun i hi => by rw [bt_andn, Bool.and_eq_true] at hi; exact h2 i hi.1) (cut_low h3 hrt) (by omega) (by omega)
theorem pcs_both (hw : 2 ≤ w ∧ w ≤ 7 ∧ 2 ≤ h ∧ h ≤ 7) (hF : FOK w h fw fc fwh fbo fra fst fco fro) {n : Nat} (hn : 10 ^ 80 ≤ n) {j : Int32} (hj : j = 4 ∨ j = 8) (x : Int64) (hx : ∀ i, bt64 x i = true → i < w * h) : ∃ r, mX3_howManyBy n (nI (w * h)) fra fst j x = some r ∧ mX8_piecesOf n (nI w) (nI h) j x = some r := by
  have hb := wh_lt hw
  obtain ⟨r, r1, r2⟩ := pcs_L hw hF hn hj n n 0 x 0 (Nat.zero_le _) hx (fun i hi => by omega) (by omega) (by omega)
  refine ⟨r, ?_, ?_⟩
  · unfold mX3_howManyBy
    have r1 : mX3_howManyBy_L9 n (nI (w * h)) fra fst j n x 0 0 = some r := r1
    rw [r1]; rfl
  · unfold mX8_piecesOf; rw [r2]; rfl
theorem edc_L (hw : 2 ≤ w ∧ w ≤ 7 ∧ 2 ≤ h ∧ h ≤ 7) (n : Nat) : ∀ (q c : Nat) (acc : Int64), c ≤ w * h → w * h - c < q → ∃ g, mX8_edgeCells_L4 n (nI w) (nI h) q acc (nI c) = some g ∧ ∀ j, bt64 g j = true ↔ (bt64 acc j = true ∨ (c ≤ j ∧ j < w * h ∧ edg w h j)) := by
  have hb := wh_lt hw
  intro q
  induction q with
  | zero => intro c acc h1 h2; omega
  | succ q ih =>
    intro c acc h1 h2
    rw [mX8_edgeCells_L4, cells_eq]
    by_cases hc : c = w * h
    · subst hc
      rw [if_pos (Int32.le_refl _)]
      exact ⟨_, rfl, fun j => ⟨Or.inl, fun g => g.elim id (fun g => by omega)⟩⟩
    · have hlt : c < w * h := by omega
      have nz : ¬ nI w = 0 := nI_ne0 (by omega) (by omega)
      have dm := dm_lt hlt (show 0 < w by omega)
      have ew : nI w - 1 = nI (w - 1) := pk_sub (b := 1) (by omega)
      have eh : nI h - 1 = nI (h - 1) := pk_sub (b := 1) (by omega)
      obtain ⟨e, he, hee⟩ : ∃ e : Int32, (if nI (c % w) = 0 then some (1 : Int32) else if nI (c % w) = nI (w - 1) then some 1 else if nI (c / w) = 0 then some 1 else if nI (c / w) = nI (h - 1) then some 1 else some 0) = some e ∧ ((e = 0 ∧ ¬ edg w h c) ∨ (e = 1 ∧ edg w h c)) := by
        have q1 : nI (c % w) = 0 ↔ c % w = 0 := nI_eq (b := 0) (by omega) (by decide)
        have q2 : nI (c % w) = nI (w - 1) ↔ c % w = w - 1 := nI_eq (by omega) (by omega)
        have q3 : nI (c / w) = 0 ↔ c / w = 0 := nI_eq (b := 0) (by omega) (by decide)
        have q4 : nI (c / w) = nI (h - 1) ↔ c / w = h - 1 := nI_eq (by omega) (by omega)
        unfold edg
        by_cases z1 : c % w = 0
        · rw [if_pos (q1.mpr z1)]; exact ⟨1, rfl, Or.inr ⟨rfl, Or.inl z1⟩⟩
        · rw [if_neg (fun e => z1 (q1.mp e))]
          by_cases z2 : c % w = w - 1
          · rw [if_pos (q2.mpr z2)]; exact ⟨1, rfl, Or.inr ⟨rfl, Or.inr (Or.inl z2)⟩⟩
          · rw [if_neg (fun e => z2 (q2.mp e))]
            by_cases z3 : c / w = 0
            · rw [if_pos (q3.mpr z3)]; exact ⟨1, rfl, Or.inr ⟨rfl, Or.inr (Or.inr (Or.inl z3))⟩⟩
            · rw [if_neg (fun e => z3 (q3.mp e))]
              by_cases z4 : c / w = h - 1
              · rw [if_pos (q4.mpr z4)]; exact ⟨1, rfl, Or.inr ⟨rfl, Or.inr (Or.inr (Or.inr z4))⟩⟩
              · rw [if_neg (fun e => z4 (q4.mp e))]
                exact ⟨0, rfl, Or.inl ⟨rfl, fun g => by rcases g with g | g | g | g <;> contradiction⟩⟩
      simp only [if_neg (nI_ge hlt (show w * h < 2 ^ 31 by omega)), gd_t nz, rem_nI (show c < 2 ^ 31 by omega) (show 0 < w by omega) (show w < 2 ^ 31 by omega), div_nI (show c < 2 ^ 31 by omega) (show 0 < w by omega) (show w < 2 ^ 31 by omega), ew, eh, he, jb_s, jl_s, nI_1]
      rcases hee with ⟨e0, ne⟩ | ⟨e0, ne⟩
      · rw [if_pos e0]
        obtain ⟨g, g1, g2⟩ := ih (c + 1) (acc ||| 0) (by omega) (by omega)
        refine ⟨g, g1, fun j => ?_⟩
        rw [g2, bt_or, bt_0, Bool.or_false]
        constructor
        · rintro (g | g)
          · exact Or.inl g
          · exact Or.inr ⟨by omega, g.2⟩
        · rintro (g | g)
          · exact Or.inl g
          · by_cases e : j = c
            · subst e; exact absurd g.2.2 ne
            · exact Or.inr ⟨by omega, g.2⟩
      · rw [if_neg (by rw [e0]; decide)]
        obtain ⟨g, g1, g2⟩ := ih (c + 1) (acc ||| jlshl 1 (nI c)) (by omega) (by omega)
        refine ⟨g, g1, fun j => ?_⟩
        rw [g2, bt_or, Bool.or_eq_true, bt_one (by omega), decide_eq_true_eq]
        constructor
        · rintro ((g | g) | g)
          · exact Or.inl g
          · subst g; exact Or.inr ⟨Nat.le_refl _, hlt, ne⟩
          · exact Or.inr ⟨by omega, g.2⟩
        · rintro (g | g)
          · exact Or.inl (Or.inl g)
          · by_cases e : j = c
            · exact Or.inl (Or.inr e)
            · exact Or.inr ⟨by omega, g.2⟩
theorem edc_ok (hw : 2 ≤ w ∧ w ≤ 7 ∧ 2 ≤ h ∧ h ≤ 7) (hF : FOK w h fw fc fwh fbo fra fst fco fro) {n : Nat} (hn : 10 ^ 80 ≤ n) : mX8_edgeCells n (nI w) (nI h) = some fbo := by
  have hb := wh_lt hw
  obtain ⟨g, g1, g2⟩ := edc_L hw n n 0 0 (Nat.zero_le _) (by omega)
  have e : g = fbo := bt_eqv (P := fun i => i < w * h ∧ edg w h i) (fun i => by
    rw [g2, bt_0]
    exact ⟨fun z => z.elim (fun z => by cases z) (fun z => z.2), fun z => Or.inr ⟨Nat.zero_le i, z⟩⟩) hF.2.2.2.1
  unfold mX8_edgeCells
  have g1 : mX8_edgeCells_L4 n (nI w) (nI h) n 0 0 = some g := g1
  rw [g1, e]; rfl
theorem hol_L (hw : 2 ≤ w ∧ w ≤ 7 ∧ 2 ≤ h ∧ h ≤ 7) (hF : FOK w h fw fc fwh fbo fra fst fco fro) {n : Nat} (hn : 10 ^ 80 ≤ n) {j mjn : Int32} (hj : j = 4 ∨ j = 8) (ej : (12 : Int32) - mjn = j) {O R : Int64} (hO : ∀ i, bt64 O i = true → i < w * h) (hR : ∀ i, bt64 R i = true ↔ Re w h (jk j) O (O &&& fbo) i) : ∀ (q q2 t : Nat) (x x' v5 : Int64) (v : Int32), t ≤ w * h → (∀ i, bt64 x i = true → bt64 O i = true) → (∀ i u, bt64 x i = true → adj w h (jk j) i u → bt64 O u = true → bt64 x u = true) → (∀ i, i < t → bt64 x i = false) → (∀ i, bt64 x' i = true ↔ (bt64 x i = true ∧ ¬ bt64 R i = true)) → (∀ i, bt64 v5 i = true ↔ (bt64 O i = true ∧ ¬ bt64 R i = true ∧ ¬ bt64 x i = true)) → w * h - t < q → w * h - t < q2 → ∃ r H, mX3_howManyBy_L9 n (nI (w * h)) fra fst j q x' v (nI t) = some r ∧ mX8_holesOf_L19 n (nI w) (nI h) mjn q2 x v5 v = some (H, r) ∧ ∀ i, bt64 H i = true ↔ (bt64 O i = true ∧ ¬ bt64 R i = true) := by
  have hb := wh_lt hw
  have hRO : ∀ i, bt64 R i = true → bt64 O i = true := fun i hi => Re.sub (fun u hu => by rw [bt_and, Bool.and_eq_true] at hu; exact hu.1) ((hR i).mp hi)
  have hRc : ∀ i u, bt64 R i = true → adj w h (jk j) i u → bt64 O u = true → bt64 R u = true := fun i u h1 h2 h3 => (hR u).mpr (((hR i).mp h1).step h2 h3)
  have hk := jk_sym j
  intro q
  induction q with
  | zero => intro q2 t x x' v5 v h1 h2 h3 h4 h5 h6 h7; omega
  | succ q ih =>
    intro q2 t x x' v5 v h1 h2 h3 h4 h5 h6 h7 h8
    have hx : ∀ i, bt64 x i = true → i < w * h := fun i hi => hO i (h2 i hi)
    rw [mX3_howManyBy_L9]
    by_cases ht : t = w * h
    · subst ht
      have hx0 := no_bits hx h4
      match q2, h8 with
      | 0, h8 => omega
      | q2 + 1, h8 =>
        rw [if_pos (Int32.le_refl _), mX8_holesOf_L19, if_pos hx0]
        refine ⟨v, v5, rfl, rfl, fun i => ?_⟩
        rw [h6, hx0, bt_0]
        exact ⟨fun z => ⟨z.1, z.2.1⟩, fun z => ⟨z.1, z.2, fun e => by cases e⟩⟩
    · have hlt : t < w * h := by omega
      rw [if_neg (nI_ge hlt (by omega))]
      by_cases hbt : bt64 x t = true
      · match q2, h8 with
        | 0, h8 => omega
        | q2 + 1, h8 =>
          have hx0 : ¬ x = 0 := by intro e; rw [e, bt_0] at hbt; cases hbt
          obtain ⟨P, p1, p2⟩ := pieceOf_ok hw hn j hx hbt
          rw [mX8_holesOf_L19, if_neg hx0, firstOf_ok hn (by omega) hbt h4, jb_s, ej, p1, jb_s, edc_ok hw hF hn, jb_s, jl_s, jl_s, jl_s]
          have hPt : bt64 P t = true := (p2 t).mpr (Re.seed (one_bit (by omega)))
          have seed : ∀ i, bt64 (jlshl 1 (nI t)) i = true → i = t := fun i hi => by rw [bt_one (by omega), decide_eq_true_eq] at hi; exact hi
          have hPx : ∀ i, bt64 P i = true → bt64 x i = true := fun i hi => Re.sub (fun u hu => by rw [seed u hu]; exact hbt) ((p2 i).mp hi)
          have hPc : ∀ i u, bt64 P i = true → adj w h (jk j) i u → bt64 O u = true → bt64 P u = true := fun i u g1 g2 g3 => (p2 u).mpr (((p2 i).mp g1).step g2 (h3 i u (hPx i g1) g2 g3))
          have hcut : ∀ i, bt64 (x &&& (P ^^^ -1)) i = true ↔ (bt64 x i = true ∧ ¬ bt64 P i = true) := fun i => by
            rw [bt_andn, Bool.and_eq_true]
            cases bt64 P i <;> simp
          have c2 : ∀ i, bt64 (x &&& (P ^^^ -1)) i = true → bt64 O i = true := fun i hi => h2 i ((hcut i).mp hi).1
          have c3 : ∀ i u, bt64 (x &&& (P ^^^ -1)) i = true → adj w h (jk j) i u → bt64 O u = true → bt64 (x &&& (P ^^^ -1)) u = true := by
            intro i u g1 g2 g3
            obtain ⟨g4, g5⟩ := (hcut i).mp g1
            refine (hcut u).mpr ⟨h3 i u g4 g2 g3, fun g6 => g5 ?_⟩
            exact hPc u i g6 (adj_symm hw.1 hk (hx i g4) g2) (h2 i g4)
          have c4 := cut_low h4 hPt
          by_cases hE : P &&& fbo = 0
          · -- it does not touch the edge: a hole
            have hPR : ∀ i, bt64 P i = true → ¬ bt64 R i = true := by
              intro i hi hr
              have := (hR i).mp hr (fun u => bt64 O u = true ∧ ¬ bt64 P u = true) (fun u hu => by
                rw [bt_and, Bool.and_eq_true] at hu
                refine ⟨hu.1, fun hp => ?_⟩
                have h9 : bt64 (P &&& fbo) u = true := by rw [bt_and, hp, hu.2]; rfl
                rw [hE, bt_0] at h9
                cases h9) (fun a b g1 g2 g3 => ⟨g3, fun g4 => g1.2 (hPc b a g4 (adj_symm hw.1 hk (hO a g1.1) g2) g1.1)⟩)
              exact this.2 hi
            have hx't : bt64 x' t = true := (h5 t).mpr ⟨hbt, hPR t hPt⟩
            have hx'O : ∀ i, bt64 x' i = true → i < w * h := fun i hi => hx i ((h5 i).mp hi).1
            obtain ⟨r, r1, r2⟩ := spread_ok hw hF hn hj hx'O (x0 := jlshl 1 (nI t)) (fun i hi => by rw [seed i hi]; exact hx't)
            have er : r = P := by
              refine bt_eqv (P := fun i => bt64 P i = true) (fun i => ?_) (fun i => Iff.rfl)
              rw [r2]
              constructor
              · intro hr
                exact hr (fun u => bt64 P u = true) (fun u hu => by rw [seed u hu]; exact hPt) (fun a b g1 g2 g3 => hPc a b g1 g2 (h2 b ((h5 b).mp g3).1))
              · intro hp
                refine (p2 i).mp hp (fun u => bt64 P u = true ∧ Re w h (jk j) x' (jlshl 1 (nI t)) u) (fun u hu => ⟨by rw [seed u hu]; exact hPt, Re.seed hu⟩) (fun a b g1 g2 g3 => ?_) |>.2
                have hPb := hPc a b g1.1 g2 (h2 b g3)
                exact ⟨hPb, g1.2.step g2 ((h5 b).mpr ⟨g3, hPR b hPb⟩)⟩
            subst er
            rw [if_neg (fun e => by rw [(tst_bit x' (by omega)).mp e] at hx't; cases hx't), r1, jb_s, jb2_s, nI_1, if_pos hE, if_neg (by decide), if_neg (by decide)]
            refine ih q2 (t + 1) _ _ _ _ (by omega) c2 c3 c4 (fun i => ?_) (fun i => ?_) (by omega) (by omega)
            · rw [hcut, bt_andn, Bool.and_eq_true, h5]
              cases bt64 r i <;> simp
            · rw [bt_or, Bool.or_eq_true, h6, hcut]
              constructor
              · rintro (g | g)
                · exact ⟨g.1, g.2.1, fun z => g.2.2 z.1⟩
                · exact ⟨h2 i (hPx i g), hPR i g, fun z => z.2 g⟩
              · rintro ⟨g1, g2, g3⟩
                by_cases hp : bt64 r i = true
                · exact Or.inr hp
                · exact Or.inl ⟨g1, g2, fun z => g3 ⟨z, hp⟩⟩
          · -- it touches the edge
            obtain ⟨e, -, he⟩ := ne0_ex hE
            rw [bt_and, Bool.and_eq_true] at he
            have heR : bt64 R e = true := (hR e).mpr (Re.seed (by rw [bt_and, Bool.and_eq_true]; exact ⟨h2 e (hPx e he.1), he.2⟩))
            have htR : bt64 R t = true := by
              refine Classical.byContradiction (fun hc => ?_)
              have := (p2 e).mp he.1 (fun u => bt64 x u = true ∧ ¬ bt64 R u = true) (fun u hu => by rw [seed u hu]; exact ⟨hbt, hc⟩) (fun a b g1 g2 g3 => ⟨g3, fun g4 => g1.2 (hRc b a g4 (adj_symm hw.1 hk (hx a g1.1) g2) (h2 a g1.1))⟩)
              exact this.2 heR
            have hPR : ∀ i, bt64 P i = true → bt64 R i = true := fun i hi => (p2 i).mp hi (fun u => bt64 R u = true) (fun u hu => by rw [seed u hu]; exact htR) (fun a b g1 g2 g3 => hRc a b g1 g2 (h2 b g3))
            have hx't : bt64 x' t = false := by
              cases hc : bt64 x' t
              · rfl
              · exact absurd htR ((h5 t).mp hc).2
            rw [if_pos ((tst_bit x' (by omega)).mpr hx't), jb2_s, nI_1, if_neg hE, if_pos rfl, if_pos rfl, Int32.add_zero]
            refine ih q2 (t + 1) _ _ _ _ (by omega) c2 c3 c4 (fun i => ?_) (fun i => ?_) (by omega) (by omega)
            · rw [h5, hcut]
              exact ⟨fun g => ⟨⟨g.1, fun z => g.2 (hPR i z)⟩, g.2⟩, fun g => ⟨g.1.1, g.2⟩⟩
            · rw [bt_or, bt_0, Bool.or_false, h6, hcut]
              exact ⟨fun g => ⟨g.1, g.2.1, fun z => g.2.2 z.1⟩, fun g => ⟨g.1, g.2.1, fun z => g.2.2 ⟨z, fun zz => g.2.1 (hPR i zz)⟩⟩⟩
      · have hbf : bt64 x t = false := by cases hc : bt64 x t <;> simp_all
        have hx't : bt64 x' t = false := by
          cases hc : bt64 x' t
          · rfl
          · exact absurd ((h5 t).mp hc).1 hbt
        rw [if_pos ((tst_bit x' (by omega)).mpr hx't), jb2_s, nI_1]
        refine ih q2 (t + 1) x x' v5 v (by omega) h2 h3 (fun i hi => ?_) h5 h6 (by omega) (by omega)
        by_cases e : i = t
        · subst e; exact hbf
        · exact h4 i (by omega)
/-- the holes and how many: on both sides -/
theorem hol_both (hw : 2 ≤ w ∧ w ≤ 7 ∧ 2 ≤ h ∧ h ≤ 7) (hF : FOK w h fw fc fwh fbo fra fst fco fro) {n : Nat} (hn : 10 ^ 80 ≤ n) {mjn : Int32} (hj : mjn = 4 ∨ mjn = 8) (x : Int64) : ∃ H r, mX3_holesOf n (nI (w * h)) fra fst fwh fbo mjn x = some H ∧ mX3_howManyBy n (nI (w * h)) fra fst (mX3_otherJoin mjn) H = some r ∧ mX8_holesOf n (nI w) (nI h) mjn x = some (H, r) ∧ ∀ i, bt64 H i = true → i < w * h := by
  have hb := wh_lt hw
  have hj2 : mX3_otherJoin mjn = 4 ∨ mX3_otherJoin mjn = 8 := by rcases hj with e | e <;> subst e <;> decide
  have ej : (12 : Int32) - mjn = mX3_otherJoin mjn := by rcases hj with e | e <;> subst e <;> decide
  have hwh := whole_eq hw hF
  generalize hO' : fwh &&& (x ^^^ -1) = O
  have hO : ∀ i, bt64 O i = true → i < w * h := fun i hi => by
    rw [← hO', bt_and, Bool.and_eq_true] at hi
    exact (hF.2.2.1 i).mp hi.1
  obtain ⟨R, r1, r2⟩ := spread_ok hw hF hn hj2 hO (x0 := O &&& fbo) (fun i hi => by rw [bt_and, Bool.and_eq_true] at hi; exact hi.1)
  obtain ⟨r, H, g1, g2, g3⟩ := hol_L hw hF hn hj2 ej hO r2 n n 0 O (O &&& (R ^^^ -1)) 0 0 (Nat.zero_le _) (fun _ h => h) (fun _ _ _ _ h => h) (fun i hi => by omega) (fun i => by rw [bt_andn, Bool.and_eq_true]; cases bt64 R i <;> simp) (fun i => by rw [bt_0]; exact ⟨fun z => (by cases z), fun z => absurd z.1 z.2.2⟩) (by omega) (by omega)
  have eH : O &&& (R ^^^ -1) = H := bt_eqv (P := fun i => bt64 O i = true ∧ ¬ bt64 R i = true) (fun i => by rw [bt_andn, Bool.and_eq_true]; cases bt64 R i <;> simp) g3
  refine ⟨H, r, ?_, ?_, ?_, fun i hi => hO i ((g3 i).mp hi).1⟩
  · unfold mX3_holesOf
    rw [hO', r1, jb_s, eH]
  · unfold mX3_howManyBy
    rw [← eH]
    have g1 : mX3_howManyBy_L9 n (nI (w * h)) fra fst (mX3_otherJoin mjn) n (O &&& (R ^^^ -1)) 0 0 = some r := g1
    rw [g1]; rfl
  · unfold mX8_holesOf
    rw [← hwh, hO', g2]; rfl
end
