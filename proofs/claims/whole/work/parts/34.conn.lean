theorem tg_co {w h i s : Nat} (hw : 2 ≤ w) (h1 : stp w h i s) : tg w i s % w = i % w + s % 3 - 1 ∧ tg w i s / w = i / w + s / 3 - 1 := by
  have h0 := tg_ge hw h1
  obtain ⟨a, b, c, d⟩ := h1
  have ei := Nat.div_add_mod i w
  have e1 : tg w i s = (i % w + s % 3 - 1) + w * (i / w + s / 3 - 1) := by
    unfold tg at *
    generalize i / w = y at *
    generalize i % w = x at *
    have : w * (y + s / 3 - 1) = w * (y + s / 3) - w := by rw [Nat.mul_sub, Nat.mul_one]
    rw [this]
    have h2 : w * (y + s / 3) = w * y + s / 3 * w := by rw [Nat.mul_add, Nat.mul_comm w (s / 3)]
    have h3 : w * 1 ≤ w * (y + s / 3) := Nat.mul_le_mul_left w c
    omega
  have hm : tg w i s % w = i % w + s % 3 - 1 := by
    rw [e1, Nat.add_mul_mod_self_left, Nat.mod_eq_of_lt (by omega)]
  refine ⟨hm, ?_⟩
  have e2 := Nat.div_add_mod (tg w i s) w
  have e3 : w * (tg w i s / w) = w * (i / w + s / 3 - 1) := by omega
  exact Nat.eq_of_mul_eq_mul_left (by omega) e3
def adj (w h k i j : Nat) : Prop := ∃ s, s < 9 ∧ k.testBit s = true ∧ stp w h i s ∧ j = tg w i s
def symk (k : Nat) : Prop := k = 186 ∨ k = 511
theorem symk_lt {k : Nat} (h : symk k) : k < 512 := by rcases h with e | e <;> omega
theorem symk_4 {k : Nat} (h : symk k) : k.testBit 4 = true := by rcases h with e | e <;> subst e <;> decide
theorem symk_rev {k s : Nat} (h : symk k) (hs : s < 9) (hb : k.testBit s = true) : k.testBit (8 - s) = true := by
  have t : ∀ s, s < 9 → ((186 : Nat).testBit s = true → (186 : Nat).testBit (8 - s) = true) ∧ (511 : Nat).testBit (8 - s) = true := by decide
  rcases h with e | e <;> subst e
  · exact (t s hs).1 hb
  · exact (t s hs).2
theorem adj_symm {w h k i j : Nat} (hw : 2 ≤ w) (hk : symk k) (hi : i < w * h) (g : adj w h k i j) : adj w h k j i := by
  obtain ⟨s, hs, hb, hst, rfl⟩ := g
  have hc := tg_co hw hst
  have hge := tg_ge hw hst
  have dm := dm_lt hi (show 0 < w by omega)
  have hst' := hst
  obtain ⟨a, b, c, d⟩ := hst'
  have m1 : (8 - s) % 3 = 2 - s % 3 := by omega
  have m2 : (8 - s) / 3 = 2 - s / 3 := by omega
  have hstr : stp w h (tg w i s) (8 - s) := by
    unfold stp
    rw [hc.1, hc.2, m1, m2]
    generalize i % w = x at *
    generalize i / w = y at *
    exact ⟨by omega, by omega, by omega, by omega⟩
  refine ⟨8 - s, by omega, symk_rev hk hs hb, hstr, ?_⟩
  have e1 : (2 - s / 3) * w = 2 * w - s / 3 * w := Nat.sub_mul 2 (s / 3) w
  have e2 : s / 3 * w ≤ 2 * w := Nat.mul_le_mul_right w (by omega)
  unfold tg at *
  rw [m1, m2, e1]
  omega
theorem adj_lt {w h k i j : Nat} (hw : 2 ≤ w ∧ w ≤ 7 ∧ 2 ≤ h ∧ h ≤ 7) (g : adj w h k i j) : j < w * h := by
  obtain ⟨s, -, -, hst, rfl⟩ := g
  exact tg_lt hw hst
theorem adj_self {w h k i : Nat} (hw : 2 ≤ w) (hk : symk k) (hi : i < w * h) : adj w h k i i := by
  have dm := dm_lt hi (show 0 < w by omega)
  have hstr : stp w h i 4 := by
    unfold stp
    generalize i % w = x at *
    generalize i / w = y at *
    exact ⟨by omega, by omega, by omega, by omega⟩
  refine ⟨4, by omega, symk_4 hk, hstr, ?_⟩
  unfold tg
  omega
/-- the least set with the seeds that adjacency within S does not leave -/
def Re (w h k : Nat) (S x : Int64) (j : Nat) : Prop := ∀ C : Nat → Prop, (∀ i, bt64 x i = true → C i) → (∀ i j, C i → adj w h k i j → bt64 S j = true → C j) → C j
theorem Re.seed {w h k : Nat} {S x : Int64} {j : Nat} (g : bt64 x j = true) : Re w h k S x j := fun _ h1 _ => h1 j g
theorem Re.step {w h k : Nat} {S x : Int64} {i j : Nat} (g : Re w h k S x i) (a : adj w h k i j) (hj : bt64 S j = true) : Re w h k S x j := fun C h1 h2 => h2 i j (g C h1 h2) a hj
theorem Re.sub {w h k : Nat} {S x : Int64} (hx : ∀ i, bt64 x i = true → bt64 S i = true) {j : Nat} (g : Re w h k S x j) : bt64 S j = true := g (fun i => bt64 S i = true) hx (fun _ _ _ _ h => h)
/-- a round: grown, within S -/
theorem rd_bits {w h k : Nat} {x g S : Int64} (hg : ∀ j, bt64 g j = true ↔ GrP w h x k j) (j : Nat) : bt64 (g &&& S) j = true ↔ (bt64 S j = true ∧ ∃ i, i < w * h ∧ bt64 x i = true ∧ adj w h k i j) := by
  rw [bt_and, Bool.and_eq_true, hg]
  constructor
  · rintro ⟨⟨i, s, g1, g2, g3, g4, g5, g6⟩, h2⟩
    exact ⟨h2, i, g1, g3, s, g2, g4, g5, g6⟩
  · rintro ⟨h2, i, g1, g3, s, g2, g4, g5, g6⟩
    exact ⟨⟨i, s, g1, g2, g3, g4, g5, g6⟩, h2⟩
theorem rd_up {w h k : Nat} (hw : 2 ≤ w) (hk : symk k) {x g S : Int64} (hg : ∀ j, bt64 g j = true ↔ GrP w h x k j) (hS : ∀ i, bt64 S i = true → i < w * h) (hx : ∀ i, bt64 x i = true → bt64 S i = true) : ∀ i, bt64 x i = true → bt64 (g &&& S) i = true := fun i hi => (rd_bits hg i).mpr ⟨hx i hi, i, hS i (hx i hi), hi, adj_self hw hk (hS i (hx i hi))⟩
theorem fix_re {w h k : Nat} {x0 x g S : Int64} (hg : ∀ j, bt64 g j = true ↔ GrP w h x k j) (hS : ∀ i, bt64 S i = true → i < w * h) (hxS : ∀ i, bt64 x i = true → bt64 S i = true) (h0 : ∀ i, bt64 x0 i = true → bt64 x i = true) (h1 : ∀ i, bt64 x i = true → Re w h k S x0 i) (hf : g &&& S = x) : ∀ j, bt64 x j = true ↔ Re w h k S x0 j := by
  intro j
  refine ⟨h1 j, fun hr => hr (fun i => bt64 x i = true) h0 (fun i j hi ha hj => ?_)⟩
  rw [← hf]
  exact (rd_bits hg j).mpr ⟨hj, i, hS i (hxS i hi), hi, ha⟩
theorem rd_re {w h k : Nat} {x0 x g S : Int64} (hg : ∀ j, bt64 g j = true ↔ GrP w h x k j) (h1 : ∀ i, bt64 x i = true → Re w h k S x0 i) : ∀ i, bt64 (g &&& S) i = true → Re w h k S x0 i := by
  intro i hi
  obtain ⟨h2, t, t1, t2, t3⟩ := (rd_bits hg i).mp hi
  exact (h1 t t2).step t3 h2
section
variable {w h : Nat} {fw fc : Int32} {fwh fbo : Int64} {fra fco fro : Nat → Int32} {fst : Nat → Int64}
theorem pcn_up {x y : Int64} (h : ∀ i, bt64 x i = true → bt64 y i = true) (hne : ¬ y = x) : pcn x < pcn y := pcn_sub h (fun e => hne e.symm)
theorem spr_L (hw : 2 ≤ w ∧ w ≤ 7 ∧ 2 ≤ h ∧ h ≤ 7) (hF : FOK w h fw fc fwh fbo fra fst fco fro) {k : Nat} (hk : symk k) {n : Nat} (hn : 10 ^ 80 ≤ n) {S x0 : Int64} (hS : ∀ i, bt64 S i = true → i < w * h) : ∀ (q i : Nat) (x : Int64), (∀ i, bt64 x i = true → bt64 S i = true) → (∀ i, bt64 x0 i = true → bt64 x i = true) → (∀ i, bt64 x i = true → Re w h k S x0 i) → (i ≤ w * h ∧ (i = 0 ∨ i < pcn x)) → w * h - i < q → ∃ r, (mX3_spread_L23 n (nI (w * h)) fra fst (nI k) S q x (nI i) = some (.inl r) ∨ mX3_spread_L23 n (nI (w * h)) fra fst (nI k) S q x (nI i) = some (.inr r)) ∧ ∀ j, bt64 r j = true ↔ Re w h k S x0 j := by
  have hb := wh_lt hw
  intro q
  induction q with
  | zero => intro i x h1 h2 h3 h4 h5; omega
  | succ q ih =>
    intro i x h1 h2 h3 h4 h5
    rw [mX3_spread_L23]
    have hle := pcn_le_wh (fun i hi => hS i (h1 i hi))
    have hlt : i < w * h := by
      rcases h4.2 with e | e <;> omega
    obtain ⟨g, g1, g2⟩ := grX hw hF x (symk_lt hk) hn
    rw [if_neg (nI_ge hlt (by omega)), g1, jb_s, nI_1]
    by_cases he : g &&& S = x
    · rw [if_pos he]
      exact ⟨x, Or.inl rfl, fix_re g2 hS h1 h2 h3 he⟩
    · rw [if_neg he]
      have hup := rd_up hw.1 hk g2 hS h1
      have hlt2 := pcn_up hup he
      exact ih (i + 1) (g &&& S) (fun i hi => by rw [bt_and, Bool.and_eq_true] at hi; exact hi.2) (fun i hi => hup i (h2 i hi)) (rd_re g2 h3) ⟨by omega, Or.inr (by
        have hpos : 0 < pcn x := by
          refine Nat.pos_of_ne_zero (fun h9 => he ?_)
          have hx0 := pcn_0 h9
          apply bt_ext
          intro t _
          rw [hx0, bt_0]
          cases hc : bt64 (g &&& S) t
          · rfl
          · obtain ⟨-, u, -, u2, -⟩ := (rd_bits g2 t).mp hc
            rw [hx0, bt_0] at u2
            cases u2
        rcases h4.2 with e | e
        · omega
        · omega)⟩ (by omega)
theorem pie_L (hw : 2 ≤ w ∧ w ≤ 7 ∧ 2 ≤ h ∧ h ≤ 7) {k : Nat} (hk : symk k) {n : Nat} (hn : 10 ^ 80 ≤ n) {S x0 : Int64} (hS : ∀ i, bt64 S i = true → i < w * h) : ∀ (q : Nat) (x g : Int64), (∀ i, bt64 x i = true → bt64 S i = true) → (∀ i, bt64 x0 i = true → bt64 x i = true) → (∀ i, bt64 x i = true → Re w h k S x0 i) → (∀ j, bt64 g j = true ↔ GrP w h x k j) → 64 - pcn x < q → ∃ r, mX8_pieceOf_L35 n (nI w) (nI h) (nI k) S q x (g &&& S) = some r ∧ ∀ j, bt64 r j = true ↔ Re w h k S x0 j := by
  intro q
  induction q with
  | zero => intro x g h1 h2 h3 h4 h5; omega
  | succ q ih =>
    intro x g h1 h2 h3 h4 h5
    rw [mX8_pieceOf_L35]
    by_cases he : g &&& S = x
    · rw [if_pos he]
      exact ⟨x, rfl, fix_re h4 hS h1 h2 h3 he⟩
    · rw [if_neg he]
      have hup := rd_up hw.1 hk h4 hS h1
      have hlt2 := pcn_up hup he
      obtain ⟨g', g1, g2⟩ := grM hw (g &&& S) (symk_lt hk) hn
      rw [g1, jb_s]
      have hl := pcn_le (g &&& S)
      exact ih (g &&& S) g' (fun i hi => by rw [bt_and, Bool.and_eq_true] at hi; exact hi.2) (fun i hi => hup i (h2 i hi)) (rd_re h4 h3) g2 (by omega)
def jk (j : Int32) : Nat := if j = 8 then 511 else 186
theorem jk_sym (j : Int32) : symk (jk j) := by unfold jk symk; by_cases h : j = 8 <;> simp [h]
theorem jk_M (j : Int32) : (if j = (8 : Int32) then (511 : Int32) else 186) = nI (jk j) := by unfold jk; by_cases h : j = 8 <;> simp [h] <;> rfl
theorem jk_X {j : Int32} (hj : j = 4 ∨ j = 8) : (if j = (4 : Int32) then (186 : Int32) else 511) = nI (jk j) := by rcases hj with e | e <;> subst e <;> rfl
theorem spread_ok (hw : 2 ≤ w ∧ w ≤ 7 ∧ 2 ≤ h ∧ h ≤ 7) (hF : FOK w h fw fc fwh fbo fra fst fco fro) {n : Nat} (hn : 10 ^ 80 ≤ n) {j : Int32} (hj : j = 4 ∨ j = 8) {S x0 : Int64} (hS : ∀ i, bt64 S i = true → i < w * h) (hx : ∀ i, bt64 x0 i = true → bt64 S i = true) : ∃ r, mX3_spread n (nI (w * h)) fra fst x0 S j = some r ∧ ∀ i, bt64 r i = true ↔ Re w h (jk j) S x0 i := by
  have hb := wh_lt hw
  obtain ⟨r, r1, r2⟩ := spr_L hw hF (jk_sym j) hn hS n 0 x0 hx (fun _ h => h) (fun _ h => Re.seed h) ⟨Nat.zero_le _, Or.inl rfl⟩ (by omega)
  refine ⟨r, ?_, r2⟩
  unfold mX3_spread
  rw [jl_s, jk_X hj]
  have r1 : mX3_spread_L23 n (nI (w * h)) fra fst (nI (jk j)) S n x0 0 = some (.inl r) ∨ mX3_spread_L23 n (nI (w * h)) fra fst (nI (jk j)) S n x0 0 = some (.inr r) := r1
  rcases r1 with r1 | r1 <;> rw [r1] <;> rfl
theorem pieceOf_ok (hw : 2 ≤ w ∧ w ≤ 7 ∧ 2 ≤ h ∧ h ≤ 7) {n : Nat} (hn : 10 ^ 80 ≤ n) (j : Int32) {S : Int64} (hS : ∀ i, bt64 S i = true → i < w * h) {c : Nat} (hc : bt64 S c = true) : ∃ r, mX8_pieceOf n (nI w) (nI h) S (nI c) j = some r ∧ ∀ i, bt64 r i = true ↔ Re w h (jk j) S (jlshl 1 (nI c)) i := by
  have hb := wh_lt hw
  have hcl := hS c hc
  have hx : ∀ i, bt64 (jlshl 1 (nI c)) i = true → bt64 S i = true := by
    intro i hi
    rw [bt_one (by omega), decide_eq_true_eq] at hi
    rw [hi]; exact hc
  obtain ⟨g, g1, g2⟩ := grM hw (jlshl 1 (nI c)) (symk_lt (jk_sym j)) hn
  obtain ⟨r, r1, r2⟩ := pie_L hw (jk_sym j) hn hS n (jlshl 1 (nI c)) g hx (fun _ h => h) (fun _ h => Re.seed h) g2 (by omega)
  refine ⟨r, ?_, r2⟩
  unfold mX8_pieceOf
  rw [jl_s, jk_M, g1, jb_s, r1]; rfl
/-- the piece of a cell: one set, on both sides -/
theorem piece_both (hw : 2 ≤ w ∧ w ≤ 7 ∧ 2 ≤ h ∧ h ≤ 7) (hF : FOK w h fw fc fwh fbo fra fst fco fro) {n : Nat} (hn : 10 ^ 80 ≤ n) {j : Int32} (hj : j = 4 ∨ j = 8) {S : Int64} (hS : ∀ i, bt64 S i = true → i < w * h) {c : Nat} (hc : bt64 S c = true) : ∃ r, mX3_spread n (nI (w * h)) fra fst (jlshl 1 (nI c)) S j = some r ∧ mX8_pieceOf n (nI w) (nI h) S (nI c) j = some r ∧ ∀ i, bt64 r i = true ↔ Re w h (jk j) S (jlshl 1 (nI c)) i := by
  have hb := wh_lt hw
  have hcl := hS c hc
  have hx : ∀ i, bt64 (jlshl 1 (nI c)) i = true → bt64 S i = true := by
    intro i hi
    rw [bt_one (by omega), decide_eq_true_eq] at hi
    rw [hi]; exact hc
  obtain ⟨r, r1, r2⟩ := spread_ok hw hF hn hj hS hx
  obtain ⟨r', r3, r4⟩ := pieceOf_ok hw hn j hS hc
  have e := bt_eqv r2 r4
  subst e
  exact ⟨r, r1, r3, r2⟩
theorem first_L {x : Int64} (n : Nat) {c : Nat} (hc : c < 64) (hb : bt64 x c = true) : ∀ (q t : Nat), t ≤ c → (∀ i, t ≤ i → i < c → bt64 x i = false) → c - t < q → mX8_firstOf_L2 n x q (nI t) = some (nI c) := by
  intro q
  induction q with
  | zero => intro t h1 h2 h3; omega
  | succ q ih =>
    intro t h1 h2 h3
    rw [mX8_firstOf_L2, has_eq x (by omega)]
    by_cases e : t = c
    · subst e; rw [hb, if_neg (by decide)]
    · rw [h2 t (Nat.le_refl t) (by omega), if_pos (by decide), nI_1]
      exact ih (t + 1) (by omega) (fun i h4 h5 => h2 i (by omega) h5) (by omega)
theorem firstOf_ok {x : Int64} {n : Nat} (hn : 10 ^ 80 ≤ n) {c : Nat} (hc : c < 64) (hb : bt64 x c = true) (hlow : ∀ i, i < c → bt64 x i = false) : mX8_firstOf n x = some (nI c) := by
  unfold mX8_firstOf
  have := first_L n hc hb n 0 (Nat.zero_le _) (fun i _ h => hlow i h) (by omega)
  rw [show (0 : Int32) = nI 0 from rfl, this]; rfl
end
