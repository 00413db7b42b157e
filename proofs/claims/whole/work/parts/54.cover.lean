def FewS (L : List Int64) (used best r : Nat) (o : Int64) : Prop := r ≤ best ∧ ∀ t, t < best → (r ≤ t ↔ (used ≤ t ∧ CV L (t - used) o))
theorem few_L {L : List Int64} {bwi : Nat → Int64} (hg : AG bwi L) (hL : L.length ≤ 210) {e used best : Nat} (he : e < 64) (hbest : best ≤ 20) {o : Int64} {rc : Int64 → Int32 → Int32 → Option Int32} (hrc : ∀ o' b', (∀ i, bt64 o' i = true → bt64 o i = true) → b' ≤ best → ∃ r, rc o' (nI (used + 1)) (nI b') = some (nI r) ∧ FewS L (used + 1) b' r o') (n : Nat) : ∀ (q i least : Nat), i ≤ L.length → L.length - i < q → least ≤ best → (∀ t, t < best → (least ≤ t ↔ ∃ u, u < i ∧ bt64 (L.getD u 0) e = true ∧ used + 1 ≤ t ∧ CV L (t - (used + 1)) (o &&& (L.getD u 0 ^^^ -1)))) → ∃ r, mX0_fewest_L38 n (nI L.length) bwi (nI e) rc o (nI used) q (nI least) (nI i) = some (nI r) ∧ r ≤ best ∧ ∀ t, t < best → (r ≤ t ↔ ∃ u, u < L.length ∧ bt64 (L.getD u 0) e = true ∧ used + 1 ≤ t ∧ CV L (t - (used + 1)) (o &&& (L.getD u 0 ^^^ -1))) := by
  intro q
  induction q with
  | zero => intro i least h0 h1; omega
  | succ q ih =>
    intro i least h0 h1 hl hs
    rw [mX0_fewest_L38]
    by_cases hi : i = L.length
    · rw [hi, if_pos (Int32.le_refl _)]
      rw [hi] at hs
      exact ⟨least, rfl, hl, hs⟩
    · have hlt : i < L.length := by omega
      have b210 : ib (nI i) 210 := ib_nI (show i < 210 by omega) (by decide)
      rw [if_neg (nI_ge hlt (by omega)), gd_t b210, gd_t b210, nI_clamp (by omega), hg.at hlt, nI_1 i, nI_1 used]
      by_cases hb : bt64 (L.getD i 0) e = true
      · obtain ⟨r, r1, r2, r3⟩ := hrc (o &&& (L.getD i 0 ^^^ -1)) least (fun j hj => by rw [bt_andn, Bool.and_eq_true] at hj; exact hj.1) hl
        rw [if_neg (by rw [tst_bit _ he, hb]; decide), r1, jb_s, jb_s]
        refine ih (i + 1) r (by omega) (by omega) (by omega) (fun t ht => ?_)
        constructor
        · intro hrt
          rcases Nat.lt_or_ge t least with c | c
          · obtain ⟨c1, c2⟩ := (r3 t c).mp hrt
            exact ⟨i, by omega, hb, c1, c2⟩
          · obtain ⟨u, u1, u2⟩ := (hs t ht).mp c
            exact ⟨u, by omega, u2⟩
        · rintro ⟨u, u1, u2, u3, u4⟩
          rcases Nat.lt_or_ge t least with c | c
          · by_cases eu : u = i
            · subst eu; exact (r3 t c).mpr ⟨u3, u4⟩
            · have := (hs t ht).mpr ⟨u, by omega, u2, u3, u4⟩; omega
          · omega
      · have hb' : bt64 (L.getD i 0) e = false := by simpa using hb
        rw [if_pos ((tst_bit _ he).mpr hb'), jb_s]
        refine ih (i + 1) least (by omega) (by omega) hl (fun t ht => ?_)
        rw [hs t ht]
        constructor
        · rintro ⟨u, u1, u2⟩; exact ⟨u, by omega, u2⟩
        · rintro ⟨u, u1, u2, u3⟩
          by_cases eu : u = i
          · subst eu; exact absurd u2 hb
          · exact ⟨u, by omega, u2, u3⟩
theorem few_ok {L : List Int64} {bwi : Nat → Int64} (hg : AG bwi L) (hL : L.length ≤ 210) {c : Nat} (hc : c ≤ 49) {n : Nat} (hn : 10 ^ 80 ≤ n) : ∀ (d used best : Nat) (o : Int64), used + d = 24 → used ≤ 20 → best ≤ 20 → (∀ i, bt64 o i = true → i < c) → ∃ r, mX0_fewest n (nI c) (nI L.length) bwi d o (nI used) (nI best) = some (nI r) ∧ FewS L used best r o := by
  intro d
  induction d with
  | zero => intro used best o h1 h2; omega
  | succ d ih =>
    intro used best o h1 h2 h3 ho
    rw [mX0_fewest]
    unfold mX0_fewest_b
    by_cases oz : o = 0
    · rw [if_pos oz]
      unfold mJ9_min_7cf53
      by_cases c1 : best < used
      · rw [if_pos (nI_lt c1 (by omega))]
        exact ⟨best, rfl, Nat.le_refl _, fun t ht => ⟨fun g => by omega, fun g => by omega⟩⟩
      · rw [if_neg (nI_nlt (by omega) (by omega))]
        refine ⟨used, rfl, by omega, fun t ht => ⟨fun g => ⟨g, ?_⟩, fun g => g.1⟩⟩
        rw [oz]; exact CV.nil L _
    · rw [if_neg oz, nI_1 used]
      by_cases c1 : used + 1 < best
      · obtain ⟨e, e1, e2, e3⟩ := hardest_ok (bwi := bwi) hL hc hn ho oz
        obtain ⟨r, r1, r2, r3⟩ := few_L hg hL (e := e) (used := used) (best := best) (by omega) h3 (o := o) (rc := mX0_fewest n (nI c) (nI L.length) bwi d) (fun o' b' k1 k2 => ih (used + 1) b' o' (by omega) (by omega) (by omega) (fun i hi => ho i (k1 i hi))) n n 0 best (Nat.zero_le _) (by omega) (Nat.le_refl _) (fun t ht => ⟨fun g => by omega, fun ⟨u, u1, _⟩ => absurd u1 (Nat.not_lt_zero _)⟩)
        have r1 : mX0_fewest_L38 n (nI L.length) bwi (nI e) _ o (nI used) n (nI best) 0 = some (nI r) := r1
        rw [if_pos (nI_lt c1 (by omega)), e1, jb_s, r1, jb_s]
        refine ⟨r, rfl, r2, fun t ht => ?_⟩
        rw [r3 t ht]
        constructor
        · rintro ⟨u, u1, u2, u3, u4⟩
          refine ⟨by omega, ?_⟩
          rw [show t - used = (t - (used + 1)) + 1 by omega]
          exact (cv_at e3).mpr ⟨u, u1, u2, u4⟩
        · rintro ⟨k1, k2⟩
          by_cases et : t = used
          · subst et
            rw [Nat.sub_self] at k2
            exact absurd (cv_0.mp k2) oz
          · rw [show t - used = (t - (used + 1)) + 1 by omega] at k2
            obtain ⟨u, u1, u2, u4⟩ := (cv_at e3).mp k2
            exact ⟨u, u1, u2, by omega, u4⟩
      · rw [if_neg (nI_nlt (by omega) (by omega))]
        refine ⟨best, rfl, Nat.le_refl _, fun t ht => ⟨fun g => by omega, fun ⟨k1, k2⟩ => ?_⟩⟩
        have et : t = used := by omega
        subst et
        rw [Nat.sub_self] at k2
        exact absurd (cv_0.mp k2) oz
/-! the reference's search -/
theorem nx_L {L : List Int64} {mgr : Nat → Int64} (hg : AG mgr L) (hL : L.length ≤ 784) {e : Nat} (he : e < 64) (n : Nat) : ∀ (q i : Nat), i ≤ L.length → L.length - i < q → ∃ r, mX8_isCoveredBy_L58 n (nI L.length) mgr (nI e) q (nI i) = some (nI r) ∧ i ≤ r ∧ r ≤ L.length ∧ (∀ u, i ≤ u → u < r → bt64 (L.getD u 0) e = false) ∧ (r < L.length → bt64 (L.getD r 0) e = true) := by
  intro q
  induction q with
  | zero => intro i h0 h1; omega
  | succ q ih =>
    intro i h0 h1
    rw [mX8_isCoveredBy_L58]
    by_cases hi : i = L.length
    · rw [hi, if_pos (Int32.le_refl _)]
      exact ⟨_, rfl, Nat.le_refl _, Nat.le_refl _, fun u _ _ => by omega, fun g => absurd g (Nat.lt_irrefl _)⟩
    · have hlt : i < L.length := by omega
      rw [if_neg (nI_ge hlt (by omega)), gd_t (ib_nI (show i < 800 by omega) (by decide)), nI_clamp (by omega), hg.at hlt, has_eq _ he, nI_1 i, bsel]
      by_cases hb : bt64 (L.getD i 0) e = true
      · rw [if_pos hb]
        exact ⟨i, rfl, Nat.le_refl _, h0, fun u _ _ => by omega, fun _ => hb⟩
      · rw [if_neg hb]
        obtain ⟨r, r1, r2, r3, r4, r5⟩ := ih (i + 1) (by omega) (by omega)
        refine ⟨r, r1, by omega, r3, fun u u1 u2 => ?_, r5⟩
        by_cases eu : u = i
        · subst eu; simpa using hb
        · exact r4 u (by omega) u2
def Fnd (L : List Int64) (r : Nat) (o : Int64) (e j : Nat) : Prop := o = 0 ∨ ∃ r', r = r' + 1 ∧ ∃ u, j ≤ u ∧ u < L.length ∧ bt64 (L.getD u 0) e = true ∧ CV L r' (o &&& (L.getD u 0 ^^^ -1))
theorem fnd_cv {L : List Int64} {r : Nat} {o : Int64} {e : Nat} (he : ¬ o = 0 → bt64 o e = true) : Fnd L r o e 0 ↔ CV L r o := by
  by_cases oz : o = 0
  · exact ⟨fun _ => by rw [oz]; exact CV.nil L r, fun _ => Or.inl oz⟩
  · cases r with
    | zero =>
      rw [cv_0]
      constructor
      · rintro (g | ⟨r', g, -⟩)
        · exact g
        · omega
      · exact Or.inl
    | succ r =>
      rw [cv_at (he oz)]
      constructor
      · rintro (g | ⟨r', g, u, -, u2⟩)
        · exact absurd g oz
        · have : r' = r := by omega
          subst this
          exact ⟨u, u2⟩
      · rintro ⟨u, u2⟩
        exact Or.inr ⟨r, rfl, u, Nat.zero_le _, u2⟩
def lowB (o : Int64) (e : Nat) : Prop := ¬ o = 0 → (e < 64 ∧ bt64 o e = true ∧ ∀ i, i < e → bt64 o i = false)
theorem low_min (o : Int64) (P : Nat → Prop) : ∀ m, (∃ i, i < m ∧ bt64 o i = true) → ∃ e, e < m ∧ bt64 o e = true ∧ ∀ i, i < e → bt64 o i = false
  | 0, ⟨i, hi, _⟩ => absurd hi (Nat.not_lt_zero _)
  | m + 1, ⟨i, hi, hb⟩ => by
    by_cases c : ∃ i, i < m ∧ bt64 o i = true
    · obtain ⟨e, e1, e2⟩ := low_min o P m c
      exact ⟨e, by omega, e2⟩
    · refine ⟨i, hi, hb, fun k hk => ?_⟩
      cases hc : bt64 o k
      · rfl
      · exact absurd ⟨k, by omega, hc⟩ c
theorem low_ex (o : Int64) : ∃ e, lowB o e := by
  by_cases oz : o = 0
  · exact ⟨0, fun g => absurd oz g⟩
  · obtain ⟨e, e1⟩ := low_min o (fun _ => True) 64 (ne0_ex oz)
    exact ⟨e, fun _ => e1⟩
def Uf (N : Nat) : Nat → Nat
  | 0 => 1
  | r + 1 => 1 + N * (1 + Uf N r)
def Bf (N : Nat) : Nat → Nat → Nat
  | 0, _ => 1
  | r + 1, s => 1 + s * (1 + Uf N r)
theorem Bf_U (N : Nat) : ∀ r, Bf N r N = Uf N r
  | 0 => rfl
  | _ + 1 => rfl
theorem Uf_le {N : Nat} (hN : N ≤ 784) : ∀ r, Uf N r ≤ 1000 ^ (r + 1)
  | 0 => by show 1 ≤ 1000 ^ 1; decide
  | r + 1 => by
    have ih := Uf_le hN r
    show 1 + N * (1 + Uf N r) ≤ 1000 ^ (r + 1 + 1)
    have h1 : N * (1 + Uf N r) ≤ 784 * (1 + 1000 ^ (r + 1)) := Nat.mul_le_mul hN (by omega)
    have h2 : 1000 ≤ 1000 ^ (r + 1) := by
      rw [Nat.pow_succ]
      have : 0 < 1000 ^ r := Nat.pow_pos (by decide)
      omega
    rw [Nat.pow_succ 1000 (r + 1)]
    omega
theorem cb_L {L : List Int64} {mgr : Nat → Int64} (hg : AG mgr L) (hL : L.length ≤ 784) {m : Nat} (hm : m ≤ 20) {n : Nat} (hn : 10 ^ 80 ≤ n) : ∀ (r d : Nat), d + r = m → ∀ (s j : Nat), j ≤ L.length → L.length ≤ j + s → ∀ (q e : Nat) (mtr : Nat → Int32) (mle : Nat → Int64), lowB (mle d) e → (0 < r → mtr d + 1 = nI j) → Bf L.length r s ≤ q → (Fnd L r (mle d) e j → ∃ tr le, mX8_isCoveredBy_L9 n (nI m) (nI L.length) mgr q (nI d) mtr mle = some (.inl (tr, le)) ∧ le 0 = mle 0) ∧ (¬ Fnd L r (mle d) e j → ∃ q' tr le, q ≤ q' + Bf L.length r s ∧ mX8_isCoveredBy_L9 n (nI m) (nI L.length) mgr q (nI d) mtr mle = mX8_isCoveredBy_L9 n (nI m) (nI L.length) mgr q' (nI d + (-1)) tr le ∧ (∀ i, i < d → tr i = mtr i) ∧ (∀ i, i ≤ d → le i = mle i)) := by
  intro r
  induction r with
  | zero =>
    intro d hd s j hj0 hj q e mtr mle he ht hq
    have hq : 1 ≤ q := hq
    obtain ⟨q, rfl⟩ : ∃ q', q = q' + 1 := ⟨q - 1, by omega⟩
    have b22 : ib (nI d) 22 := ib_nI (by omega) (by decide)
    rw [mX8_isCoveredBy_L9, if_neg (nI_pos (by omega)), gd_t b22, gd_t b22]
    simp only [nI_clamp (show d < 2 ^ 31 by omega)]
    by_cases oz : mle d = 0
    · rw [if_pos oz]
      exact ⟨fun _ => ⟨mtr, mle, rfl, rfl⟩, fun g => absurd (Or.inl oz) g⟩
    · obtain ⟨e1, e2, e3⟩ := he oz
      obtain ⟨u, u1, u2, u3, -⟩ := nx_L hg hL e1 n n L.length (Nat.le_refl _) (by omega)
      have eu : u = L.length := by omega
      subst eu
      rw [if_neg oz, firstOf_ok hn e1 e2 e3, jb_s, show d = m by omega, if_pos rfl, jb_s, u1, jb_s, if_neg (nI_nlt (Nat.le_refl _) (by omega)), jb3_s]
      refine ⟨fun g => ?_, fun _ => ⟨q, mtr, mle, Nat.le_refl _, rfl, fun _ _ => rfl, fun _ _ => rfl⟩⟩
      rcases g with g | ⟨r', g, -⟩
      · exact absurd g (by rw [← show d = m by omega]; exact oz)
      · omega
  | succ r ih =>
    intro d hd s
    induction s with
    | zero =>
      intro j hj0 hj q e mtr mle he ht hq
      have hq : 1 + 0 * (1 + Uf L.length r) ≤ q := hq
      obtain ⟨q, rfl⟩ : ∃ q', q = q' + 1 := ⟨q - 1, by omega⟩
      have b22 : ib (nI d) 22 := ib_nI (by omega) (by decide)
      have b21 : ib (nI d) 21 := ib_nI (by omega) (by decide)
      have hne : ¬ nI d = nI m := by rw [nI_eq (by omega) (by omega)]; omega
      rw [mX8_isCoveredBy_L9, if_neg (nI_pos (by omega)), gd_t b22, gd_t b22]
      simp only [nI_clamp (show d < 2 ^ 31 by omega)]
      by_cases oz : mle d = 0
      · rw [if_pos oz]
        exact ⟨fun _ => ⟨mtr, mle, rfl, rfl⟩, fun g => absurd (Or.inl oz) g⟩
      · obtain ⟨e1, e2, e3⟩ := he oz
        obtain ⟨u, u1, u2, u3, -⟩ := nx_L hg hL e1 n n j (by omega) (by omega)
        have eu : u = L.length := by omega
        subst eu
        rw [if_neg oz, firstOf_ok hn e1 e2 e3, jb_s, if_neg hne, gd_t b21, ht (by omega), jb_s, u1, jb_s, if_neg (nI_nlt (Nat.le_refl _) (by omega)), jb3_s]
        refine ⟨fun g => ?_, fun _ => ⟨q, mtr, mle, by show q + 1 ≤ q + (1 + 0 * (1 + Uf L.length r)); omega, rfl, fun _ _ => rfl, fun _ _ => rfl⟩⟩
        rcases g with g | ⟨r', g, u, g1, g2, -⟩
        · exact absurd g oz
        · omega
    | succ s ihs =>
      intro j hj0 hj q e mtr mle he ht hq
      have hq : 1 + (s + 1) * (1 + Uf L.length r) ≤ q := hq
      have hms : (s + 1) * (1 + Uf L.length r) = s * (1 + Uf L.length r) + (1 + Uf L.length r) := Nat.succ_mul _ _
      obtain ⟨q, rfl⟩ : ∃ q', q = q' + 1 := ⟨q - 1, by omega⟩
      have b22 : ib (nI d) 22 := ib_nI (by omega) (by decide)
      have b21 : ib (nI d) 21 := ib_nI (by omega) (by decide)
      have b22' : ib (nI (d + 1)) 22 := ib_nI (by omega) (by decide)
      have b21' : ib (nI (d + 1)) 21 := ib_nI (by omega) (by decide)
      have hne : ¬ nI d = nI m := by rw [nI_eq (by omega) (by omega)]; omega
      rw [mX8_isCoveredBy_L9, if_neg (nI_pos (by omega)), gd_t b22, gd_t b22]
      simp only [nI_clamp (show d < 2 ^ 31 by omega)]
      by_cases oz : mle d = 0
      · rw [if_pos oz]
        exact ⟨fun _ => ⟨mtr, mle, rfl, rfl⟩, fun g => absurd (Or.inl oz) g⟩
      · obtain ⟨e1, e2, e3⟩ := he oz
        obtain ⟨u, u1, u2, u3, u4, u5⟩ := nx_L hg hL e1 n n j (by omega) (by omega)
        rw [if_neg oz, firstOf_ok hn e1 e2 e3, jb_s, if_neg hne, gd_t b21, ht (by omega), jb_s, u1, jb_s, gd_t b21, gd_t b22]
        by_cases hu : u < L.length
        · have b800 : ib (nI u) 800 := ib_nI (show u < 800 by omega) (by decide)
          rw [if_pos (nI_lt hu (by omega)), gd_t b800, nI_1 d, gd_t b22', gd_t b21', nI_clamp (show u < 2 ^ 31 by omega), nI_clamp (show d + 1 < 2 ^ 31 by omega), hg.at hu, if_neg (show ¬ (20 : Int32) < nI (d + 1) from nI_nlt (show d + 1 ≤ 20 by omega) (by decide)), jb3_s]
          have hu5 := u5 hu
          have hle : ∀ i, i ≤ d → vp_updL mle (d + 1) (mle d &&& (L.getD u 0 ^^^ -1)) i = mle i := fun i hi => updL_n _ _ (by omega)
          have hle' : vp_updL mle (d + 1) (mle d &&& (L.getD u 0 ^^^ -1)) (d + 1) = mle d &&& (L.getD u 0 ^^^ -1) := updL_s _ _ _
          have htr : ∀ i, i < d → upd (upd mtr d (nI u)) (d + 1) (-1) i = mtr i := fun i hi => by rw [upd_n _ _ (by omega), upd_n _ _ (by omega)]
          have htd : upd (upd mtr d (nI u)) (d + 1) (-1) d = nI u := by rw [upd_n _ _ (by omega), upd_s]
          have htd' : upd (upd mtr d (nI u)) (d + 1) (-1) (d + 1) + 1 = nI 0 := by rw [upd_s]; rfl
          generalize upd (upd mtr d (nI u)) (d + 1) (-1) = tr1 at *
          generalize vp_updL mle (d + 1) (mle d &&& (L.getD u 0 ^^^ -1)) = le1 at *
          obtain ⟨e', he'⟩ := low_ex (le1 (d + 1))
          have IH := ih (d + 1) (by omega) L.length 0 (Nat.zero_le _) (by omega) q e' tr1 le1 he' (fun _ => htd') (by rw [Bf_U]; omega)
          rw [fnd_cv (fun g => (he' g).2.1), hle', Bf_U] at IH
          by_cases cv : CV L r (mle d &&& (L.getD u 0 ^^^ -1))
          · obtain ⟨tr2, le2, f1, f2⟩ := IH.1 cv
            have hF : Fnd L (r + 1) (mle d) e j := Or.inr ⟨r, rfl, u, u2, hu, hu5, cv⟩
            exact ⟨fun _ => ⟨tr2, le2, f1, by rw [f2]; exact hle 0 (Nat.zero_le _)⟩, fun g => absurd hF g⟩
          · obtain ⟨q2, tr2, le2, f1, f2, f3, f4⟩ := IH.2 cv
            have f5 : le2 d = mle d := by rw [f4 d (by omega), hle d (Nat.le_refl _)]
            have f6 : tr2 d + 1 = nI (u + 1) := by rw [f3 d (by omega), htd, nI_1]
            rw [f2, pk_m1]
            have hFF : Fnd L (r + 1) (mle d) e j ↔ Fnd L (r + 1) (mle d) e (u + 1) := by
              constructor
              · rintro (g | ⟨r', g, v, v1, v2, v3, v4⟩)
                · exact Or.inl g
                · have : r' = r := by omega
                  subst this
                  refine Or.inr ⟨r', rfl, v, ?_, v2, v3, v4⟩
                  rcases Nat.lt_trichotomy v u with c | c | c
                  · rw [u4 v v1 c] at v3; cases v3
                  · subst c; exact absurd v4 cv
                  · omega
              · rintro (g | ⟨r', g, v, v1, v2⟩)
                · exact Or.inl g
                · exact Or.inr ⟨r', g, v, by omega, v2⟩
            rw [hFF]
            have IS := ihs (u + 1) (by omega) (by omega) q2 e tr2 le2 (by rw [f5]; exact he) (fun _ => f6) (by show 1 + s * (1 + Uf L.length r) ≤ q2; omega)
            rw [f5] at IS
            refine ⟨fun g => ?_, fun g => ?_⟩
            · obtain ⟨tr3, le3, g1, g2⟩ := IS.1 g
              exact ⟨tr3, le3, g1, by rw [g2, f4 0 (Nat.zero_le _), hle 0 (Nat.zero_le _)]⟩
            · obtain ⟨q3, tr3, le3, g1, g2, g3, g4⟩ := IS.2 g
              have g1 : q2 ≤ q3 + (1 + s * (1 + Uf L.length r)) := g1
              refine ⟨q3, tr3, le3, by show q + 1 ≤ q3 + (1 + (s + 1) * (1 + Uf L.length r)); omega, g2, fun i hi => ?_, fun i hi => ?_⟩
              · rw [g3 i hi, f3 i (by omega), htr i hi]
              · rw [g4 i hi, f4 i (by omega), hle i hi]
        · have eu : u = L.length := by omega
          rw [if_neg (nI_nlt (by omega) (by omega)), jb3_s]
          refine ⟨fun g => ?_, fun _ => ⟨q, mtr, mle, by show q + 1 ≤ q + (1 + (s + 1) * (1 + Uf L.length r)); omega, rfl, fun _ _ => rfl, fun _ _ => rfl⟩⟩
          rcases g with g | ⟨r', g, v, g1, g2, g3, -⟩
          · exact absurd g oz
          · rw [u4 v g1 (by omega)] at g3; cases g3
