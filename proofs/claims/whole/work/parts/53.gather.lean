theorem AG.at {a : Nat → Int64} {L : List Int64} (g : AG a L) {i : Nat} (hi : i < L.length) : a i = L.getD i 0 := g i hi
def CV (L : List Int64) (m : Nat) (o : Int64) : Prop := ∃ l : List Int64, l.length ≤ m ∧ (∀ b, b ∈ l → b ∈ L) ∧ ∀ i, bt64 o i = true → ∃ b, b ∈ l ∧ bt64 b i = true
theorem CV.nil (L : List Int64) (m : Nat) : CV L m 0 := ⟨[], Nat.zero_le _, fun _ h => absurd h (List.not_mem_nil), fun i hi => by rw [bt_0] at hi; cases hi⟩
theorem cv_0 {L : List Int64} {o : Int64} : CV L 0 o ↔ o = 0 := by
  constructor
  · rintro ⟨l, h1, -, h3⟩
    have e : l = [] := List.length_eq_zero_iff.mp (by omega)
    subst e
    refine (eq0_iff o).mpr (fun i _ => ?_)
    cases hb : bt64 o i
    · rfl
    · obtain ⟨b, h4, -⟩ := h3 i hb
      exact absurd h4 (List.not_mem_nil)
  · intro e; subst e; exact CV.nil L 0
theorem cv_step {L : List Int64} {m e : Nat} {o : Int64} (he : bt64 o e = true) : CV L (m + 1) o ↔ ∃ b, b ∈ L ∧ bt64 b e = true ∧ CV L m (o &&& (b ^^^ -1)) := by
  constructor
  · rintro ⟨l, h1, h2, h3⟩
    obtain ⟨b, b1, b2⟩ := h3 e he
    refine ⟨b, h2 b b1, b2, l.erase b, ?_, fun c hc => h2 c (List.mem_of_mem_erase hc), fun i hi => ?_⟩
    · rw [List.length_erase_of_mem b1]; omega
    · rw [bt_andn, Bool.and_eq_true, Bool.not_eq_true'] at hi
      obtain ⟨c, c1, c2⟩ := h3 i hi.1
      refine ⟨c, (List.mem_erase_of_ne (fun e => ?_)).mpr c1, c2⟩
      subst e
      rw [hi.2] at c2; cases c2
  · rintro ⟨b, b1, b2, l, h1, h2, h3⟩
    refine ⟨b :: l, by rw [List.length_cons]; omega, fun c hc => ?_, fun i hi => ?_⟩
    · rcases List.mem_cons.mp hc with e | hc
      · subst e; exact b1
      · exact h2 c hc
    · cases hb : bt64 b i
      · obtain ⟨c, c1, c2⟩ := h3 i (by rw [bt_andn, hi, hb]; rfl)
        exact ⟨c, List.mem_cons_of_mem _ c1, c2⟩
      · exact ⟨b, List.mem_cons_self, hb⟩
theorem mem_at {L : List Int64} {b : Int64} : b ∈ L ↔ ∃ u, u < L.length ∧ L.getD u 0 = b := by
  rw [List.mem_iff_getElem]
  constructor
  · rintro ⟨u, hu, e⟩
    refine ⟨u, hu, ?_⟩
    rw [List.getD_eq_getElem?_getD, List.getElem?_eq_getElem hu]
    exact e
  · rintro ⟨u, hu, e⟩
    rw [List.getD_eq_getElem?_getD, List.getElem?_eq_getElem hu] at e
    exact ⟨u, hu, e⟩
theorem cv_at {L : List Int64} {m e : Nat} {o : Int64} (he : bt64 o e = true) : CV L (m + 1) o ↔ ∃ u, u < L.length ∧ bt64 (L.getD u 0) e = true ∧ CV L m (o &&& (L.getD u 0 ^^^ -1)) := by
  rw [cv_step he]
  constructor
  · rintro ⟨b, b1, b2, b3⟩
    obtain ⟨u, u1, u2⟩ := mem_at.mp b1
    subst u2
    exact ⟨u, u1, b2, b3⟩
  · rintro ⟨u, u1, u2, u3⟩
    exact ⟨_, mem_at.mpr ⟨u, u1, rfl⟩, u2, u3⟩
/-! no more than 210 widest boxes in a picture of at most 20 cells -/
def kP (c : Nat) (x : Int64) (k : Nat) : Bool := bt64 x (k / c) && (decide (k / c ≤ k % c) && bt64 x (k % c))
theorem row_ct (x : Int64) {f c : Nat} (hf : f < c) : cnt (fun l => decide (f ≤ l) && bt64 x l) c + cnt (bt64 x) f = cnt (bt64 x) c := by
  obtain ⟨d, rfl⟩ : ∃ d, c = f + d := ⟨c - f, by omega⟩
  rw [cnt_split, cnt_split (bt64 x)]
  rw [cnt_false (f := fun l => decide (f ≤ l) && bt64 x l) (n := f) (fun i hi => by
    show (decide (f ≤ i) && bt64 x i) = false
    rw [decide_eq_false (by omega), Bool.false_and])]
  rw [cnt_cong (f := fun i => decide (f ≤ f + i) && bt64 x (f + i)) (g := fun i => bt64 x (f + i)) (fun i _ => by rw [decide_eq_true (by omega), Bool.true_and])]
  omega
theorem row_cP (x : Int64) {f c : Nat} (hf : f < c) : cnt (fun l => kP c x (f * c + l)) c = if bt64 x f = true then cnt (bt64 x) c - cnt (bt64 x) f else 0 := by
  have e1 : cnt (fun l => kP c x (f * c + l)) c = cnt (fun l => bt64 x f && (decide (f ≤ l) && bt64 x l)) c := cnt_cong (fun l hl => by
    show kP c x (f * c + l) = _
    unfold kP
    rw [co_div f hl, co_mod f hl])
  rw [e1]
  cases hx : bt64 x f
  · rw [if_neg (by decide)]
    exact cnt_false (fun i _ => rfl)
  · rw [if_pos rfl]
    have := row_ct x hf
    have e2 : cnt (fun l => true && (decide (f ≤ l) && bt64 x l)) c = cnt (fun l => decide (f ≤ l) && bt64 x l) c := cnt_cong (fun l _ => Bool.true_and _)
    omega
theorem kP_sum (x : Int64) (c : Nat) : ∀ f, f ≤ c → 2 * cnt (kP c x) (f * c) + (cnt (bt64 x) c - cnt (bt64 x) f) * (cnt (bt64 x) c - cnt (bt64 x) f + 1) ≤ cnt (bt64 x) c * (cnt (bt64 x) c + 1)
  | 0, _ => by rw [Nat.zero_mul]; show 2 * 0 + (_ - 0) * (_ - 0 + 1) ≤ _; rw [Nat.sub_zero]; omega
  | f + 1, hf => by
    have ih := kP_sum x c f (by omega)
    have hr := row_cP x (show f < c by omega)
    have hm := cnt_up (bt64 x) (show f + 1 ≤ c by omega)
    rw [show (f + 1) * c = f * c + c from Nat.succ_mul f c, cnt_split (kP c x) (f * c) c, hr, cnt_succ]
    rw [cnt_succ] at hm
    cases hx : bt64 x f
    · rw [if_neg (by decide), if_neg (by decide)]
      exact ih
    · rw [hx, if_pos rfl] at hm
      rw [if_pos rfl, if_pos rfl]
      obtain ⟨d, hd⟩ : ∃ d, cnt (bt64 x) c = cnt (bt64 x) f + 1 + d := ⟨cnt (bt64 x) c - (cnt (bt64 x) f + 1), by omega⟩
      rw [show cnt (bt64 x) c - cnt (bt64 x) f = d + 1 by omega] at *
      rw [show cnt (bt64 x) c - (cnt (bt64 x) f + 1) = d by omega]
      have e3 : (d + 1) * (d + 1 + 1) = d * (d + 1) + 2 * (d + 1) := by rw [Nat.mul_comm d (d + 1), ← Nat.mul_comm (d + 1) 2, ← Nat.mul_add]
      omega
theorem kP_210 {x : Int64} {c : Nat} (hc : c ≤ 64) (hp : pcn x ≤ 20) : cnt (kP c x) (c * c) ≤ 210 := by
  have h1 := kP_sum x c c (Nat.le_refl _)
  have h2 : cnt (bt64 x) c ≤ 20 := Nat.le_trans (cnt_up _ hc) hp
  have h3 : cnt (bt64 x) c * (cnt (bt64 x) c + 1) ≤ 20 * 21 := Nat.mul_le_mul h2 (by omega)
  omega
section
variable {w h : Nat} {fw fc : Int32} {fwh fbo : Int64} {fra fco fro : Nat → Int32} {fst : Nat → Int64}
theorem isB_in (hw : 2 ≤ w ∧ w ≤ 7 ∧ 2 ≤ h ∧ h ≤ 7) (hF : FOK w h fw fc fwh fbo fra fst fco fro) {x : Int64} {f l : Nat} (hf : f < w * h) (hl : l < w * h) (hB : isB w x f l = true) : bt64 x f = true ∧ f ≤ l ∧ bt64 x l = true := by
  obtain ⟨⟨b1, b2⟩, b3⟩ := isB_iff.mp hB
  have b4 := sbb_iff.mp b3
  have b5 := rcv_self hw hF hf hl b1 b2
  refine ⟨b4 f b5.1, ?_, b4 l b5.2⟩
  rcases Nat.lt_or_ge l f with q | q
  · rw [isB_lt q] at hB; cases hB
  · exact q
theorem mls_kP (hw : 2 ≤ w ∧ w ≤ 7 ∧ 2 ≤ h ∧ h ≤ 7) (hF : FOK w h fw fc fwh fbo fra fst fco fro) (x : Int64) : ∀ k, k ≤ w * h * (w * h) → (mls w h x k).length ≤ cnt (kP (w * h) x) k
  | 0, _ => Nat.le_refl _
  | k + 1, hk => by
    have ih := mls_kP hw hF x k (by omega)
    rw [cnt_succ]
    by_cases m : kM w h x k = true
    · have hb := isB_in hw hF (Nat.div_lt_of_lt_mul (show k < w * h * (w * h) by omega)) (Nat.mod_lt _ (by have := wh_lt hw; omega)) (isM_iff.mp m).1
      have : kP (w * h) x k = true := by unfold kP; rw [hb.1, hb.2.2, decide_eq_true hb.2.1]; rfl
      rw [mls_t m, this, List.length_append, if_pos rfl]
      show _ + 1 ≤ _ + 1
      omega
    · rw [mls_f (by simpa using m)]
      omega
theorem mls_210 (hw : 2 ≤ w ∧ w ≤ 7 ∧ 2 ≤ h ∧ h ≤ 7) (hF : FOK w h fw fc fwh fbo fra fst fco fro) {x : Int64} (hp : pcn x ≤ 20) {k : Nat} (hk : k ≤ w * h * (w * h)) : (mls w h x k).length ≤ 210 :=
  Nat.le_trans (mls_kP hw hF x k hk) (Nat.le_trans (cnt_up _ hk) (kP_210 (by have := wh_lt hw; omega) hp))
theorem ga_in (hw : 2 ≤ w ∧ w ≤ 7 ∧ 2 ≤ h ∧ h ≤ 7) (hF : FOK w h fw fc fwh fbo fra fst fco fro) {x : Int64} (hp : pcn x ≤ 20) {n : Nat} (hn : 10 ^ 80 ≤ n) {f : Nat} (hf : f < w * h) : ∀ (q l : Nat) (bwi : Nat → Int64), l ≤ w * h → w * h - l < q → AG bwi (mls w h x (f * (w * h) + l)) → ∃ y, mX0_gatherWidest_L21 n (nI (w * h)) fco fro fw (nI f) x fst fra q (nI l) (nI (mls w h x (f * (w * h) + l)).length) bwi = some (nI (mls w h x (f * (w * h) + w * h)).length, y) ∧ AG y (mls w h x (f * (w * h) + w * h)) := by
  have hb := wh_lt hw
  intro q
  induction q with
  | zero => intro l bwi h0 h1; omega
  | succ q ih =>
    intro l bwi h0 h1 hg
    rw [mX0_gatherWidest_L21]
    by_cases hl : l = w * h
    · rw [hl, if_pos (Int32.le_refl _)]
      rw [hl] at hg
      exact ⟨bwi, rfl, hg⟩
    · have hlt : l < w * h := by omega
      rw [if_neg (nI_ge hlt (by omega)), between_eq hw hF x hf hlt hn, jb_s, bv_eq hw hF x hf hlt, nI_1 l]
      have hkk : f * (w * h) + l < w * h * (w * h) := co_lt hlt hf
      have ih := ih (l + 1)
      rw [show f * (w * h) + (l + 1) = f * (w * h) + l + 1 from rfl] at ih
      have km := kM_at w h x f hlt
      have hlen := mls_210 hw hF hp (show f * (w * h) + l + 1 ≤ w * h * (w * h) by omega)
      by_cases b : isB w x f l = true
      · rw [if_pos b, if_neg (rcv_ne0 hw hF hf hlt b), canWiden_eq hw hF x hf hlt (isB_iff.mp b).1.1 (isB_iff.mp b).1.2 (isB_iff.mp b).2 hn, jb_s, bsel]
        by_cases cw : cwd w h x f l = true
        · have e := mls_f (h := h) (x := x) (by rw [km]; exact isM_f2 cw)
          rw [e] at ih
          rw [if_pos cw, jb2_s]
          exact ih bwi (by omega) (by omega) hg
        · have e := mls_t (h := h) (x := x) (by rw [km]; exact isM_t b cw)
          rw [e, List.length_append] at hlen
          have hlen : (mls w h x (f * (w * h) + l)).length + 1 ≤ 210 := hlen
          rw [e, List.length_append, kR_at w h f hlt] at ih
          rw [if_neg cw, if_neg (show ¬ (210 : Int32) ≤ nI _ from nI_ge (show _ < 210 by omega) (by decide)), gd_t (ib_nI (show (mls w h x (f * (w * h) + l)).length < 210 by omega) (by decide)), jb2_s, nI_1, nI_clamp (by omega)]
          exact ih _ (by omega) (by omega) (hg.push _)
      · have b' : isB w x f l = false := by simpa using b
        have e := mls_f (h := h) (x := x) (by rw [km]; exact isM_f b')
        rw [e] at ih
        rw [if_neg b, if_pos rfl, jb2_s]
        exact ih bwi (by omega) (by omega) hg
theorem ga_out (hw : 2 ≤ w ∧ w ≤ 7 ∧ 2 ≤ h ∧ h ≤ 7) (hF : FOK w h fw fc fwh fbo fra fst fco fro) {x : Int64} (hp : pcn x ≤ 20) {n : Nat} (hn : 10 ^ 80 ≤ n) : ∀ (q f : Nat) (bwi : Nat → Int64), f ≤ w * h → w * h - f < q → AG bwi (mls w h x (f * (w * h))) → ∃ y, mX0_gatherWidest_L7 n (nI (w * h)) fco fro fw x fst fra q (nI f) (nI (mls w h x (f * (w * h))).length) bwi = some (nI (mls w h x (w * h * (w * h))).length, y) ∧ AG y (mls w h x (w * h * (w * h))) := by
  have hb := wh_lt hw
  intro q
  induction q with
  | zero => intro f bwi h0 h1; omega
  | succ q ih =>
    intro f bwi h0 h1 hg
    rw [mX0_gatherWidest_L7]
    by_cases hl : f = w * h
    · rw [hl, if_pos (Int32.le_refl _)]
      rw [hl] at hg
      exact ⟨bwi, rfl, hg⟩
    · have hlt : f < w * h := by omega
      rw [← mls_skip w h x f hlt f (Nat.le_refl _)] at hg ⊢
      obtain ⟨y, y1, y2⟩ := ga_in hw hF hp hn hlt n f bwi (by omega) (by omega) hg
      rw [if_neg (nI_ge hlt (by omega)), y1, jb2_s, nI_1 f, ← Nat.succ_mul]
      rw [← Nat.succ_mul] at y2
      exact ih (f + 1) y (by omega) (by omega) y2
theorem gather_eq (hw : 2 ≤ w ∧ w ≤ 7 ∧ 2 ≤ h ∧ h ≤ 7) (hF : FOK w h fw fc fwh fbo fra fst fco fro) {x : Int64} (hp : pcn x ≤ 20) {n : Nat} (hn : 10 ^ 80 ≤ n) (bwi : Nat → Int64) : ∃ y, mX0_gatherWidest n (nI (w * h)) fco fro fw fst fra bwi x = some (nI (mls w h x (w * h * (w * h))).length, y) ∧ AG y (mls w h x (w * h * (w * h))) := by
  have hb := wh_lt hw
  obtain ⟨y, y1, y2⟩ := ga_out hw hF hp hn n 0 bwi (Nat.zero_le _) (by omega) (by rw [Nat.zero_mul]; exact fun i hi => absurd hi (Nat.not_lt_zero _))
  rw [Nat.zero_mul] at y1
  have y1 : mX0_gatherWidest_L7 n (nI (w * h)) fco fro fw x fst fra n 0 0 bwi = _ := y1
  refine ⟨y, ?_, y2⟩
  unfold mX0_gatherWidest
  rw [y1, jb2_s]
/-! the fewest boxes: the first search -/
theorem hv_L {L : List Int64} {bwi : Nat → Int64} (hL : L.length ≤ 210) {e : Nat} (he : e < 64) (n : Nat) : ∀ (q i v : Nat), i ≤ L.length → v ≤ i → L.length - i < q → ∃ r, r ≤ L.length ∧ mX0_howManyHave_L4 n (nI L.length) bwi (nI e) q (nI v) (nI i) = some (nI r) := by
  intro q
  induction q with
  | zero => intro i v h0 h1; omega
  | succ q ih =>
    intro i v h0 hv h1
    rw [mX0_howManyHave_L4]
    by_cases hi : i = L.length
    · rw [hi, if_pos (Int32.le_refl _)]
      exact ⟨v, by omega, rfl⟩
    · have hlt : i < L.length := by omega
      rw [if_neg (nI_ge hlt (by omega)), gd_t (ib_nI (show i < 210 by omega) (by decide)), nI_clamp (by omega), bitAt_eq _ he, nI_1 i]
      cases hb : bt64 (bwi i) e
      · rw [if_neg (by decide), show nI v + (0 : Int32) = nI (v + 0) from nI_add v 0]
        exact ih (i + 1) (v + 0) (by omega) (by omega) (by omega)
      · rw [if_pos rfl, nI_1]
        exact ih (i + 1) (v + 1) (by omega) (by omega) (by omega)
theorem hd_L {L : List Int64} {bwi : Nat → Int64} (hL : L.length ≤ 210) {c : Nat} (hc : c ≤ 49) {n : Nat} (hn : 10 ^ 80 ≤ n) {o : Int64} : ∀ (q i v3 v4 : Nat), i ≤ c → c - i < q → ((v4 = 211 ∧ ∀ t, t < i → bt64 o t = false) ∨ (v4 ≤ 210 ∧ v3 < c ∧ bt64 o v3 = true)) → ∃ r, mX0_hardest_L10 n (nI c) o (nI L.length) bwi q (nI v3) (nI v4) (nI i) = some (nI r) ∧ ((∀ t, t < c → bt64 o t = false) ∨ (r < c ∧ bt64 o r = true)) := by
  intro q
  induction q with
  | zero => intro i v3 v4 h0 h1; omega
  | succ q ih =>
    intro i v3 v4 h0 h1 hI
    rw [mX0_hardest_L10]
    by_cases hi : i = c
    · rw [hi, if_pos (Int32.le_refl _)]
      rw [hi] at hI
      refine ⟨v3, rfl, ?_⟩
      rcases hI with ⟨-, g⟩ | ⟨-, g1, g2⟩
      · exact Or.inl g
      · exact Or.inr ⟨g1, g2⟩
    · have hlt : i < c := by omega
      obtain ⟨r, r1, r2⟩ := hv_L (bwi := bwi) hL (show i < 64 by omega) n n 0 0 (Nat.zero_le _) (Nat.le_refl _) (by omega)
      have r2 : mX0_howManyHave_L4 n (nI L.length) bwi (nI i) n 0 0 = some (nI r) := r2
      rw [if_neg (nI_ge hlt (by omega)), nI_1 i]
      by_cases hb : bt64 o i = true
      · rw [if_neg (by rw [tst_bit _ (show i < 64 by omega), hb]; decide)]
        unfold mX0_howManyHave
        rw [r2, jb_s, jb_s]
        by_cases c1 : v4 ≤ r
        · rw [if_pos (nI_le c1 (by omega)), jb2_s]
          refine ih (i + 1) v3 v4 (by omega) (by omega) ?_
          rcases hI with ⟨g, -⟩ | g
          · omega
          · exact Or.inr g
        · rw [if_neg (nI_ge (show r < v4 by omega) (by rcases hI with ⟨g, -⟩ | ⟨g, -⟩ <;> omega)), jb2_s]
          exact ih (i + 1) i r (by omega) (by omega) (Or.inr ⟨by omega, hlt, hb⟩)
      · have hb' : bt64 o i = false := by simpa using hb
        rw [if_pos ((tst_bit _ (show i < 64 by omega)).mpr hb'), jb2_s]
        refine ih (i + 1) v3 v4 (by omega) (by omega) ?_
        rcases hI with ⟨g1, g2⟩ | g
        · refine Or.inl ⟨g1, fun t ht => ?_⟩
          by_cases e : t = i
          · subst e; exact hb'
          · exact g2 t (by omega)
        · exact Or.inr g
theorem hardest_ok {L : List Int64} {bwi : Nat → Int64} (hL : L.length ≤ 210) {c : Nat} (hc : c ≤ 49) {n : Nat} (hn : 10 ^ 80 ≤ n) {o : Int64} (ho : ∀ i, bt64 o i = true → i < c) (hne : ¬ o = 0) : ∃ r, mX0_hardest n (nI c) (nI L.length) bwi o = some (nI r) ∧ r < c ∧ bt64 o r = true := by
  obtain ⟨r, r1, r2⟩ := hd_L (bwi := bwi) hL hc hn (o := o) n 0 0 211 (Nat.zero_le _) (by omega) (Or.inl ⟨rfl, fun t ht => absurd ht (Nat.not_lt_zero _)⟩)
  have r1 : mX0_hardest_L10 n (nI c) o (nI L.length) bwi n 0 211 0 = some (nI r) := r1
  refine ⟨r, by unfold mX0_hardest; rw [r1, jb_s], ?_⟩
  rcases r2 with g | g
  · exact absurd (no_bits ho g) hne
  · exact g
end
