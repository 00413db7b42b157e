def tryF (g : Nat → Option (List Nat)) : Nat → Nat → Option (List Nat)
  | 0, _ => none
  | s + 1, j => match g j with
    | some l => some (j :: l)
    | none => tryF g s (j + 1)
theorem tryF_s {g : Nat → Option (List Nat)} {s j : Nat} {l : List Nat} (e : g j = some l) : tryF g (s + 1) j = some (j :: l) := by rw [tryF, e]
theorem tryF_n {g : Nat → Option (List Nat)} {s j : Nat} (e : g j = none) : tryF g (s + 1) j = tryF g s (j + 1) := by rw [tryF, e]
def srch (F : Int64 → Nat → Int64) (to : Int64) : Nat → Int64 → Option (List Nat)
  | 0, x => if x = to then some [] else none
  | k + 1, x => tryF (fun i => srch F to k (F x i)) 9 0
theorem tryF_lt {g : Nat → Option (List Nat)} (hg : ∀ i l, g i = some l → ∀ t, l.getD t 0 < 9) : ∀ (s j : Nat) (l : List Nat), j + s = 9 → tryF g s j = some l → ∀ t, l.getD t 0 < 9 := by
  intro s
  induction s with
  | zero => intro j l _ h; cases h
  | succ s ih =>
    intro j l hj h t
    cases e : g j with
    | none => rw [tryF_n e] at h; exact ih (j + 1) l (by omega) h t
    | some l' =>
      rw [tryF_s e] at h
      cases h
      cases t with
      | zero => show j < 9; omega
      | succ t => exact hg j l' e t
theorem srch_lt (F : Int64 → Nat → Int64) (to : Int64) : ∀ (k : Nat) (x : Int64) (l : List Nat), srch F to k x = some l → ∀ t, l.getD t 0 < 9 := by
  intro k
  induction k with
  | zero =>
    intro x l h t
    rw [srch] at h
    by_cases e : x = to
    · rw [if_pos e] at h; cases h; show (0 : Nat) < 9; decide
    · rw [if_neg e] at h; cases h
  | succ k ih =>
    intro x l h
    exact tryF_lt (fun i l e => ih (F x i) l e) 9 0 l rfl h
theorem acts9_isA : ∀ i, i < 9 → isA (acts9 i) := by
  intro i hi
  rcases (show i = 0 ∨ i = 1 ∨ i = 2 ∨ i = 3 ∨ i = 4 ∨ i = 5 ∨ i = 6 ∨ i = 7 ∨ i = 8 by omega) with e | e | e | e | e | e | e | e | e <;> subst e
  · exact ⟨0, rfl, by decide⟩
  · exact ⟨1, rfl, by decide⟩
  · exact ⟨2, rfl, by decide⟩
  · exact ⟨3, rfl, by decide⟩
  · exact ⟨10, rfl, by decide⟩
  · exact ⟨11, rfl, by decide⟩
  · exact ⟨12, rfl, by decide⟩
  · exact ⟨13, rfl, by decide⟩
  · exact ⟨40, rfl, by decide⟩
theorem actOf_t : ∀ i, i < 9 → mX8_actOf (nI i) = acts9 i := by decide +kernel
section
variable {n : Nat} {fra sst mst : Nat → Int32} {fst : Nat → Int64} {fwh : Int64} {rim mw mt : Int32} {F : Int64 → Nat → Int64}
/-- the first search finds the first row -/
theorem le_L (hn : 10 ^ 80 ≤ n) (hm : ∀ x i, i < 9 → mX6_made n fra fst sst fwh rim x (acts9 i) = some (F x i)) {to x : Int64} {d k : Nat} (hd : d < 4) {rc : (Nat → Int32) → Int64 → Int64 → Int32 → Option (Int32 × (Nat → Int32))} (hrc : ∀ qwy x, ∃ r y, rc qwy x to (nI (d + 1)) = some (r, y) ∧ (∀ i, i < d + 1 → y i = qwy i) ∧ ((r = 0 ∧ srch F to k x = none) ∨ (r = 1 ∧ ∃ l, srch F to k x = some l ∧ ∀ i, i < k → y (d + 1 + i) = acts9 (l.getD i 0)))) : ∀ (q s j : Nat) (qwy : Nat → Int32), j + s = 9 → s < q → ∃ y, (∀ i, i < d → y i = qwy i) ∧ ((mX5_leads_L40 n (9 : Int32) (nI d) fra fst sst fwh rim x rc to q (nI j) qwy = some (.inr y) ∧ tryF (fun i => srch F to k (F x i)) s j = none) ∨ (mX5_leads_L40 n (9 : Int32) (nI d) fra fst sst fwh rim x rc to q (nI j) qwy = some (.inl y) ∧ ∃ l, tryF (fun i => srch F to k (F x i)) s j = some l ∧ ∀ i, i < k + 1 → y (d + i) = acts9 (l.getD i 0))) := by
  intro q
  induction q with
  | zero => intro s j qwy h0 h1; omega
  | succ q ih =>
    intro s j qwy h0 h1
    rw [mX5_leads_L40]
    cases s with
    | zero =>
      have e : j = 9 := by omega
      subst e
      rw [if_pos (show (9 : Int32) ≤ nI 9 by decide)]
      exact ⟨qwy, fun _ _ => rfl, Or.inl ⟨rfl, rfl⟩⟩
    | succ s =>
      have b9 : ib (nI j) 9 := ib_nI (show j < 9 by omega) (by decide)
      have b4 : ib (nI d) 4 := ib_nI hd (by decide)
      obtain ⟨r, y, y1, y2, y3⟩ := hrc (upd qwy d (acts9 j)) (F x j)
      rw [if_neg (show ¬ (9 : Int32) ≤ nI j from nI_ge (show j < 9 by omega) (by decide)), gd_t b9, gd_t b4, nI_clamp (show j < 2 ^ 31 by omega), nI_clamp (show d < 2 ^ 31 by omega), hm x j (by omega), jb_s, nI_1 d, y1, jb2_s, nI_1 j]
      have hy : ∀ i, i < d → y i = qwy i := fun i hi => by rw [y2 i (by omega), upd_n _ _ (by omega)]
      rcases y3 with ⟨r0, e0⟩ | ⟨r1, l, e1, e2⟩
      · subst r0
        rw [if_pos rfl, tryF_n (g := fun i => srch F to k (F x i)) e0]
        obtain ⟨z, z1, z2⟩ := ih s (j + 1) y (by omega) (by omega)
        exact ⟨z, fun i hi => by rw [z1 i hi, hy i hi], z2⟩
      · subst r1
        rw [if_neg (by decide), tryF_s (g := fun i => srch F to k (F x i)) e1]
        refine ⟨y, hy, Or.inr ⟨rfl, _, rfl, fun i hi => ?_⟩⟩
        cases i with
        | zero =>
          show y d = acts9 j
          rw [y2 d (by omega), upd_s]
        | succ i =>
          rw [show d + (i + 1) = d + 1 + i by omega]
          exact e2 i (by omega)
theorem leads_ok (hn : 10 ^ 80 ≤ n) (hm : ∀ x i, i < 9 → mX6_made n fra fst sst fwh rim x (acts9 i) = some (F x i)) {to : Int64} {len : Nat} (hl : len ≤ 4) : ∀ (k d fu : Nat) (qwy : Nat → Int32) (x : Int64), d + k = len → k < fu → ∃ r y, mX5_leads n (nI len) fra fst sst fwh rim fu qwy x to (nI d) = some (r, y) ∧ (∀ i, i < d → y i = qwy i) ∧ ((r = 0 ∧ srch F to k x = none) ∨ (r = 1 ∧ ∃ l, srch F to k x = some l ∧ ∀ i, i < k → y (d + i) = acts9 (l.getD i 0))) := by
  intro k
  induction k with
  | zero =>
    intro d fu qwy x h0 h1
    obtain ⟨fu, rfl⟩ : ∃ z, fu = z + 1 := ⟨fu - 1, by omega⟩
    have e : d = len := by omega
    subst e
    rw [mX5_leads]
    unfold mX5_leads_b
    rw [if_pos (Int32.le_refl _)]
    by_cases c : x = to
    · rw [if_pos c]
      exact ⟨1, qwy, rfl, fun _ _ => rfl, Or.inr ⟨rfl, [], by rw [srch, if_pos c], fun i hi => absurd hi (Nat.not_lt_zero _)⟩⟩
    · rw [if_neg c]
      exact ⟨0, qwy, rfl, fun _ _ => rfl, Or.inl ⟨rfl, by rw [srch, if_neg c]⟩⟩
  | succ k ih =>
    intro d fu qwy x h0 h1
    obtain ⟨fu, rfl⟩ : ∃ z, fu = z + 1 := ⟨fu - 1, by omega⟩
    rw [mX5_leads]
    unfold mX5_leads_b
    rw [if_neg (nI_ge (show d < len by omega) (by omega)), if_pos (show nI d < (4 : Int32) from nI_lt (show d < 4 by omega) (by decide))]
    obtain ⟨y, y1, y2⟩ := le_L hn hm (to := to) (x := x) (d := d) (k := k) (by omega) (rc := mX5_leads n (nI len) fra fst sst fwh rim fu) (fun qwy x => ih (d + 1) fu qwy x (by omega) (by omega)) n 9 0 qwy rfl (by omega)
    rcases y2 with ⟨e1, e2⟩ | ⟨e1, e2⟩
    · have e1 : mX5_leads_L40 n (9 : Int32) (nI d) fra fst sst fwh rim x _ to n 0 qwy = _ := e1
      rw [e1, jb_s]
      exact ⟨0, y, rfl, y1, Or.inl ⟨rfl, e2⟩⟩
    · have e1 : mX5_leads_L40 n (9 : Int32) (nI d) fra fst sst fwh rim x _ to n 0 qwy = _ := e1
      rw [e1, jb_s]
      exact ⟨1, y, rfl, y1, Or.inr ⟨rfl, e2⟩⟩
/-- the reference's search finds the same row -/
theorem fr_L (ha : ∀ x i, i < 9 → mX8_acted n mst mw mt rim x (acts9 i) = some (F x i)) {to : Int64} {len : Nat} (hl : len ≤ 4) : ∀ (r d : Nat), d + r + 1 = len → ∀ (s j : Nat), j + s = 9 → ∀ (q : Nat) (mro : Nat → Int32) (mbe : Nat → Int64), mro d + 1 = nI j → 1 + s * (1 + Uf 9 r) ≤ q → (∀ l, tryF (fun i => srch F to r (F (mbe d) i)) s j = some l → ∃ tr le, mX8_findRow_L34 n mst mw mt rim (nI len) to q (nI d) mro mbe = some (.inl (tr, le)) ∧ (∀ i, i < d → tr i = mro i) ∧ ∀ i, i < r + 1 → tr (d + i) = nI (l.getD i 0)) ∧ (tryF (fun i => srch F to r (F (mbe d) i)) s j = none → ∃ q' tr le, q ≤ q' + (1 + s * (1 + Uf 9 r)) ∧ mX8_findRow_L34 n mst mw mt rim (nI len) to q (nI d) mro mbe = mX8_findRow_L34 n mst mw mt rim (nI len) to q' (nI d + (-1)) tr le ∧ (∀ i, i < d → tr i = mro i) ∧ (∀ i, i ≤ d → le i = mbe i)) := by
  intro r
  induction r with
  | zero =>
    intro d hd s
    induction s with
    | zero =>
      intro j hj q mro mbe ht hq
      obtain ⟨q, rfl⟩ : ∃ q', q = q' + 1 := ⟨q - 1, by omega⟩
      have b4 : ib (nI d) 4 := ib_nI (by omega) (by decide)
      have e : j = 9 := by omega
      subst e
      rw [mX8_findRow_L34, if_neg (nI_pos (by omega)), gd_t b4, gd_t b4, gd_t b4]
      simp only [nI_clamp (show d < 2 ^ 31 by omega), ht, upd_s]
      rw [if_pos (show nI 9 = 9 from rfl)]
      exact ⟨fun l h => (by cases h), fun _ => ⟨q, upd mro d (nI 9), mbe, by omega, rfl, fun i hi => upd_n _ _ (by omega), fun _ _ => rfl⟩⟩
    | succ s ihs =>
      intro j hj q mro mbe ht hq
      have hms : (s + 1) * (1 + Uf 9 0) = s * (1 + Uf 9 0) + (1 + Uf 9 0) := Nat.succ_mul _ _
      obtain ⟨q, rfl⟩ : ∃ q', q = q' + 1 := ⟨q - 1, by omega⟩
      have b4 : ib (nI d) 4 := ib_nI (by omega) (by decide)
      have b5 : ib (nI d) 5 := ib_nI (by omega) (by decide)
      have b5' : ib (nI (d + 1)) 5 := ib_nI (by omega) (by decide)
      have b5l : ib (nI len) 5 := ib_nI (by omega) (by decide)
      have n9 : ¬ nI j = 9 := fun e => by have := (nI_eq (a := j) (b := 9) (by omega) (by omega)).mp e; omega
      have el : nI len - 1 = nI d := by rw [show nI len - 1 = nI (len - 1) from pk_sub (b := 1) (by omega)]; congr 1; omega
      have ed : len = d + 1 := by omega
      rw [mX8_findRow_L34, if_neg (nI_pos (by omega)), gd_t b4, gd_t b4, gd_t b4, gd_t b5, gd_t b4]
      simp only [nI_clamp (show d < 2 ^ 31 by omega), ht, upd_s, actOf_t j (by omega), ha _ j (show j < 9 by omega), jb_s, nI_1 d, nI_clamp (show d + 1 < 2 ^ 31 by omega), nI_clamp (show len < 2 ^ 31 by omega), el]
      rw [if_neg n9, gd_t b5', gd_t b5l, if_pos (Int32.le_refl _), ed]
      simp only [updL_s]
      by_cases c : F (mbe d) j = to
      · rw [if_pos c]
        have hs : (fun i => srch F to 0 (F (mbe d) i)) j = some [] := by show srch F to 0 (F (mbe d) j) = _; rw [srch, if_pos c]
        rw [tryF_s hs]
        refine ⟨fun l h => ?_, fun h => by cases h⟩
        cases h
        refine ⟨_, _, rfl, fun i hi => upd_n _ _ (by omega), fun i hi => ?_⟩
        have e : i = 0 := by omega
        subst e
        exact upd_s _ _ _
      · rw [if_neg c]
        have hs : (fun i => srch F to 0 (F (mbe d) i)) j = none := by show srch F to 0 (F (mbe d) j) = _; rw [srch, if_neg c]
        rw [tryF_n hs]
        have IS := ihs (j + 1) (by omega) q (upd mro d (nI j)) (vp_updL mbe (d + 1) (F (mbe d) j)) (by rw [upd_s, nI_1]) (by omega)
        rw [updL_n _ _ (show ¬ d = d + 1 by omega), ed] at IS
        refine ⟨fun l h => ?_, fun h => ?_⟩
        · obtain ⟨tr, le, g1, g2, g3⟩ := IS.1 l h
          exact ⟨tr, le, g1, fun i hi => by rw [g2 i hi, upd_n _ _ (by omega)], g3⟩
        · obtain ⟨q', tr, le, g1, g2, g3, g4⟩ := IS.2 h
          exact ⟨q', tr, le, by omega, g2, fun i hi => by rw [g3 i hi, upd_n _ _ (by omega)], fun i hi => by rw [g4 i hi, updL_n _ _ (by omega)]⟩
  | succ r ih =>
    intro d hd s
    induction s with
    | zero =>
      intro j hj q mro mbe ht hq
      obtain ⟨q, rfl⟩ : ∃ q', q = q' + 1 := ⟨q - 1, by omega⟩
      have b4 : ib (nI d) 4 := ib_nI (by omega) (by decide)
      have e : j = 9 := by omega
      subst e
      rw [mX8_findRow_L34, if_neg (nI_pos (by omega)), gd_t b4, gd_t b4, gd_t b4]
      simp only [nI_clamp (show d < 2 ^ 31 by omega), ht, upd_s]
      rw [if_pos (show nI 9 = 9 from rfl)]
      exact ⟨fun l h => (by cases h), fun _ => ⟨q, upd mro d (nI 9), mbe, by omega, rfl, fun i hi => upd_n _ _ (by omega), fun _ _ => rfl⟩⟩
    | succ s ihs =>
      intro j hj q mro mbe ht hq
      have hms : (s + 1) * (1 + Uf 9 (r + 1)) = s * (1 + Uf 9 (r + 1)) + (1 + Uf 9 (r + 1)) := Nat.succ_mul _ _
      have hUr : Uf 9 (r + 1) = 1 + 9 * (1 + Uf 9 r) := rfl
      obtain ⟨q, rfl⟩ : ∃ q', q = q' + 1 := ⟨q - 1, by omega⟩
      have b4 : ib (nI d) 4 := ib_nI (by omega) (by decide)
      have b4' : ib (nI (d + 1)) 4 := ib_nI (by omega) (by decide)
      have b5 : ib (nI d) 5 := ib_nI (by omega) (by decide)
      have b5' : ib (nI (d + 1)) 5 := ib_nI (by omega) (by decide)
      have n9 : ¬ nI j = 9 := fun e => by have := (nI_eq (a := j) (b := 9) (by omega) (by omega)).mp e; omega
      have el : nI len - 1 = nI (len - 1) := pk_sub (b := 1) (by omega)
      have ne1 : ¬ nI d = nI (len - 1) := by rw [nI_eq (by omega) (by omega)]; omega
      have ne2 : ¬ nI (len - 1) ≤ nI d := nI_ge (by omega) (by omega)
      rw [mX8_findRow_L34, if_neg (nI_pos (by omega)), gd_t b4, gd_t b4, gd_t b4, gd_t b5, gd_t b4]
      simp only [nI_clamp (show d < 2 ^ 31 by omega), ht, upd_s, actOf_t j (by omega), ha _ j (show j < 9 by omega), jb_s, nI_1 d, nI_clamp (show d + 1 < 2 ^ 31 by omega), el]
      rw [if_neg n9, gd_t b5', if_neg ne1, if_neg ne2, gd_t b4']
      have hle : ∀ i, i ≤ d → vp_updL mbe (d + 1) (F (mbe d) j) i = mbe i := fun i hi => updL_n _ _ (by omega)
      have hle' : vp_updL mbe (d + 1) (F (mbe d) j) (d + 1) = F (mbe d) j := updL_s _ _ _
      have htr : ∀ i, i < d → upd (upd mro d (nI j)) (d + 1) (-1) i = mro i := fun i hi => by rw [upd_n _ _ (by omega), upd_n _ _ (by omega)]
      have htd : upd (upd mro d (nI j)) (d + 1) (-1) d = nI j := by rw [upd_n _ _ (by omega), upd_s]
      have htd' : upd (upd mro d (nI j)) (d + 1) (-1) (d + 1) + 1 = nI 0 := by rw [upd_s]; rfl
      generalize upd (upd mro d (nI j)) (d + 1) (-1) = tr1 at *
      generalize vp_updL mbe (d + 1) (F (mbe d) j) = le1 at *
      have IH := ih (d + 1) (by omega) 9 0 rfl q tr1 le1 htd' (by omega)
      rw [hle', show tryF (fun i => srch F to r (F (F (mbe d) j) i)) 9 0 = srch F to (r + 1) (F (mbe d) j) from rfl] at IH
      cases hs : srch F to (r + 1) (F (mbe d) j) with
      | some l1 =>
        obtain ⟨tr2, le2, f1, f2, f3⟩ := IH.1 l1 hs
        rw [tryF_s (g := fun i => srch F to (r + 1) (F (mbe d) i)) hs]
        refine ⟨fun l h => ?_, fun h => by cases h⟩
        cases h
        refine ⟨tr2, le2, f1, fun i hi => by rw [f2 i (by omega), htr i hi], fun i hi => ?_⟩
        cases i with
        | zero =>
          show tr2 d = nI j
          rw [f2 d (by omega), htd]
        | succ i =>
          rw [show d + (i + 1) = d + 1 + i by omega]
          exact f3 i (by omega)
      | none =>
        obtain ⟨q2, tr2, le2, f1, f2, f3, f4⟩ := IH.2 hs
        rw [tryF_n (g := fun i => srch F to (r + 1) (F (mbe d) i)) hs, f2, pk_m1]
        have f5 : le2 d = mbe d := by rw [f4 d (by omega), hle d (Nat.le_refl _)]
        have IS := ihs (j + 1) (by omega) q2 tr2 le2 (by rw [f3 d (by omega), htd, nI_1]) (by omega)
        rw [f5] at IS
        refine ⟨fun l h => ?_, fun h => ?_⟩
        · obtain ⟨tr, le, g1, g2, g3⟩ := IS.1 l h
          exact ⟨tr, le, g1, fun i hi => by rw [g2 i hi, f3 i (by omega), htr i hi], g3⟩
        · obtain ⟨q', tr, le, g1, g2, g3, g4⟩ := IS.2 h
          exact ⟨q', tr, le, by omega, g2, fun i hi => by rw [g3 i hi, f3 i (by omega), htr i hi], fun i hi => by rw [g4 i hi, f4 i (by omega), hle i hi]⟩
end
