theorem pcn_sub {x y : Int64} (h : ∀ i, bt64 y i = true → bt64 x i = true) (hne : ¬ y = x) : pcn y < pcn x := by
  have : ∃ i, i < 64 ∧ bt64 y i = false ∧ bt64 x i = true := by
    refine Classical.byContradiction (fun hc => hne (bt_ext (fun i hi => ?_)))
    cases hy : bt64 y i <;> cases hx : bt64 x i
    · rfl
    · exact absurd ⟨i, hi, hy, hx⟩ hc
    · rw [h i hy] at hx; cases hx
    · rfl
  obtain ⟨i, hi, h1, h2⟩ := this
  exact cnt_lt (fun i _ => h i) hi h1 h2
theorem pcn_le_wh {c : Nat} {x : Int64} (hx : ∀ i, bt64 x i = true → i < c) : pcn x ≤ c := by
  rcases Nat.lt_or_ge c 64 with q | q
  · unfold pcn
    obtain ⟨d, hd⟩ : ∃ d, 64 = c + d := ⟨64 - c, by omega⟩
    rw [hd, cnt_split, cnt_false (f := fun i => bt64 x (c + i)) (fun i _ => by
      cases hc : bt64 x (c + i)
      · rfl
      · exact absurd (hx _ hc) (by omega))]
    exact cnt_le _ c
  · exact Nat.le_trans (pcn_le x) q
theorem pcn_0 {x : Int64} (h : pcn x = 0) : x = 0 := by
  apply (eq0_iff x).mpr
  intro i hi
  cases hc : bt64 x i
  · rfl
  · have : pcn 0 < pcn x := cnt_lt (j := i) (fun k _ hk => by rw [bt_0] at hk; cases hk) hi (bt_0 i) hc
    omega
