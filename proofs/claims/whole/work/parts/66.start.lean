theorem qw_712 : Cond.methodLink RL 9 yX7_init ∈ tw := tw_of (by decide +kernel) rfl
theorem qw_713 : Cond.methodLink RL 12 yX8_init ∈ tw := tw_of (by decide +kernel) rfl
theorem inv0 {y_fw y_fc : Int32} {y_fwh y_fbo : Int64} {y_fra y_fco y_fro : Nat → Int32} {y_fst : Nat → Int64} (hF : FOK 6 6 y_fw y_fc y_fwh y_fbo y_fra y_fst y_fco y_fro) : Inv y_fw y_fc y_fwh y_fbo y_fra y_fst y_fco y_fro ((1 : Int32) : Int32) ((upd (upd (upd (upd (fun _ => 0) (0 : Int32).toNatClampNeg (16 : Int32)) (1 : Int32).toNatClampNeg (16 : Int32)) (2 : Int32).toNatClampNeg (16 : Int32)) (3 : Int32).toNatClampNeg (16 : Int32)) : Nat → Int32) ((0 : Int32) : Int32) ((0 : Int32) : Int32) ((0 : Int32) : Int32) ((fun _ => 0) : Nat → Int32) ((fun _ => 0) : Nat → Int32) ((fun _ => 0) : Nat → Int32) ((4 : Int32) : Int32) ((0 : Int32) : Int32) ((fun _ => 0) : Nat → Int32) ((fun _ => 0) : Nat → Int32) ((fun _ => 0) : Nat → Int64) ((6 : Int32) : Int32) ((6 : Int32) : Int32) ((1 : Int32) : Int32) ((4 : Int32) : Int32) (0 : Int32) ((fun _ => 0) : Nat → Int64) ((upd (upd (upd (upd (fun _ => 0) (0 : Int32).toNatClampNeg (16 : Int32)) (1 : Int32).toNatClampNeg (16 : Int32)) (2 : Int32).toNatClampNeg (16 : Int32)) (3 : Int32).toNatClampNeg (16 : Int32)) : Nat → Int32) ((fun _ => 0) : Nat → Int32) ((fun _ => 0) : Nat → Int32) ((fun _ => 0) : Nat → Int32) ((fun _ => 0) : Nat → Int32) := by
  refine ⟨6, 6, by decide, rfl, rfl, hF, fun i _ => ⟨rfl, fun j h => ?_⟩, fun i hi => ⟨rfl, 16, by decide, ?_⟩, ⟨rfl, Or.inr rfl⟩, ⟨rfl, Or.inl rfl⟩, ⟨fun _ => 0, fun j _ => ⟨Nat.zero_le 8, rfl⟩, ⟨rfl, rfl, rfl⟩, fun k h => absurd h (Nat.not_lt_zero k), fun k h => absurd h (Nat.not_lt_zero k), fun k h => absurd h (Nat.not_lt_zero k)⟩, ⟨0, by decide, rfl, rfl, fun k h => absurd h (Nat.not_lt_zero k)⟩⟩
  · exact absurd h (by simp [bt64])
  · match i, hi with
    | 0, _ => rfl
    | 1, _ => rfl
    | 2, _ => rfl
    | 3, _ => rfl
    | i + 4, h => exact absurd h (by omega)
theorem ak_prim {args : Array Value} {s : State} {ty : FieldType} (hp : ∀ C, ty ≠ .object C) (h : (Cond.arrayClass ty).before args s = true) : ∃ cA : ClassId, ArrOfT s cA ty ∧ va_RA s cA ty := by
  obtain ⟨cA, kA, comp, hfind, hk, hkind⟩ := Cond.arrayClass_spec h
  refine ⟨cA, fun N z => ⟨fun k h => (by cases h), kA, hk, comp, hkind⟩, ?_⟩
  unfold va_RA
  split
  · exact absurd rfl (hp _)
  · exact hfind
theorem ak_obj {s : State} {C : String} (h : va_AO C s) : ∃ cA : ClassId, ArrOfT s cA (.object C) ∧ va_RA s cA (.object C) := by
  obtain ⟨comp, cA, kA, h1, h2, h3, h4, h5⟩ := Cond.arrayOver_spec h
  exact ⟨cA, fun N z => ⟨fun k h => (by cases h), kA, h3, comp, h4⟩, kA, comp, h3, h4, h1, h5⟩
theorem st_arr {args : Array Value} {s : State} {C n d : String} {N : Nat} {f : Nat → Int32} (hN : N < 2 ^ 31) (hl : (Cond.laysStatic C n d).before args s = true) (hini : (Cond.initialized C).before args s = true) (harr : (Cond.arrayOf (.static C n d) .int).before args s = true) (hlen : (Cond.eq (.length (.static C n d)) (.int (Int32.ofNat N))).before args s = true) (hel : ∀ j, j < N → (Cond.eq (.elem (.static C n d) (.int (Int32.ofNat j))) (.int (f j))).before args s = true) : ∃ t : Nat, va_Z C n d (.ref t) (fun q : Nat => s.heap.size ≤ q) s s.heap ∧ va_T .int t N (fun j => .int (f j)) (fun q : Nat => s.heap.size ≤ q) s s.heap := by
  obtain ⟨t, ht, hT⟩ := va_Tof (A := fun q : Nat => s.heap.size ≤ q) (f := fun j => .int (f j)) hN harr (va_eqt hlen) (fun j hj => va_eqt (hel j hj)) (fun a h => Nat.not_le.mpr h)
  exact ⟨t, va_Zref hl hini ht (fun a h => Nat.not_le.mpr h), hT⟩
set_option maxHeartbeats 8000000 in
set_option maxRecDepth 100000 in
theorem whole_start {p : Program} {e : Env} {s : State} {m : MethodId} {below : List Frame} {meth : Method} {c : Code} (l : Launch) {b L : Nat} {xs : Nat → Int32} (hL : L ≤ 2560) (C0 : lw_At p s m meth c b L xs) : W p l e room_1 s m #[Value.ref b] below meth c s.heap [] 0 0 (lw_Z below #[Value.ref b] s) (entryFrame m ([Value.ref b] : List Value).toArray 4) := by
  obtain ⟨hx, hb, hr, hml, hown, hts0, hX, hbl, hlocks, hgv⟩ := id C0
  have hb : c.code = cL_law := hb
  have hown : s.vm.findClass RL = some m.cls := hown
  have hts : ∀ w ∈ tw, w.before #[Value.ref b] s = true := fun w h => hts0 w (tw_sub h)
  have hg := flat_of_before _ hgv
  have hA : ∀ q : Nat, s.heap.size ≤ q → (fun q : Nat => s.heap.size ≤ q) q := fun _ h => h
  obtain ⟨c0, iS0, hKn0⟩ := u_known (C := RX0) (T := TX0) (N := 6) (n := 6) hts0 inX0 (hts0 (.instantiable RX0 6) (by decide +kernel))
  obtain ⟨c1, iS1, hKn1⟩ := u_known (C := RX1) (T := TX1) (N := 8) (n := 8) hts0 inX1 (hts0 (.instantiable RX1 8) (by decide +kernel))
  obtain ⟨c2, iS2, hKn2⟩ := u_known (C := RX2) (T := TX2) (N := 5) (n := 5) hts0 inX2 (hts0 (.instantiable RX2 5) (by decide +kernel))
  obtain ⟨c3, iS3, hKn3⟩ := u_known (C := RX3) (T := TX3) (N := 2) (n := 2) hts0 inX3 (hts0 (.instantiable RX3 2) (by decide +kernel))
  obtain ⟨c4, iS4, hKn4⟩ := u_known (C := RX4) (T := TX4) (N := 3) (n := 3) hts0 inX4 (hts0 (.instantiable RX4 3) (by decide +kernel))
  obtain ⟨c5, iS5, hKn5⟩ := u_known (C := RX5) (T := TX5) (N := 3) (n := 3) hts0 inX5 (hts0 (.instantiable RX5 3) (by decide +kernel))
  obtain ⟨c6, iS6, hKn6⟩ := u_known (C := RX6) (T := TX6) (N := 3) (n := 3) hts0 inX6 (hts0 (.instantiable RX6 3) (by decide +kernel))
  obtain ⟨c7, iS7, hKn7⟩ := u_known (C := RX7) (T := TX7) (N := 8) (n := 8) hts0 inX7 (hts0 (.instantiable RX7 8) (by decide +kernel))
  obtain ⟨c8, iS8, hKn8⟩ := u_known (C := RX8) (T := TX8) (N := 19) (n := 19) hts0 inX8 (hts0 (.instantiable RX8 19) (by decide +kernel))
  obtain ⟨dC, dI, hKc⟩ : ∃ (dC : Nat → ClassId) (dI : Nat → Nat → Nat), ∀ (k : Nat) (q : vw_C), vwCl[k]? = some q → u_Kn s q.1 q.2.1 q.2.2 (dC k) (dI k) := by
    refine ⟨fun k => if k = 0 then c0 else if k = 1 then c1 else if k = 2 then c2 else if k = 3 then c3 else if k = 4 then c4 else if k = 5 then c5 else if k = 6 then c6 else if k = 7 then c7 else c8, fun k => if k = 0 then iS0 else if k = 1 then iS1 else if k = 2 then iS2 else if k = 3 then iS3 else if k = 4 then iS4 else if k = 5 then iS5 else if k = 6 then iS6 else if k = 7 then iS7 else iS8, ?_⟩
    intro k q hq
    match k, hq with
    | 0, hq => cases hq; exact hKn0
    | 1, hq => cases hq; exact hKn1
    | 2, hq => cases hq; exact hKn2
    | 3, hq => cases hq; exact hKn3
    | 4, hq => cases hq; exact hKn4
    | 5, hq => cases hq; exact hKn5
    | 6, hq => cases hq; exact hKn6
    | 7, hq => cases hq; exact hKn7
    | 8, hq => cases hq; exact hKn8
    | k + 9, hq => simp [vwCl] at hq
  have hAO : va_AO "WornShapes$Program" s := va_AO.of (hts0 (.arrayOver (.object "WornShapes$Program")) (by decide +kernel))
  obtain ⟨cI, hI1, hI2⟩ := ak_prim (ty := .int) (fun C h => by cases h) (hts0 (.arrayClass .int) (by decide +kernel))
  obtain ⟨cJ, hJ1, hJ2⟩ := ak_prim (ty := .long) (fun C h => by cases h) (hts0 (.arrayClass .long) (by decide +kernel))
  obtain ⟨cG, hG1, hG2⟩ := ak_obj hAO
  have hK : va_K (dC, dI) vwCl [(cI, .int), (cJ, .long), (cG, .object "WornShapes$Program")] s := by
    refine ⟨hKc, fun k q h => ?_⟩
    match k, h with
    | 0, h => cases h; exact ⟨hI1, hI2⟩
    | 1, h => cases h; exact ⟨hJ1, hJ2⟩
    | 2, h => cases h; exact ⟨hG1, hG2⟩
    | k + 3, h => simp at h
  obtain ⟨tS, hZ1, hZ2⟩ := st_arr (C := "WornShapes$Field") (n := "SIDE_STEPS") (d := "[I") (N := 4) (f := side4) (by decide) (hts0 _ (by decide +kernel)) (hts0 _ (by decide +kernel)) (hg _ (by decide +kernel)) (hg _ (by decide +kernel)) (fun j hj => by
    match j, hj with
    | 0, _ => exact hg _ (by decide +kernel)
    | 1, _ => exact hg _ (by decide +kernel)
    | 2, _ => exact hg _ (by decide +kernel)
    | 3, _ => exact hg _ (by decide +kernel)
    | j + 4, h => exact absurd h (by omega))
  obtain ⟨tA, hZ3, hZ4⟩ := st_arr (C := "WornShapes$Search") (n := "ACTS") (d := "[I") (N := 9) (f := acts9) (by decide) (hts0 _ (by decide +kernel)) (hts0 _ (by decide +kernel)) (hg _ (by decide +kernel)) (hg _ (by decide +kernel)) (fun j hj => by
    match j, hj with
    | 0, _ => exact hg _ (by decide +kernel)
    | 1, _ => exact hg _ (by decide +kernel)
    | 2, _ => exact hg _ (by decide +kernel)
    | 3, _ => exact hg _ (by decide +kernel)
    | 4, _ => exact hg _ (by decide +kernel)
    | 5, _ => exact hg _ (by decide +kernel)
    | 6, _ => exact hg _ (by decide +kernel)
    | 7, _ => exact hg _ (by decide +kernel)
    | 8, _ => exact hg _ (by decide +kernel)
    | j + 9, h => exact absurd h (by omega))
  have hZ : stZ (fun q : Nat => s.heap.size ≤ q) tS tA s s.heap := ⟨hZ1, hZ2, hZ3, hZ4⟩
  have hS : va_S (fun q : Nat => s.heap.size ≤ q) s.heap s.heap [] := va_S.rf
  have hP : va_P (dC, dI) vwCl [] s.heap := fun k q h => by simp at h
  have hD : va_D (fun q : Nat => s.heap.size ≤ q) [] := ⟨fun i j p q h => by simp at h, fun k q h => by simp at h⟩
  have hl := lv_entry ([.ref b]) (n := 4) (Nat.le_of_ble_eq_true rfl)
  rw [lg_entry_eq]
  generalize (lg_sl ([.ref b]) ++ List.replicate (4 - (lg_sl ([.ref b])).length) Slot.unset).toArray = ls at hl ⊢
  have hl : lv_has ls 4 [(0, .ref b)] := hl
  generalize hnn : (10 ^ 80 : Nat) = n
  have hn : 10 ^ 80 ≤ n := Nat.le_of_eq hnn
  clear hnn
  refine va_new (ci := 7) (fs := [.null, .null, .null, .null, .null, .null, .null, .null]) (C := RX7) (T := TX7) (N := 8) hx hb hts0 inX7 tyX7 tyX7_ok hown (hts0 (.classLink RL 7 RX7) (by decide +kernel)) (hts0 (.instantiable RX7 8) (by decide +kernel)) (hts0 (.initialized RX7) (by decide +kernel)) hK hP hD hS hA rfl (by decide) (Nat.le_of_ble_eq_true rfl) (Nat.le_of_ble_eq_true rfl) dL_law_0 (fun oX H hP hD hS => ?_)
  have hP : va_P (dC, dI) vwCl ([(oX, .inr (7, [.null, .null, .null, .null, .null, .null, .null, .null]))]) H := hP
  have hD : va_D (fun q : Nat => s.heap.size ≤ q) ([(oX, .inr (7, [.null, .null, .null, .null, .null, .null, .null, .null]))]) := hD
  refine W.widen (k := 1) (n := 8) (by decide) (by decide) ?_
  refine lv_dup hx hb dL_law_3 rfl ?_
  obtain ⟨y_fw, y_fc, y_fwh, y_fbo, y_fra, y_fst, y_fco, y_fro, e0, hF⟩ := lay_ok (n := n) (w := 6) (h := 6) (fco := fun _ => 0) (fro := fun _ => 0) (fra := fun _ => 0) (fst := fun _ => 0) hn (by decide)
  refine kX7_init (wr := []) (c2 := 24) (s2 := 426) ⟨hx, hb, hml, hown, hts⟩ qw_712 [0] [] rfl rfl (by decide) (by decide) (by decide) hK hAO e0 hl.1 (by decide) (by decide) ⟨by decide, by decide, by decide, by decide⟩ (Nat.le_of_ble_eq_true rfl) dL_law_4 hP hD hS hA (fun u0 u1 u2 u3 u4 u5 u6 u7 u8 u9 u10 u11 u12 u13 u14 u15 u16 u17 u18 u19 u20 u21 u22 H locs hP hD hS => ?_)
  have hP : va_P (dC, dI) vwCl (wdX cJ cG cI oX u5 u8 u9 u10 u11 u12 u13 u14 u15 u16 u17 u18 u19 u20 u21 u22 u6 u7 u0 u1 u2 u3 u4 (fun _ => 0) (0 : Int32) (fun _ => 0) (0 : Int32) (fun _ => 0) (0 : Int32) (fun _ => 0) (0 : Int32) (fun _ => 0) (4 : Int32) (0 : Int32) (fun _ => 0) (fun _ => 0) (0 : Int32) (0 : Int32) (0 : Int32) (0 : Int32) (fun _ => 0) (1 : Int32) (upd (upd (upd (upd (fun _ => 0) (0 : Int32).toNatClampNeg (16 : Int32)) (1 : Int32).toNatClampNeg (16 : Int32)) (2 : Int32).toNatClampNeg (16 : Int32)) (3 : Int32).toNatClampNeg (16 : Int32)) y_fw y_fc y_fwh y_fbo y_fra y_fst y_fco y_fro) H := hP
  have hD : va_D (fun q : Nat => s.heap.size ≤ q) (wdX cJ cG cI oX u5 u8 u9 u10 u11 u12 u13 u14 u15 u16 u17 u18 u19 u20 u21 u22 u6 u7 u0 u1 u2 u3 u4 (fun _ => 0) (0 : Int32) (fun _ => 0) (0 : Int32) (fun _ => 0) (0 : Int32) (fun _ => 0) (0 : Int32) (fun _ => 0) (4 : Int32) (0 : Int32) (fun _ => 0) (fun _ => 0) (0 : Int32) (0 : Int32) (0 : Int32) (0 : Int32) (fun _ => 0) (1 : Int32) (upd (upd (upd (upd (fun _ => 0) (0 : Int32).toNatClampNeg (16 : Int32)) (1 : Int32).toNatClampNeg (16 : Int32)) (2 : Int32).toNatClampNeg (16 : Int32)) (3 : Int32).toNatClampNeg (16 : Int32)) y_fw y_fc y_fwh y_fbo y_fra y_fst y_fco y_fro) := hD
  refine lv_astore_n (lv' := [(1, .ref oX), (0, .ref b)]) hx hb dL_law_7 rfl hl (by decide) rfl (fun ls hl => ?_)
  refine va_new (ci := 8) (fs := [.int 0, .int 0, .null, .null, .int 0, .int 0, .null, .null, .null, .null, .int 0, .int 0, .null, .null, .int 0, .int 0, .null, .null, .null]) (C := RX8) (T := TX8) (N := 19) hx hb hts0 inX8 tyX8 tyX8_ok hown (hts0 (.classLink RL 10 RX8) (by decide +kernel)) (hts0 (.instantiable RX8 19) (by decide +kernel)) (hts0 (.initialized RX8) (by decide +kernel)) hK hP hD hS hA rfl (by decide) (Nat.le_of_ble_eq_true rfl) (Nat.le_of_ble_eq_true rfl) dL_law_8 (fun oM H hP hD hS => ?_)
  have hP : va_P (dC, dI) vwCl ((wdX cJ cG cI oX u5 u8 u9 u10 u11 u12 u13 u14 u15 u16 u17 u18 u19 u20 u21 u22 u6 u7 u0 u1 u2 u3 u4 (fun _ => 0) (0 : Int32) (fun _ => 0) (0 : Int32) (fun _ => 0) (0 : Int32) (fun _ => 0) (0 : Int32) (fun _ => 0) (4 : Int32) (0 : Int32) (fun _ => 0) (fun _ => 0) (0 : Int32) (0 : Int32) (0 : Int32) (0 : Int32) (fun _ => 0) (1 : Int32) (upd (upd (upd (upd (fun _ => 0) (0 : Int32).toNatClampNeg (16 : Int32)) (1 : Int32).toNatClampNeg (16 : Int32)) (2 : Int32).toNatClampNeg (16 : Int32)) (3 : Int32).toNatClampNeg (16 : Int32)) y_fw y_fc y_fwh y_fbo y_fra y_fst y_fco y_fro) ++ [(oM, .inr (8, [.int 0, .int 0, .null, .null, .int 0, .int 0, .null, .null, .null, .null, .int 0, .int 0, .null, .null, .int 0, .int 0, .null, .null, .null]))]) H := hP
  have hD : va_D (fun q : Nat => s.heap.size ≤ q) ((wdX cJ cG cI oX u5 u8 u9 u10 u11 u12 u13 u14 u15 u16 u17 u18 u19 u20 u21 u22 u6 u7 u0 u1 u2 u3 u4 (fun _ => 0) (0 : Int32) (fun _ => 0) (0 : Int32) (fun _ => 0) (0 : Int32) (fun _ => 0) (0 : Int32) (fun _ => 0) (4 : Int32) (0 : Int32) (fun _ => 0) (fun _ => 0) (0 : Int32) (0 : Int32) (0 : Int32) (0 : Int32) (fun _ => 0) (1 : Int32) (upd (upd (upd (upd (fun _ => 0) (0 : Int32).toNatClampNeg (16 : Int32)) (1 : Int32).toNatClampNeg (16 : Int32)) (2 : Int32).toNatClampNeg (16 : Int32)) (3 : Int32).toNatClampNeg (16 : Int32)) y_fw y_fc y_fwh y_fbo y_fra y_fst y_fco y_fro) ++ [(oM, .inr (8, [.int 0, .int 0, .null, .null, .int 0, .int 0, .null, .null, .null, .null, .int 0, .int 0, .null, .null, .int 0, .int 0, .null, .null, .null]))]) := hD
  refine W.widen (k := 25) (n := 445) (by decide) (by decide) ?_
  refine lv_dup hx hb dL_law_11 rfl ?_
  refine kX8_init (wr := (wdX cJ cG cI oX u5 u8 u9 u10 u11 u12 u13 u14 u15 u16 u17 u18 u19 u20 u21 u22 u6 u7 u0 u1 u2 u3 u4 (fun _ => 0) (0 : Int32) (fun _ => 0) (0 : Int32) (fun _ => 0) (0 : Int32) (fun _ => 0) (0 : Int32) (fun _ => 0) (4 : Int32) (0 : Int32) (fun _ => 0) (fun _ => 0) (0 : Int32) (0 : Int32) (0 : Int32) (0 : Int32) (fun _ => 0) (1 : Int32) (upd (upd (upd (upd (fun _ => 0) (0 : Int32).toNatClampNeg (16 : Int32)) (1 : Int32).toNatClampNeg (16 : Int32)) (2 : Int32).toNatClampNeg (16 : Int32)) (3 : Int32).toNatClampNeg (16 : Int32)) y_fw y_fc y_fwh y_fbo y_fra y_fst y_fco y_fro)) (c2 := 36) (s2 := 1349) ⟨hx, hb, hml, hown, hts⟩ qw_713 [24] [0, 1, 2, 3, 4, 5, 6, 7, 8, 9, 10, 11, 12, 13, 14, 15, 16, 17, 18, 19, 20, 21, 22, 23] rfl rfl (by decide) (by decide) (by decide) hK hl.1 (by decide) (by decide) ⟨by decide, by decide, by decide, by decide⟩ (Nat.le_of_ble_eq_true rfl) dL_law_12 hP hD hS hA (fun z0 z1 z2 z3 z4 z5 z6 z7 z8 z9 z10 H locs hP hD hS => ?_)
  refine lv_astore_n (lv' := [(2, .ref oM), (1, .ref oX), (0, .ref b)]) hx hb dL_law_15 rfl hl (by decide) rfl (fun ls hl => ?_)
  refine lv_iconst (v := (0 : Int32)) hx hb dL_law_16 (by decide) ?_
  refine lv_istore_n (lv' := [(3, .int (0 : Int32)), (2, .ref oM), (1, .ref oX), (0, .ref b)]) hx hb dL_law_17 rfl hl (by decide) rfl (fun ls hl => ?_)
  refine W.widen (k := 600000) (n := 7302250) (by decide) (by decide) ?_
  exact law_loop hn hL C0 hK hZ (L + 1) 0 (Nat.zero_le L) (by omega) _ _ _ _ _ _ _ _ _ _ _ _ _ _ _ _ _ _ _ _ _ _ _ _ _ _ _ _ _ _ _ _ _ _ _ _ _ _ _ _ _ _ _ _ _ _ _ (inv0 hF) 0 rfl ls hl H locs hP hD hS
