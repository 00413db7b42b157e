def tw : List Cond := lw_tbl.filter goodWord
theorem tw_of {w : Cond} (h : w ∈ lw_tbl) (g : goodWord w = true) : w ∈ tw := List.mem_filter.mpr ⟨h, g⟩
theorem tw_sub {w : Cond} (h : w ∈ tw) : w ∈ lw_tbl := (List.mem_filter.mp h).1
theorem tw_g {w : Cond} (h : w ∈ tw) : w ∈ tw ∧ ((w.onTables && w.keeps) = true ∨ ∃ ty, w = .arrayClass ty) := ⟨h, good_of_word (List.mem_filter.mp h).2⟩
theorem tw_cons {w : Cond} (h : w ∈ tw) : GoodIn tw (w :: tw) := fun x hx => (List.mem_cons.mp hx).elim (fun e => by rw [e]; exact tw_g h) tw_g
theorem tw_V {own C : String} {idx n : Nat} {y : MethodName} {c : ByteArray} {r : Option FieldType} (h1 : Cond.methodLink own idx y ∈ tw) (h2 : Cond.instanceMethod y ∈ tw) (h3 : Cond.selects C y y ∈ tw) (h4 : Cond.initialized C ∈ tw) (h5 : Cond.code y c n r ∈ tw) : GoodIn tw (wsV own idx C y (.code y c n r :: tw)) := by
  intro w hw
  unfold wsV at hw
  simp only [List.cons_append, List.nil_append, List.mem_cons] at hw
  rcases hw with e | e | e | e | e | e
  · rw [e]; exact tw_g h1
  · rw [e]; exact tw_g h2
  · rw [e]; exact tw_g h3
  · rw [e]; exact tw_g h4
  · rw [e]; exact tw_g h5
  · exact tw_g e
theorem tw_S2 {own : String} {idx n : Nat} {y : MethodName} {c : ByteArray} {r : Option FieldType} (h1 : Cond.methodLink own idx y ∈ tw) (h2 : Cond.static y ∈ tw) (h4 : Cond.initialized y.cls ∈ tw) (h5 : Cond.code y c n r ∈ tw) : GoodIn tw (va_wsS own idx y (.code y c n r :: tw)) := by
  intro w hw
  unfold va_wsS at hw
  simp only [List.cons_append, List.nil_append, List.mem_cons] at hw
  rcases hw with e | e | e | e | e
  · rw [e]; exact tw_g h1
  · rw [e]; exact tw_g h2
  · rw [e]; exact tw_g h4
  · rw [e]; exact tw_g h5
  · exact tw_g e
abbrev jrem (x y : Int32) : Int32 := x - x / y * y
def jiushr (x y : Int32) : Int32 := (x.toUInt32 >>> (y.toUInt32 &&& Int32.toUInt32 31)).toInt32
def jlushr (x : Int64) (y : Int32) : Int64 := (x.toUInt64 >>> (y.toInt64.toUInt64 &&& Int64.toUInt64 63)).toInt64
def jlshl (x : Int64) (y : Int32) : Int64 := x <<< (y.toInt64 &&& 63)
def jlshr (x : Int64) (y : Int32) : Int64 := x >>> (y.toInt64 &&& 63)
abbrev ib (i : Int32) (n : Nat) : Prop := ¬ (i < 0 ∨ n ≤ i.toNatClampNeg)
def gd {α : Type} (b : Prop) [Decidable b] (k : Option α) : Option α := if b then k else none
theorem gd_out {α : Type} {b : Prop} [Decidable b] {k : Option α} {r : α} (h : gd b k = some r) : b ∧ k = some r := by
  unfold gd at h
  by_cases hb : b
  · rw [if_pos hb] at h; exact ⟨hb, h⟩
  · rw [if_neg hb] at h; cases h
def jl {α β : Type} (e : α) (k : α → β) : β := k e
theorem jl_out {α β : Type} {e : α} {k : α → β} {r : β} (h : jl e k = r) : ∃ v, v = e ∧ k v = r := ⟨e, rfl, h⟩
def jb {α β : Type} (o : Option α) (k : α → Option β) : Option β := o.bind k
theorem jb_out {α β : Type} {o : Option α} {k : α → Option β} {r : β} (h : jb o k = some r) : ∃ v, o = some v ∧ k v = some r := Option.bind_eq_some_iff.mp h
def jb0 {β : Type} (o : Option Unit) (k : Option β) : Option β := o.bind (fun _ => k)
theorem jb_out0 {β : Type} {o : Option Unit} {k : Option β} {r : β} (h : jb0 o k = some r) : o = some () ∧ k = some r := by
  obtain ⟨v, h1, h2⟩ := Option.bind_eq_some_iff.mp h
  exact ⟨h1, h2⟩
def pr2 {A1 A2 β : Type} (q : A1 × A2) (k : A1 → A2 → β) : β := k q.1 q.2
def jb2 {A1 A2 β : Type} (o : Option (A1 × A2)) (k : A1 → A2 → Option β) : Option β := o.bind (fun q => k q.1 q.2)
theorem jb_out2 {A1 A2 β : Type} {o : Option (A1 × A2)} {k : A1 → A2 → Option β} {r : β} (h : jb2 o k = some r) : ∃ v1 v2, o = some (v1, v2) ∧ k v1 v2 = some r := by
  obtain ⟨v, h1, h2⟩ := Option.bind_eq_some_iff.mp h
  exact ⟨v.1, v.2, h1, h2⟩
def pr3 {A1 A2 A3 β : Type} (q : A1 × A2 × A3) (k : A1 → A2 → A3 → β) : β := k q.1 q.2.1 q.2.2
def jb3 {A1 A2 A3 β : Type} (o : Option (A1 × A2 × A3)) (k : A1 → A2 → A3 → Option β) : Option β := o.bind (fun q => k q.1 q.2.1 q.2.2)
theorem jb_out3 {A1 A2 A3 β : Type} {o : Option (A1 × A2 × A3)} {k : A1 → A2 → A3 → Option β} {r : β} (h : jb3 o k = some r) : ∃ v1 v2 v3, o = some (v1, v2, v3) ∧ k v1 v2 v3 = some r := by
  obtain ⟨v, h1, h2⟩ := Option.bind_eq_some_iff.mp h
  exact ⟨v.1, v.2.1, v.2.2, h1, h2⟩
def pr4 {A1 A2 A3 A4 β : Type} (q : A1 × A2 × A3 × A4) (k : A1 → A2 → A3 → A4 → β) : β := k q.1 q.2.1 q.2.2.1 q.2.2.2
def jb4 {A1 A2 A3 A4 β : Type} (o : Option (A1 × A2 × A3 × A4)) (k : A1 → A2 → A3 → A4 → Option β) : Option β := o.bind (fun q => k q.1 q.2.1 q.2.2.1 q.2.2.2)
theorem jb_out4 {A1 A2 A3 A4 β : Type} {o : Option (A1 × A2 × A3 × A4)} {k : A1 → A2 → A3 → A4 → Option β} {r : β} (h : jb4 o k = some r) : ∃ v1 v2 v3 v4, o = some (v1, v2, v3, v4) ∧ k v1 v2 v3 v4 = some r := by
  obtain ⟨v, h1, h2⟩ := Option.bind_eq_some_iff.mp h
  exact ⟨v.1, v.2.1, v.2.2.1, v.2.2.2, h1, h2⟩
def pr5 {A1 A2 A3 A4 A5 β : Type} (q : A1 × A2 × A3 × A4 × A5) (k : A1 → A2 → A3 → A4 → A5 → β) : β := k q.1 q.2.1 q.2.2.1 q.2.2.2.1 q.2.2.2.2
def jb5 {A1 A2 A3 A4 A5 β : Type} (o : Option (A1 × A2 × A3 × A4 × A5)) (k : A1 → A2 → A3 → A4 → A5 → Option β) : Option β := o.bind (fun q => k q.1 q.2.1 q.2.2.1 q.2.2.2.1 q.2.2.2.2)
theorem jb_out5 {A1 A2 A3 A4 A5 β : Type} {o : Option (A1 × A2 × A3 × A4 × A5)} {k : A1 → A2 → A3 → A4 → A5 → Option β} {r : β} (h : jb5 o k = some r) : ∃ v1 v2 v3 v4 v5, o = some (v1, v2, v3, v4, v5) ∧ k v1 v2 v3 v4 v5 = some r := by
  obtain ⟨v, h1, h2⟩ := Option.bind_eq_some_iff.mp h
  exact ⟨v.1, v.2.1, v.2.2.1, v.2.2.2.1, v.2.2.2.2, h1, h2⟩
def pr6 {A1 A2 A3 A4 A5 A6 β : Type} (q : A1 × A2 × A3 × A4 × A5 × A6) (k : A1 → A2 → A3 → A4 → A5 → A6 → β) : β := k q.1 q.2.1 q.2.2.1 q.2.2.2.1 q.2.2.2.2.1 q.2.2.2.2.2
def jb6 {A1 A2 A3 A4 A5 A6 β : Type} (o : Option (A1 × A2 × A3 × A4 × A5 × A6)) (k : A1 → A2 → A3 → A4 → A5 → A6 → Option β) : Option β := o.bind (fun q => k q.1 q.2.1 q.2.2.1 q.2.2.2.1 q.2.2.2.2.1 q.2.2.2.2.2)
theorem jb_out6 {A1 A2 A3 A4 A5 A6 β : Type} {o : Option (A1 × A2 × A3 × A4 × A5 × A6)} {k : A1 → A2 → A3 → A4 → A5 → A6 → Option β} {r : β} (h : jb6 o k = some r) : ∃ v1 v2 v3 v4 v5 v6, o = some (v1, v2, v3, v4, v5, v6) ∧ k v1 v2 v3 v4 v5 v6 = some r := by
  obtain ⟨v, h1, h2⟩ := Option.bind_eq_some_iff.mp h
  exact ⟨v.1, v.2.1, v.2.2.1, v.2.2.2.1, v.2.2.2.2.1, v.2.2.2.2.2, h1, h2⟩
def pr7 {A1 A2 A3 A4 A5 A6 A7 β : Type} (q : A1 × A2 × A3 × A4 × A5 × A6 × A7) (k : A1 → A2 → A3 → A4 → A5 → A6 → A7 → β) : β := k q.1 q.2.1 q.2.2.1 q.2.2.2.1 q.2.2.2.2.1 q.2.2.2.2.2.1 q.2.2.2.2.2.2
def jb7 {A1 A2 A3 A4 A5 A6 A7 β : Type} (o : Option (A1 × A2 × A3 × A4 × A5 × A6 × A7)) (k : A1 → A2 → A3 → A4 → A5 → A6 → A7 → Option β) : Option β := o.bind (fun q => k q.1 q.2.1 q.2.2.1 q.2.2.2.1 q.2.2.2.2.1 q.2.2.2.2.2.1 q.2.2.2.2.2.2)
theorem jb_out7 {A1 A2 A3 A4 A5 A6 A7 β : Type} {o : Option (A1 × A2 × A3 × A4 × A5 × A6 × A7)} {k : A1 → A2 → A3 → A4 → A5 → A6 → A7 → Option β} {r : β} (h : jb7 o k = some r) : ∃ v1 v2 v3 v4 v5 v6 v7, o = some (v1, v2, v3, v4, v5, v6, v7) ∧ k v1 v2 v3 v4 v5 v6 v7 = some r := by
  obtain ⟨v, h1, h2⟩ := Option.bind_eq_some_iff.mp h
  exact ⟨v.1, v.2.1, v.2.2.1, v.2.2.2.1, v.2.2.2.2.1, v.2.2.2.2.2.1, v.2.2.2.2.2.2, h1, h2⟩
def pr8 {A1 A2 A3 A4 A5 A6 A7 A8 β : Type} (q : A1 × A2 × A3 × A4 × A5 × A6 × A7 × A8) (k : A1 → A2 → A3 → A4 → A5 → A6 → A7 → A8 → β) : β := k q.1 q.2.1 q.2.2.1 q.2.2.2.1 q.2.2.2.2.1 q.2.2.2.2.2.1 q.2.2.2.2.2.2.1 q.2.2.2.2.2.2.2
def jb8 {A1 A2 A3 A4 A5 A6 A7 A8 β : Type} (o : Option (A1 × A2 × A3 × A4 × A5 × A6 × A7 × A8)) (k : A1 → A2 → A3 → A4 → A5 → A6 → A7 → A8 → Option β) : Option β := o.bind (fun q => k q.1 q.2.1 q.2.2.1 q.2.2.2.1 q.2.2.2.2.1 q.2.2.2.2.2.1 q.2.2.2.2.2.2.1 q.2.2.2.2.2.2.2)
theorem jb_out8 {A1 A2 A3 A4 A5 A6 A7 A8 β : Type} {o : Option (A1 × A2 × A3 × A4 × A5 × A6 × A7 × A8)} {k : A1 → A2 → A3 → A4 → A5 → A6 → A7 → A8 → Option β} {r : β} (h : jb8 o k = some r) : ∃ v1 v2 v3 v4 v5 v6 v7 v8, o = some (v1, v2, v3, v4, v5, v6, v7, v8) ∧ k v1 v2 v3 v4 v5 v6 v7 v8 = some r := by
  obtain ⟨v, h1, h2⟩ := Option.bind_eq_some_iff.mp h
  exact ⟨v.1, v.2.1, v.2.2.1, v.2.2.2.1, v.2.2.2.2.1, v.2.2.2.2.2.1, v.2.2.2.2.2.2.1, v.2.2.2.2.2.2.2, h1, h2⟩
def el2 {A B G : Type} (q : A ⊕ B) (k1 : A → G) (k2 : B → G) : G := match q with
  | .inl a => k1 a
  | .inr b => k2 b
def el3 {A B C G : Type} (q : A ⊕ B ⊕ C) (k1 : A → G) (k2 : B → G) (k3 : C → G) : G := match q with
  | .inl a => k1 a
  | .inr (.inl b) => k2 b
  | .inr (.inr b) => k3 b
theorem tsw4 {x : Int32} (h0 : ¬ x = 0) (h1 : ¬ x = 1) (h2 : ¬ x = 2) (h3 : ¬ x = 3) : x.toInt < 0 ∨ 3 < x.toInt := by
  have e0 : x.toInt ≠ 0 := fun h => h0 (Int32.toInt_inj.mp (by rw [h]; rfl))
  have e1 : x.toInt ≠ 1 := fun h => h1 (Int32.toInt_inj.mp (by rw [h]; rfl))
  have e2 : x.toInt ≠ 2 := fun h => h2 (Int32.toInt_inj.mp (by rw [h]; rfl))
  have e3 : x.toInt ≠ 3 := fun h => h3 (Int32.toInt_inj.mp (by rw [h]; rfl))
  omega
def side4 : Nat → Int32 := fun j => if j = 0 then 1 else if j = 1 then 3 else if j = 2 then 5 else 7
def acts9 : Nat → Int32 := fun j => if j = 0 then 0 else if j = 1 then 1 else if j = 2 then 2 else if j = 3 then 3 else if j = 4 then 10 else if j = 5 then 11 else if j = 6 then 12 else if j = 7 then 13 else 40
def rdP (D : va_G) (av : List Value) (ws : va_W) (tys : List (ClassId × FieldType)) : Array Value → State → Prop := va_Pc av (fun U => va_P D vwCl ws U.heap ∧ va_K D vwCl tys U)
theorem rdP_bl {D : va_G} {av : List Value} {ws : va_W} {tys : List (ClassId × FieldType)} : FrameBlind (rdP D av ws tys) := fun a U g mk q => ⟨q.1, q.2.1, va_K.moved (u := U) (U := U.calling g mk a) (Vm.Alike.refl U.vm) q.2.2⟩
theorem rdP_ok {D : va_G} {av : List Value} {ws : va_W} {tys : List (ClassId × FieldType)} {s : State} {H : Heap} (hP : va_P D vwCl ws H) (hK : va_K D vwCl tys s) : ∀ U : State, U.heap = H → s.WarmedH U.vm → rdP D av ws tys av.toArray U := fun U hU hW => ⟨rfl, by rw [hU]; exact hP, va_K.moved hW.alike hK⟩
def stZ (A : Nat → Prop) (tS tA : Nat) (U : State) (H : Heap) : Prop := va_Z "WornShapes$Field" "SIDE_STEPS" "[I" (.ref tS) A U H ∧ va_T .int tS 4 (fun j => .int (side4 j)) A U H ∧ va_Z "WornShapes$Search" "ACTS" "[I" (.ref tA) A U H ∧ va_T .int tA 9 (fun j => .int (acts9 j)) A U H
theorem stZ.moved {A : Nat → Prop} {tS tA : Nat} {u U : State} {H : Heap} (hvm : u.vm.Alike U.vm) (h : stZ A tS tA u H) : stZ A tS tA U H := ⟨va_Z.moved hvm h.1, va_T.moved hvm h.2.1, va_Z.moved hvm h.2.2.1, va_T.moved hvm h.2.2.2⟩
theorem stZ.narrow {A B : Nat → Prop} {tS tA : Nat} {U : State} {H : Heap} (h : stZ A tS tA U H) (hAB : ∀ q, B q → A q) : stZ B tS tA U H := ⟨va_Z.narrow h.1 hAB, va_T.narrow h.2.1 hAB, va_Z.narrow h.2.2.1 hAB, va_T.narrow h.2.2.2 hAB⟩
theorem stZ_at {A : Nat → Prop} {tS tA : Nat} {U : State} {H0 H : Heap} {locs : List Loc} (h : stZ A tS tA U H0) (hS : va_S A H0 H locs) : stZ (fun _ => False) tS tA U H := (show stZ A tS tA U H from ⟨va_Z.kept h.1 (fun a x y => hS.2.1 a x y), va_T.kept h.2.1 (fun a x y => hS.2.1 a x y), va_Z.kept h.2.2.1 (fun a x y => hS.2.1 a x y), va_T.kept h.2.2.2 (fun a x y => hS.2.1 a x y)⟩).narrow (fun _ h => h.elim)
def rdZ (D : va_G) (av : List Value) (ws : va_W) (tys : List (ClassId × FieldType)) (tS tA : Nat) : Array Value → State → Prop := va_Pc av (fun U => va_P D vwCl ws U.heap ∧ va_K D vwCl tys U ∧ stZ (fun _ => False) tS tA U U.heap)
theorem rdZ_bl {D : va_G} {av : List Value} {ws : va_W} {tys : List (ClassId × FieldType)} {tS tA : Nat} : FrameBlind (rdZ D av ws tys tS tA) := fun a U g mk q => ⟨q.1, q.2.1, va_K.moved (u := U) (U := U.calling g mk a) (Vm.Alike.refl U.vm) q.2.2.1, stZ.moved (u := U) (U := U.calling g mk a) (Vm.Alike.refl U.vm) q.2.2.2⟩
theorem rdZ_ok {D : va_G} {av : List Value} {ws : va_W} {tys : List (ClassId × FieldType)} {tS tA : Nat} {s : State} {H : Heap} (hP : va_P D vwCl ws H) (hK : va_K D vwCl tys s) (hz : stZ (fun _ => False) tS tA s H) : ∀ U : State, U.heap = H → s.WarmedH U.vm → rdZ D av ws tys tS tA av.toArray U := fun U hU hW => ⟨rfl, by rw [hU]; exact hP, va_K.moved hW.alike hK, by rw [hU]; exact stZ.moved hW.alike hz⟩
theorem tnX0 : ∀ w ∈ u_ws RX0 TX0 6, w ∈ tw := fun w h => tw_of (inX0 w h) (by revert w; decide +kernel)
theorem tnX1 : ∀ w ∈ u_ws RX1 TX1 8, w ∈ tw := fun w h => tw_of (inX1 w h) (by revert w; decide +kernel)
theorem tnX2 : ∀ w ∈ u_ws RX2 TX2 5, w ∈ tw := fun w h => tw_of (inX2 w h) (by revert w; decide +kernel)
theorem tnX3 : ∀ w ∈ u_ws RX3 TX3 2, w ∈ tw := fun w h => tw_of (inX3 w h) (by revert w; decide +kernel)
theorem tnX4 : ∀ w ∈ u_ws RX4 TX4 3, w ∈ tw := fun w h => tw_of (inX4 w h) (by revert w; decide +kernel)
theorem tnX5 : ∀ w ∈ u_ws RX5 TX5 3, w ∈ tw := fun w h => tw_of (inX5 w h) (by revert w; decide +kernel)
theorem tnX6 : ∀ w ∈ u_ws RX6 TX6 3, w ∈ tw := fun w h => tw_of (inX6 w h) (by revert w; decide +kernel)
theorem tnX7 : ∀ w ∈ u_ws RX7 TX7 8, w ∈ tw := fun w h => tw_of (inX7 w h) (by revert w; decide +kernel)
theorem tnX8 : ∀ w ∈ u_ws RX8 TX8 19, w ∈ tw := fun w h => tw_of (inX8 w h) (by revert w; decide +kernel)
abbrev va_p3 (a b c : Nat) : Nat → Option Nat := fun j => if j = 0 then some a else if j = 1 then some b else if j = 2 then some c else none
abbrev wdF (cI : ClassId) (cJ : ClassId) (hF : Nat) (hFr : Nat) (hFs : Nat) (hFc : Nat) (hFw : Nat) (fw : Int32) (fc : Int32) (fwh : Int64) (fbo : Int64) (fra : Nat → Int32) (fst : Nat → Int64) (fco : Nat → Int32) (fro : Nat → Int32) : va_W := [(hF, .inr (1, [.int fw, .int fc, .long fwh, .long fbo, .ref hFr, .ref hFs, .ref hFc, .ref hFw])), (hFr, .inl (cI, 9, .inl fra)), (hFs, .inl (cJ, 9, .inr (.inl fst))), (hFc, .inl (cI, 49, .inl fco)), (hFw, .inl (cI, 49, .inl fro))]
abbrev wdS (cI : ClassId) (cJ : ClassId) (hS : Nat) (hSs : Nat) (hF : Nat) (hFr : Nat) (hFs : Nat) (hFc : Nat) (hFw : Nat) (srim : Int32) (sst : Nat → Int32) (fw : Int32) (fc : Int32) (fwh : Int64) (fbo : Int64) (fra : Nat → Int32) (fst : Nat → Int64) (fco : Nat → Int32) (fro : Nat → Int32) : va_W := [(hS, .inr (6, [.ref hF, .ref hSs, .int srim])), (hSs, .inl (cI, 4, .inl sst)), (hF, .inr (1, [.int fw, .int fc, .long fwh, .long fbo, .ref hFr, .ref hFs, .ref hFc, .ref hFw])), (hFr, .inl (cI, 9, .inl fra)), (hFs, .inl (cJ, 9, .inr (.inl fst))), (hFc, .inl (cI, 49, .inl fco)), (hFw, .inl (cI, 49, .inl fro))]
abbrev wdG (cI : ClassId) (cJ : ClassId) (hG : Nat) (hGa : Nat) (hS : Nat) (hSs : Nat) (hF : Nat) (hFr : Nat) (hFs : Nat) (hFc : Nat) (hFw : Nat) (gsz : Int32) (gac : Nat → Int32) (srim : Int32) (sst : Nat → Int32) (fw : Int32) (fc : Int32) (fwh : Int64) (fbo : Int64) (fra : Nat → Int32) (fst : Nat → Int64) (fco : Nat → Int32) (fro : Nat → Int32) : va_W := [(hG, .inr (4, [.ref hS, .ref hGa, .int gsz])), (hGa, .inl (cI, 8, .inl gac)), (hS, .inr (6, [.ref hF, .ref hSs, .int srim])), (hSs, .inl (cI, 4, .inl sst)), (hF, .inr (1, [.int fw, .int fc, .long fwh, .long fbo, .ref hFr, .ref hFs, .ref hFc, .ref hFw])), (hFr, .inl (cI, 9, .inl fra)), (hFs, .inl (cJ, 9, .inr (.inl fst))), (hFc, .inl (cI, 49, .inl fco)), (hFw, .inl (cI, 49, .inl fro))]
abbrev wdQ (cI : ClassId) (cJ : ClassId) (hQ : Nat) (hQw : Nat) (hS : Nat) (hSs : Nat) (hF : Nat) (hFr : Nat) (hFs : Nat) (hFc : Nat) (hFw : Nat) (qln : Int32) (qwy : Nat → Int32) (srim : Int32) (sst : Nat → Int32) (fw : Int32) (fc : Int32) (fwh : Int64) (fbo : Int64) (fra : Nat → Int32) (fst : Nat → Int64) (fco : Nat → Int32) (fro : Nat → Int32) : va_W := [(hQ, .inr (5, [.ref hS, .ref hQw, .int qln])), (hQw, .inl (cI, 4, .inl qwy)), (hS, .inr (6, [.ref hF, .ref hSs, .int srim])), (hSs, .inl (cI, 4, .inl sst)), (hF, .inr (1, [.int fw, .int fc, .long fwh, .long fbo, .ref hFr, .ref hFs, .ref hFc, .ref hFw])), (hFr, .inl (cI, 9, .inl fra)), (hFs, .inl (cJ, 9, .inr (.inl fst))), (hFc, .inl (cI, 49, .inl fco)), (hFw, .inl (cI, 49, .inl fro))]
abbrev wdI (cI : ClassId) (cJ : ClassId) (hI : Nat) (hF : Nat) (hFr : Nat) (hFs : Nat) (hFc : Nat) (hFw : Nat) (ijn : Int32) (fw : Int32) (fc : Int32) (fwh : Int64) (fbo : Int64) (fra : Nat → Int32) (fst : Nat → Int64) (fco : Nat → Int32) (fro : Nat → Int32) : va_W := [(hI, .inr (3, [.ref hF, .int ijn])), (hF, .inr (1, [.int fw, .int fc, .long fwh, .long fbo, .ref hFr, .ref hFs, .ref hFc, .ref hFw])), (hFr, .inl (cI, 9, .inl fra)), (hFs, .inl (cJ, 9, .inr (.inl fst))), (hFc, .inl (cI, 49, .inl fco)), (hFw, .inl (cI, 49, .inl fro))]
abbrev wdR (cI : ClassId) (cJ : ClassId) (hR : Nat) (hRh : Nat) (hRm : Nat) (hS : Nat) (hSs : Nat) (hF : Nat) (hFr : Nat) (hFs : Nat) (hFc : Nat) (hFw : Nat) (rsz : Int32) (rhi : Nat → Int32) (rmi : Nat → Int32) (srim : Int32) (sst : Nat → Int32) (fw : Int32) (fc : Int32) (fwh : Int64) (fbo : Int64) (fra : Nat → Int32) (fst : Nat → Int64) (fco : Nat → Int32) (fro : Nat → Int32) : va_W := [(hR, .inr (2, [.ref hF, .ref hS, .ref hRh, .ref hRm, .int rsz])), (hRh, .inl (cI, 8, .inl rhi)), (hRm, .inl (cI, 8, .inl rmi)), (hS, .inr (6, [.ref hF, .ref hSs, .int srim])), (hSs, .inl (cI, 4, .inl sst)), (hF, .inr (1, [.int fw, .int fc, .long fwh, .long fbo, .ref hFr, .ref hFs, .ref hFc, .ref hFw])), (hFr, .inl (cI, 9, .inl fra)), (hFs, .inl (cJ, 9, .inr (.inl fst))), (hFc, .inl (cI, 49, .inl fco)), (hFw, .inl (cI, 49, .inl fro))]
abbrev wdB (cJ : ClassId) (cI : ClassId) (hB : Nat) (hBw : Nat) (hF : Nat) (hFr : Nat) (hFs : Nat) (hFc : Nat) (hFw : Nat) (bsz : Int32) (bfi : Int32) (bla : Int32) (bar : Int32) (bwi : Nat → Int64) (fw : Int32) (fc : Int32) (fwh : Int64) (fbo : Int64) (fra : Nat → Int32) (fst : Nat → Int64) (fco : Nat → Int32) (fro : Nat → Int32) : va_W := [(hB, .inr (0, [.ref hF, .ref hBw, .int bsz, .int bfi, .int bla, .int bar])), (hBw, .inl (cJ, 210, .inr (.inl bwi))), (hF, .inr (1, [.int fw, .int fc, .long fwh, .long fbo, .ref hFr, .ref hFs, .ref hFc, .ref hFw])), (hFr, .inl (cI, 9, .inl fra)), (hFs, .inl (cJ, 9, .inr (.inl fst))), (hFc, .inl (cI, 49, .inl fco)), (hFw, .inl (cI, 49, .inl fro))]
abbrev wdX (cJ : ClassId) (cG : ClassId) (cI : ClassId) (hX : Nat) (hXp : Nat) (hXg : Nat) (hG0 : Nat) (hGa0 : Nat) (hG1 : Nat) (hGa1 : Nat) (hG2 : Nat) (hGa2 : Nat) (hQ : Nat) (hQw : Nat) (hI : Nat) (hR : Nat) (hRh : Nat) (hRm : Nat) (hB : Nat) (hBw : Nat) (hS : Nat) (hSs : Nat) (hF : Nat) (hFr : Nat) (hFs : Nat) (hFc : Nat) (hFw : Nat) (xpi : Nat → Int64) (gs0 : Int32) (ga0 : Nat → Int32) (gs1 : Int32) (ga1 : Nat → Int32) (gs2 : Int32) (ga2 : Nat → Int32) (qln : Int32) (qwy : Nat → Int32) (ijn : Int32) (rsz : Int32) (rhi : Nat → Int32) (rmi : Nat → Int32) (bsz : Int32) (bfi : Int32) (bla : Int32) (bar : Int32) (bwi : Nat → Int64) (srim : Int32) (sst : Nat → Int32) (fw : Int32) (fc : Int32) (fwh : Int64) (fbo : Int64) (fra : Nat → Int32) (fst : Nat → Int64) (fco : Nat → Int32) (fro : Nat → Int32) : va_W := [(hX, .inr (7, [.ref hF, .ref hXp, .ref hS, .ref hXg, .ref hQ, .ref hI, .ref hR, .ref hB])), (hXp, .inl (cJ, 5, .inr (.inl xpi))), (hXg, .inl (cG, 3, .inr (.inr (.inr (.inr (va_p3 hG0 hG1 hG2)))))), (hG0, .inr (4, [.ref hS, .ref hGa0, .int gs0])), (hGa0, .inl (cI, 8, .inl ga0)), (hG1, .inr (4, [.ref hS, .ref hGa1, .int gs1])), (hGa1, .inl (cI, 8, .inl ga1)), (hG2, .inr (4, [.ref hS, .ref hGa2, .int gs2])), (hGa2, .inl (cI, 8, .inl ga2)), (hQ, .inr (5, [.ref hS, .ref hQw, .int qln])), (hQw, .inl (cI, 4, .inl qwy)), (hI, .inr (3, [.ref hF, .int ijn])), (hR, .inr (2, [.ref hF, .ref hS, .ref hRh, .ref hRm, .int rsz])), (hRh, .inl (cI, 8, .inl rhi)), (hRm, .inl (cI, 8, .inl rmi)), (hB, .inr (0, [.ref hF, .ref hBw, .int bsz, .int bfi, .int bla, .int bar])), (hBw, .inl (cJ, 210, .inr (.inl bwi))), (hS, .inr (6, [.ref hF, .ref hSs, .int srim])), (hSs, .inl (cI, 4, .inl sst)), (hF, .inr (1, [.int fw, .int fc, .long fwh, .long fbo, .ref hFr, .ref hFs, .ref hFc, .ref hFw])), (hFr, .inl (cI, 9, .inl fra)), (hFs, .inl (cJ, 9, .inr (.inl fst))), (hFc, .inl (cI, 49, .inl fco)), (hFw, .inl (cI, 49, .inl fro))]
abbrev wdM (cJ : ClassId) (cI : ClassId) (hM : Nat) (hM1 : Nat) (hM2 : Nat) (hM3 : Nat) (hM4 : Nat) (hM5 : Nat) (hM6 : Nat) (hM7 : Nat) (hM8 : Nat) (hM9 : Nat) (hM10 : Nat) (hM11 : Nat) (mw : Int32) (mt : Int32) (mrim : Int32) (mjn : Int32) (mhm : Int32) (mpn : Int32) (mbm : Int32) (mgm : Int32) (mpi : Nat → Int64) (mst : Nat → Int32) (mam : Nat → Int32) (mac : Nat → Int32) (mro : Nat → Int32) (mbe : Nat → Int64) (mhi : Nat → Int32) (mmi : Nat → Int32) (mgr : Nat → Int64) (mtr : Nat → Int32) (mle : Nat → Int64) : va_W := [(hM, .inr (8, [.int mw, .int mt, .ref hM1, .ref hM2, .int mrim, .int mjn, .ref hM3, .ref hM4, .ref hM5, .ref hM6, .int mhm, .int mpn, .ref hM7, .ref hM8, .int mbm, .int mgm, .ref hM9, .ref hM10, .ref hM11])), (hM1, .inl (cJ, 5, .inr (.inl mpi))), (hM2, .inl (cI, 4, .inl mst)), (hM3, .inl (cI, 3, .inl mam)), (hM4, .inl (cI, 24, .inl mac)), (hM5, .inl (cI, 4, .inl mro)), (hM6, .inl (cJ, 5, .inr (.inl mbe))), (hM7, .inl (cI, 8, .inl mhi)), (hM8, .inl (cI, 8, .inl mmi)), (hM9, .inl (cJ, 800, .inr (.inl mgr))), (hM10, .inl (cI, 21, .inl mtr)), (hM11, .inl (cJ, 22, .inr (.inl mle)))]
