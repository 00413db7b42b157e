def tw : List Cond := lw_tbl.filter goodWord
theorem tw_of {w : Cond} (h : w ∈ lw_tbl) (g : goodWord w = true) : w ∈ tw := List.mem_filter.mpr ⟨h, g⟩
theorem tw_sub {w : Cond} (h : w ∈ tw) : w ∈ lw_tbl := (List.mem_filter.mp h).1
theorem tw_g {w : Cond} (h : w ∈ tw) : w ∈ tw ∧ ((w.onTables && w.keeps) = true ∨ ∃ ty, w = .arrayClass ty) := ⟨h, good_of_word (List.mem_filter.mp h).2⟩
theorem tw_cons {w : Cond} (h : w ∈ tw) : GoodIn tw (w :: tw) := fun x hx => (List.mem_cons.mp hx).elim (fun e => by rw [e]; exact tw_g h) tw_g
theorem tw_V {own C : String} {idx n : Nat} {y : MethodName} {c : ByteArray} {r : Option FieldType} (h1 : Cond.methodLink own idx y ∈ tw) (h2 : Cond.instanceMethod y ∈ tw) (h3 : Cond.selects C y y ∈ tw) (h4 : Cond.initialized C ∈ tw) (h5 : Cond.code y c n r ∈ tw) : GoodIn tw (wsV own idx C y (.code y c n r :: tw)) := by
  intro w hw
  unfold wsV at hw
  simp only [List.cons_append, List.nil_append, List.mem_cons] at hw
  rcases hw with e | e | e | e | e | e
  · rw [e]; exact tw_g h1
  · rw [e]; exact tw_g h2
  · rw [e]; exact tw_g h3
  · rw [e]; exact tw_g h4
  · rw [e]; exact tw_g h5
  · exact tw_g e
theorem tw_S2 {own : String} {idx n : Nat} {y : MethodName} {c : ByteArray} {r : Option FieldType} (h1 : Cond.methodLink own idx y ∈ tw) (h2 : Cond.static y ∈ tw) (h4 : Cond.initialized y.cls ∈ tw) (h5 : Cond.code y c n r ∈ tw) : GoodIn tw (va_wsS own idx y (.code y c n r :: tw)) := by
  intro w hw
  unfold va_wsS at hw
  simp only [List.cons_append, List.nil_append, List.mem_cons] at hw
  rcases hw with e | e | e | e | e
  · rw [e]; exact tw_g h1
  · rw [e]; exact tw_g h2
  · rw [e]; exact tw_g h4
  · rw [e]; exact tw_g h5
  · exact tw_g e
abbrev jrem (x y : Int32) : Int32 := x - x / y * y
def jiushr (x y : Int32) : Int32 := (x.toUInt32 >>> (y.toUInt32 &&& Int32.toUInt32 31)).toInt32
def jlushr (x : Int64) (y : Int32) : Int64 := (x.toUInt64 >>> (y.toInt64.toUInt64 &&& Int64.toUInt64 63)).toInt64
def jlshl (x : Int64) (y : Int32) : Int64 := x <<< (y.toInt64 &&& 63)
def jlshr (x : Int64) (y : Int32) : Int64 := x >>> (y.toInt64 &&& 63)
abbrev ib (i : Int32) (n : Nat) : Prop := ¬ (i < 0 ∨ n ≤ i.toNatClampNeg)
def gd {α : Type} (b : Prop) [Decidable b] (k : Option α) : Option α := if b then k else none
theorem gd_out {α : Type} {b : Prop} [Decidable b] {k : Option α} {r : α} (h : gd b k = some r) : b ∧ k = some r := by
  unfold gd at h
  by_cases hb : b
  · rw [if_pos hb] at h; exact ⟨hb, h⟩
  · rw [if_neg hb] at h; cases h
def jl {α β : Type} (e : α) (k : α → β) : β := k e
theorem jl_out {α β : Type} {e : α} {k : α → β} {r : β} (h : jl e k = r) : ∃ v, v = e ∧ k v = r := ⟨e, rfl, h⟩
def jb {α β : Type} (o : Option α) (k : α → Option β) : Option β := o.bind k
theorem jb_out {α β : Type} {o : Option α} {k : α → Option β} {r : β} (h : jb o k = some r) : ∃ v, o = some v ∧ k v = some r := Option.bind_eq_some_iff.mp h
def jb0 {β : Type} (o : Option Unit) (k : Option β) : Option β := o.bind (fun _ => k)
theorem jb_out0 {β : Type} {o : Option Unit} {k : Option β} {r : β} (h : jb0 o k = some r) : o = some () ∧ k = some r := by
  obtain ⟨v, h1, h2⟩ := Option.bind_eq_some_iff.mp h
  exact ⟨h1, h2⟩
def pr2 {A1 A2 β : Type} (q : A1 × A2) (k : A1 → A2 → β) : β := k q.1 q.2
def jb2 {A1 A2 β : Type} (o : Option (A1 × A2)) (k : A1 → A2 → Option β) : Option β := o.bind (fun q => k q.1 q.2)
theorem jb_out2 {A1 A2 β : Type} {o : Option (A1 × A2)} {k : A1 → A2 → Option β} {r : β} (h : jb2 o k = some r) : ∃ v1 v2, o = some (v1, v2) ∧ k v1 v2 = some r := by
  obtain ⟨v, h1, h2⟩ := Option.bind_eq_some_iff.mp h
  exact ⟨v.1, v.2, h1, h2⟩
def pr3 {A1 A2 A3 β : Type} (q : A1 × A2 × A3) (k : A1 → A2 → A3 → β) : β := k q.1 q.2.1 q.2.2
def jb3 {A1 A2 A3 β : Type} (o : Option (A1 × A2 × A3)) (k : A1 → A2 → A3 → Option β) : Option β := o.bind (fun q => k q.1 q.2.1 q.2.2)
theorem jb_out3 {A1 A2 A3 β : Type} {o : Option (A1 × A2 × A3)} {k : A1 → A2 → A3 → Option β} {r : β} (h : jb3 o k = some r) : ∃ v1 v2 v3, o = some (v1, v2, v3) ∧ k v1 v2 v3 = some r := by
  obtain ⟨v, h1, h2⟩ := Option.bind_eq_some_iff.mp h
  exact ⟨v.1, v.2.1, v.2.2, h1, h2⟩
def pr4 {A1 A2 A3 A4 β : Type} (q : A1 × A2 × A3 × A4) (k : A1 → A2 → A3 → A4 → β) : β := k q.1 q.2.1 q.2.2.1 q.2.2.2
def jb4 {A1 A2 A3 A4 β : Type} (o : Option (A1 × A2 × A3 × A4)) (k : A1 → A2 → A3 → A4 → Option β) : Option β := o.bind (fun q => k q.1 q.2.1 q.2.2.1 q.2.2.2)
theorem jb_out4 {A1 A2 A3 A4 β : Type} {o : Option (A1 × A2 × A3 × A4)} {k : A1 → A2 → A3 → A4 → Option β} {r : β} (h : jb4 o k = some r) : ∃ v1 v2 v3 v4, o = some (v1, v2, v3, v4) ∧ k v1 v2 v3 v4 = some r := by
  obtain ⟨v, h1, h2⟩ := Option.bind_eq_some_iff.mp h
  exact ⟨v.1, v.2.1, v.2.2.1, v.2.2.2, h1, h2⟩
def pr5 {A1 A2 A3 A4 A5 β : Type} (q : A1 × A2 × A3 × A4 × A5) (k : A1 → A2 → A3 → A4 → A5 → β) : β := k q.1 q.2.1 q.2.2.1 q.2.2.2.1 q.2.2.2.2
def jb5 {A1 A2 A3 A4 A5 β : Type} (o : Option (A1 × A2 × A3 × A4 × A5)) (k : A1 → A2 → A3 → A4 → A5 → Option β) : Option β := o.bind (fun q => k q.1 q.2.1 q.2.2.1 q.2.2.2.1 q.2.2.2.2)
theorem jb_out5 {A1 A2 A3 A4 A5 β : Type} {o : Option (A1 × A2 × A3 × A4 × A5)} {k : A1 → A2 → A3 → A4 → A5 → Option β} {r : β} (h : jb5 o k = some r) : ∃ v1 v2 v3 v4 v5, o = some (v1, v2, v3, v4, v5) ∧ k v1 v2 v3 v4 v5 = some r := by
  obtain ⟨v, h1, h2⟩ := Option.bind_eq_some_iff.mp h
  exact ⟨v.1, v.2.1, v.2.2.1, v.2.2.2.1, v.2.2.2.2, h1, h2⟩
def pr6 {A1 A2 A3 A4 A5 A6 β : Type} (q : A1 × A2 × A3 × A4 × A5 × A6) (k : A1 → A2 → A3 → A4 → A5 → A6 → β) : β := k q.1 q.2.1 q.2.2.1 q.2.2.2.1 q.2.2.2.2.1 q.2.2.2.2.2
def jb6 {A1 A2 A3 A4 A5 A6 β : Type} (o : Option (A1 × A2 × A3 × A4 × A5 × A6)) (k : A1 → A2 → A3 → A4 → A5 → A6 → Option β) : Option β := o.bind (fun q => k q.1 q.2.1 q.2.2.1 q.2.2.2.1 q.2.2.2.2.1 q.2.2.2.2.2)
theorem jb_out6 {A1 A2 A3 A4 A5 A6 β : Type} {o : Option (A1 × A2 × A3 × A4 × A5 × A6)} {k : A1 → A2 → A3 → A4 → A5 → A6 → Option β} {r : β} (h : jb6 o k = some r) : ∃ v1 v2 v3 v4 v5 v6, o = some (v1, v2, v3, v4, v5, v6) ∧ k v1 v2 v3 v4 v5 v6 = some r := by
  obtain ⟨v, h1, h2⟩ := Option.bind_eq_some_iff.mp h
  exact ⟨v.1, v.2.1, v.2.2.1, v.2.2.2.1, v.2.2.2.2.1, v.2.2.2.2.2, h1, h2⟩
def pr7 {A1 A2 A3 A4 A5 A6 A7 β : Type} (q : A1 × A2 × A3 × A4 × A5 × A6 × A7) (k : A1 → A2 → A3 → A4 → A5 → A6 → A7 → β) : β := k q.1 q.2.1 q.2.2.1 q.2.2.2.1 q.2.2.2.2.1 q.2.2.2.2.2.1 q.2.2.2.2.2.2
def jb7 {A1 A2 A3 A4 A5 A6 A7 β : Type} (o : Option (A1 × A2 × A3 × A4 × A5 × A6 × A7)) (k : A1 → A2 → A3 → A4 → A5 → A6 → A7 → Option β) : Option β := o.bind (fun q => k q.1 q.2.1 q.2.2.1 q.2.2.2.1 q.2.2.2.2.1 q.2.2.2.2.2.1 q.2.2.2.2.2.2)
theorem jb_out7 {A1 A2 A3 A4 A5 A6 A7 β : Type} {o : Option (A1 × A2 × A3 × A4 × A5 × A6 × A7)} {k : A1 → A2 → A3 → A4 → A5 → A6 → A7 → Option β} {r : β} (h : jb7 o k = some r) : ∃ v1 v2 v3 v4 v5 v6 v7, o = some (v1, v2, v3, v4, v5, v6, v7) ∧ k v1 v2 v3 v4 v5 v6 v7 = some r := by
  obtain ⟨v, h1, h2⟩ := Option.bind_eq_some_iff.mp h
  exact ⟨v.1, v.2.1, v.2.2.1, v.2.2.2.1, v.2.2.2.2.1, v.2.2.2.2.2.1, v.2.2.2.2.2.2, h1, h2⟩
def pr8 {A1 A2 A3 A4 A5 A6 A7 A8 β : Type} (q : A1 × A2 × A3 × A4 × A5 × A6 × A7 × A8) (k : A1 → A2 → A3 → A4 → A5 → A6 → A7 → A8 → β) : β := k q.1 q.2.1 q.2.2.1 q.2.2.2.1 q.2.2.2.2.1 q.2.2.2.2.2.1 q.2.2.2.2.2.2.1 q.2.2.2.2.2.2.2
def jb8 {A1 A2 A3 A4 A5 A6 A7 A8 β : Type} (o : Option (A1 × A2 × A3 × A4 × A5 × A6 × A7 × A8)) (k : A1 → A2 → A3 → A4 → A5 → A6 → A7 → A8 → Option β) : Option β := o.bind (fun q => k q.1 q.2.1 q.2.2.1 q.2.2.2.1 q.2.2.2.2.1 q.2.2.2.2.2.1 q.2.2.2.2.2.2.1 q.2.2.2.2.2.2.2)
theorem jb_out8 {A1 A2 A3 A4 A5 A6 A7 A8 β : Type} {o : Option (A1 × A2 × A3 × A4 × A5 × A6 × A7 × A8)} {k : A1 → A2 → A3 → A4 → A5 → A6 → A7 → A8 → Option β} {r : β} (h : jb8 o k = some r) : ∃ v1 v2 v3 v4 v5 v6 v7 v8, o = some (v1, v2, v3, v4, v5, v6, v7, v8) ∧ k v1 v2 v3 v4 v5 v6 v7 v8 = some r := by
  obtain ⟨v, h1, h2⟩ := Option.bind_eq_some_iff.mp h
  exact ⟨v.1, v.2.1, v.2.2.1, v.2.2.2.1, v.2.2.2.2.1, v.2.2.2.2.2.1, v.2.2.2.2.2.2.1, v.2.2.2.2.2.2.2, h1, h2⟩
def el2 {A B G : Type} (q : A ⊕ B) (k1 : A → G) (k2 : B → G) : G := match q with
  | .inl a => k1 a
  | .inr b => k2 b
def el3 {A B C G : Type} (q : A ⊕ B ⊕ C) (k1 : A → G) (k2 : B → G) (k3 : C → G) : G := match q with
  | .inl a => k1 a
  | .inr (.inl b) => k2 b
  | .inr (.inr b) => k3 b
theorem tsw4 {x : Int32} (h0 : ¬ x = 0) (h1 : ¬ x = 1) (h2 : ¬ x = 2) (h3 : ¬ x = 3) : x.toInt < 0 ∨ 3 < x.toInt := by
  have e0 : x.toInt ≠ 0 := fun h => h0 (Int32.toInt_inj.mp (by rw [h]; rfl))
  have e1 : x.toInt ≠ 1 := fun h => h1 (Int32.toInt_inj.mp (by rw [h]; rfl))
  have e2 : x.toInt ≠ 2 := fun h => h2 (Int32.toInt_inj.mp (by rw [h]; rfl))
  have e3 : x.toInt ≠ 3 := fun h => h3 (Int32.toInt_inj.mp (by rw [h]; rfl))
  omega
def side4 : Nat → Int32 := fun j => if j = 0 then 1 else if j = 1 then 3 else if j = 2 then 5 else 7
def acts9 : Nat → Int32 := fun j => if j = 0 then 0 else if j = 1 then 1 else if j = 2 then 2 else if j = 3 then 3 else if j = 4 then 10 else if j = 5 then 11 else if j = 6 then 12 else if j = 7 then 13 else 40
def rdP (D : va_G) (av : List Value) (ws : va_W) (tys : List (ClassId × FieldType)) : Array Value → State → Prop := va_Pc av (fun U => va_P D vwCl ws U.heap ∧ va_K D vwCl tys U)
theorem rdP_bl {D : va_G} {av : List Value} {ws : va_W} {tys : List (ClassId × FieldType)} : FrameBlind (rdP D av ws tys) := fun a U g mk q => ⟨q.1, q.2.1, va_K.moved (u := U) (U := U.calling g mk a) (Vm.Alike.refl U.vm) q.2.2⟩
theorem rdP_ok {D : va_G} {av : List Value} {ws : va_W} {tys : List (ClassId × FieldType)} {s : State} {H : Heap} (hP : va_P D vwCl ws H) (hK : va_K D vwCl tys s) : ∀ U : State, U.heap = H → s.WarmedH U.vm → rdP D av ws tys av.toArray U := fun U hU hW => ⟨rfl, by rw [hU]; exact hP, va_K.moved hW.alike hK⟩
def stZ (A : Nat → Prop) (tS tA : Nat) (U : State) (H : Heap) : Prop := va_Z "WornShapes$Field" "SIDE_STEPS" "[I" (.ref tS) A U H ∧ va_T .int tS 4 (fun j => .int (side4 j)) A U H ∧ va_Z "WornShapes$Search" "ACTS" "[I" (.ref tA) A U H ∧ va_T .int tA 9 (fun j => .int (acts9 j)) A U H
theorem stZ.moved {A : Nat → Prop} {tS tA : Nat} {u U : State} {H : Heap} (hvm : u.vm.Alike U.vm) (h : stZ A tS tA u H) : stZ A tS tA U H := ⟨va_Z.moved hvm h.1, va_T.moved hvm h.2.1, va_Z.moved hvm h.2.2.1, va_T.moved hvm h.2.2.2⟩
theorem stZ.narrow {A B : Nat → Prop} {tS tA : Nat} {U : State} {H : Heap} (h : stZ A tS tA U H) (hAB : ∀ q, B q → A q) : stZ B tS tA U H := ⟨va_Z.narrow h.1 hAB, va_T.narrow h.2.1 hAB, va_Z.narrow h.2.2.1 hAB, va_T.narrow h.2.2.2 hAB⟩
theorem stZ_at {A : Nat → Prop} {tS tA : Nat} {U : State} {H0 H : Heap} {locs : List Loc} (h : stZ A tS tA U H0) (hS : va_S A H0 H locs) : stZ (fun _ => False) tS tA U H := (show stZ A tS tA U H from ⟨va_Z.kept h.1 (fun a x y => hS.2.1 a x y), va_T.kept h.2.1 (fun a x y => hS.2.1 a x y), va_Z.kept h.2.2.1 (fun a x y => hS.2.1 a x y), va_T.kept h.2.2.2 (fun a x y => hS.2.1 a x y)⟩).narrow (fun _ h => h.elim)
def rdZ (D : va_G) (av : List Value) (ws : va_W) (tys : List (ClassId × FieldType)) (tS tA : Nat) : Array Value → State → Prop := va_Pc av (fun U => va_P D vwCl ws U.heap ∧ va_K D vwCl tys U ∧ stZ (fun _ => False) tS tA U U.heap)
theorem rdZ_bl {D : va_G} {av : List Value} {ws : va_W} {tys : List (ClassId × FieldType)} {tS tA : Nat} : FrameBlind (rdZ D av ws tys tS tA) := fun a U g mk q => ⟨q.1, q.2.1, va_K.moved (u := U) (U := U.calling g mk a) (Vm.Alike.refl U.vm) q.2.2.1, stZ.moved (u := U) (U := U.calling g mk a) (Vm.Alike.refl U.vm) q.2.2.2⟩
theorem rdZ_ok {D : va_G} {av : List Value} {ws : va_W} {tys : List (ClassId × FieldType)} {tS tA : Nat} {s : State} {H : Heap} (hP : va_P D vwCl ws H) (hK : va_K D vwCl tys s) (hz : stZ (fun _ => False) tS tA s H) : ∀ U : State, U.heap = H → s.WarmedH U.vm → rdZ D av ws tys tS tA av.toArray U := fun U hU hW => ⟨rfl, by rw [hU]; exact hP, va_K.moved hW.alike hK, by rw [hU]; exact stZ.moved hW.alike hz⟩
theorem va_P.subM {D : va_G} {cl : List vw_C} {ws wc : va_W} {H : Heap} (hP : va_P D cl ws H) (isC : List Nat) (hC : isC.map (fun i => ws[i]?) = wc.map some) : va_P D cl wc H := by
  intro k q hq
  have h1 : (isC.map (fun i => ws[i]?))[k]? = some (some q) := by rw [hC, List.getElem?_map, hq]; rfl
  rw [List.getElem?_map] at h1
  cases hi : isC[k]? with
  | none => rw [hi] at h1; cases h1
  | some i => rw [hi] at h1; exact hP i q (Option.some.inj h1)
def wrP (D : va_G) (av : List Value) (ws : va_W) (tys : List (ClassId × FieldType)) (sz : Nat) : Array Value → State → Prop := va_Pc av (fun U => U.heap.size = sz ∧ va_P D vwCl ws U.heap ∧ va_K D vwCl tys U ∧ va_D (fun _ => True) ws)
theorem wrP_bl {D : va_G} {av : List Value} {ws : va_W} {tys : List (ClassId × FieldType)} {sz : Nat} : FrameBlind (wrP D av ws tys sz) := fun a U g mk q => ⟨q.1, q.2.1, q.2.2.1, va_K.moved (u := U) (U := U.calling g mk a) (Vm.Alike.refl U.vm) q.2.2.2.1, q.2.2.2.2⟩
theorem wrP_ok {D : va_G} {av : List Value} {ws : va_W} {tys : List (ClassId × FieldType)} {s : State} {H : Heap} {A : Nat → Prop} (hP : va_P D vwCl ws H) (hK : va_K D vwCl tys s) (hD : va_D A ws) : ∀ U : State, U.heap = H → s.WarmedH U.vm → wrP D av ws tys H.size av.toArray U := fun U hU hW => ⟨rfl, by rw [hU], by rw [hU]; exact hP, va_K.moved hW.alike hK, hD.weaken (fun _ _ _ _ => trivial)⟩
def wrZ (D : va_G) (av : List Value) (ws : va_W) (tys : List (ClassId × FieldType)) (tS tA : Nat) (sz : Nat) : Array Value → State → Prop := va_Pc av (fun U => U.heap.size = sz ∧ va_P D vwCl ws U.heap ∧ va_K D vwCl tys U ∧ va_D (fun _ => True) ws ∧ stZ (va_A ws sz) tS tA U U.heap)
theorem wrZ_bl {D : va_G} {av : List Value} {ws : va_W} {tys : List (ClassId × FieldType)} {tS tA sz : Nat} : FrameBlind (wrZ D av ws tys tS tA sz) := fun a U g mk q => ⟨q.1, q.2.1, q.2.2.1, va_K.moved (u := U) (U := U.calling g mk a) (Vm.Alike.refl U.vm) q.2.2.2.1, q.2.2.2.2.1, stZ.moved (u := U) (U := U.calling g mk a) (Vm.Alike.refl U.vm) q.2.2.2.2.2⟩
theorem wrZ_ok {D : va_G} {av : List Value} {ws : va_W} {tys : List (ClassId × FieldType)} {tS tA : Nat} {s : State} {H : Heap} {A : Nat → Prop} (hP : va_P D vwCl ws H) (hK : va_K D vwCl tys s) (hD : va_D A ws) (hz : stZ (va_A ws H.size) tS tA s H) : ∀ U : State, U.heap = H → s.WarmedH U.vm → wrZ D av ws tys tS tA H.size av.toArray U := fun U hU hW => ⟨rfl, by rw [hU], by rw [hU]; exact hP, va_K.moved hW.alike hK, hD.weaken (fun _ _ _ _ => trivial), by rw [hU]; exact stZ.moved hW.alike hz⟩
theorem stZ_in {A B : Nat → Prop} {tS tA : Nat} {U : State} {H0 H : Heap} {locs : List Loc} (h : stZ A tS tA U H0) (hS : va_S A H0 H locs) (hB : ∀ q, B q → A q) : stZ B tS tA U H := (show stZ A tS tA U H from ⟨va_Z.kept h.1 (fun a x y => hS.2.1 a x y), va_T.kept h.2.1 (fun a x y => hS.2.1 a x y), va_Z.kept h.2.2.1 (fun a x y => hS.2.1 a x y), va_T.kept h.2.2.2 (fun a x y => hS.2.1 a x y)⟩).narrow hB
theorem tnX0 : ∀ w ∈ u_ws RX0 TX0 6, w ∈ tw := fun w h => tw_of (inX0 w h) (by revert w; decide +kernel)
theorem tnX1 : ∀ w ∈ u_ws RX1 TX1 8, w ∈ tw := fun w h => tw_of (inX1 w h) (by revert w; decide +kernel)
theorem tnX2 : ∀ w ∈ u_ws RX2 TX2 5, w ∈ tw := fun w h => tw_of (inX2 w h) (by revert w; decide +kernel)
theorem tnX3 : ∀ w ∈ u_ws RX3 TX3 2, w ∈ tw := fun w h => tw_of (inX3 w h) (by revert w; decide +kernel)
theorem tnX4 : ∀ w ∈ u_ws RX4 TX4 3, w ∈ tw := fun w h => tw_of (inX4 w h) (by revert w; decide +kernel)
theorem tnX5 : ∀ w ∈ u_ws RX5 TX5 3, w ∈ tw := fun w h => tw_of (inX5 w h) (by revert w; decide +kernel)
theorem tnX6 : ∀ w ∈ u_ws RX6 TX6 3, w ∈ tw := fun w h => tw_of (inX6 w h) (by revert w; decide +kernel)
theorem tnX7 : ∀ w ∈ u_ws RX7 TX7 8, w ∈ tw := fun w h => tw_of (inX7 w h) (by revert w; decide +kernel)
theorem tnX8 : ∀ w ∈ u_ws RX8 TX8 19, w ∈ tw := fun w h => tw_of (inX8 w h) (by revert w; decide +kernel)
abbrev va_p3 (a b c : Nat) : Nat → Option Nat := fun j => if j = 0 then some a else if j = 1 then some b else if j = 2 then some c else none
abbrev wdF (cI : ClassId) (cJ : ClassId) (oF : Nat) (oFr : Nat) (oFs : Nat) (oFc : Nat) (oFw : Nat) (fw : Int32) (fc : Int32) (fwh : Int64) (fbo : Int64) (fra : Nat → Int32) (fst : Nat → Int64) (fco : Nat → Int32) (fro : Nat → Int32) : va_W := [(oF, .inr (1, [.int fw, .int fc, .long fwh, .long fbo, .ref oFr, .ref oFs, .ref oFc, .ref oFw])), (oFr, .inl (cI, 9, .inl fra)), (oFs, .inl (cJ, 9, .inr (.inl fst))), (oFc, .inl (cI, 49, .inl fco)), (oFw, .inl (cI, 49, .inl fro))]
abbrev wdS (cI : ClassId) (cJ : ClassId) (oS : Nat) (oSs : Nat) (oF : Nat) (oFr : Nat) (oFs : Nat) (oFc : Nat) (oFw : Nat) (srim : Int32) (sst : Nat → Int32) (fw : Int32) (fc : Int32) (fwh : Int64) (fbo : Int64) (fra : Nat → Int32) (fst : Nat → Int64) (fco : Nat → Int32) (fro : Nat → Int32) : va_W := [(oS, .inr (6, [.ref oF, .ref oSs, .int srim])), (oSs, .inl (cI, 4, .inl sst)), (oF, .inr (1, [.int fw, .int fc, .long fwh, .long fbo, .ref oFr, .ref oFs, .ref oFc, .ref oFw])), (oFr, .inl (cI, 9, .inl fra)), (oFs, .inl (cJ, 9, .inr (.inl fst))), (oFc, .inl (cI, 49, .inl fco)), (oFw, .inl (cI, 49, .inl fro))]
abbrev wdG (cI : ClassId) (cJ : ClassId) (oG : Nat) (oGa : Nat) (oS : Nat) (oSs : Nat) (oF : Nat) (oFr : Nat) (oFs : Nat) (oFc : Nat) (oFw : Nat) (gsz : Int32) (gac : Nat → Int32) (srim : Int32) (sst : Nat → Int32) (fw : Int32) (fc : Int32) (fwh : Int64) (fbo : Int64) (fra : Nat → Int32) (fst : Nat → Int64) (fco : Nat → Int32) (fro : Nat → Int32) : va_W := [(oG, .inr (4, [.ref oS, .ref oGa, .int gsz])), (oGa, .inl (cI, 8, .inl gac)), (oS, .inr (6, [.ref oF, .ref oSs, .int srim])), (oSs, .inl (cI, 4, .inl sst)), (oF, .inr (1, [.int fw, .int fc, .long fwh, .long fbo, .ref oFr, .ref oFs, .ref oFc, .ref oFw])), (oFr, .inl (cI, 9, .inl fra)), (oFs, .inl (cJ, 9, .inr (.inl fst))), (oFc, .inl (cI, 49, .inl fco)), (oFw, .inl (cI, 49, .inl fro))]
abbrev wdQ (cI : ClassId) (cJ : ClassId) (oQ : Nat) (oQw : Nat) (oS : Nat) (oSs : Nat) (oF : Nat) (oFr : Nat) (oFs : Nat) (oFc : Nat) (oFw : Nat) (qln : Int32) (qwy : Nat → Int32) (srim : Int32) (sst : Nat → Int32) (fw : Int32) (fc : Int32) (fwh : Int64) (fbo : Int64) (fra : Nat → Int32) (fst : Nat → Int64) (fco : Nat → Int32) (fro : Nat → Int32) : va_W := [(oQ, .inr (5, [.ref oS, .ref oQw, .int qln])), (oQw, .inl (cI, 4, .inl qwy)), (oS, .inr (6, [.ref oF, .ref oSs, .int srim])), (oSs, .inl (cI, 4, .inl sst)), (oF, .inr (1, [.int fw, .int fc, .long fwh, .long fbo, .ref oFr, .ref oFs, .ref oFc, .ref oFw])), (oFr, .inl (cI, 9, .inl fra)), (oFs, .inl (cJ, 9, .inr (.inl fst))), (oFc, .inl (cI, 49, .inl fco)), (oFw, .inl (cI, 49, .inl fro))]
abbrev wdI (cI : ClassId) (cJ : ClassId) (oI : Nat) (oF : Nat) (oFr : Nat) (oFs : Nat) (oFc : Nat) (oFw : Nat) (ijn : Int32) (fw : Int32) (fc : Int32) (fwh : Int64) (fbo : Int64) (fra : Nat → Int32) (fst : Nat → Int64) (fco : Nat → Int32) (fro : Nat → Int32) : va_W := [(oI, .inr (3, [.ref oF, .int ijn])), (oF, .inr (1, [.int fw, .int fc, .long fwh, .long fbo, .ref oFr, .ref oFs, .ref oFc, .ref oFw])), (oFr, .inl (cI, 9, .inl fra)), (oFs, .inl (cJ, 9, .inr (.inl fst))), (oFc, .inl (cI, 49, .inl fco)), (oFw, .inl (cI, 49, .inl fro))]
abbrev wdR (cI : ClassId) (cJ : ClassId) (oR : Nat) (oRh : Nat) (oRm : Nat) (oS : Nat) (oSs : Nat) (oF : Nat) (oFr : Nat) (oFs : Nat) (oFc : Nat) (oFw : Nat) (rsz : Int32) (rhi : Nat → Int32) (rmi : Nat → Int32) (srim : Int32) (sst : Nat → Int32) (fw : Int32) (fc : Int32) (fwh : Int64) (fbo : Int64) (fra : Nat → Int32) (fst : Nat → Int64) (fco : Nat → Int32) (fro : Nat → Int32) : va_W := [(oR, .inr (2, [.ref oF, .ref oS, .ref oRh, .ref oRm, .int rsz])), (oRh, .inl (cI, 8, .inl rhi)), (oRm, .inl (cI, 8, .inl rmi)), (oS, .inr (6, [.ref oF, .ref oSs, .int srim])), (oSs, .inl (cI, 4, .inl sst)), (oF, .inr (1, [.int fw, .int fc, .long fwh, .long fbo, .ref oFr, .ref oFs, .ref oFc, .ref oFw])), (oFr, .inl (cI, 9, .inl fra)), (oFs, .inl (cJ, 9, .inr (.inl fst))), (oFc, .inl (cI, 49, .inl fco)), (oFw, .inl (cI, 49, .inl fro))]
abbrev wdB (cJ : ClassId) (cI : ClassId) (oB : Nat) (oBw : Nat) (oF : Nat) (oFr : Nat) (oFs : Nat) (oFc : Nat) (oFw : Nat) (bsz : Int32) (bfi : Int32) (bla : Int32) (bar : Int32) (bwi : Nat → Int64) (fw : Int32) (fc : Int32) (fwh : Int64) (fbo : Int64) (fra : Nat → Int32) (fst : Nat → Int64) (fco : Nat → Int32) (fro : Nat → Int32) : va_W := [(oB, .inr (0, [.ref oF, .ref oBw, .int bsz, .int bfi, .int bla, .int bar])), (oBw, .inl (cJ, 210, .inr (.inl bwi))), (oF, .inr (1, [.int fw, .int fc, .long fwh, .long fbo, .ref oFr, .ref oFs, .ref oFc, .ref oFw])), (oFr, .inl (cI, 9, .inl fra)), (oFs, .inl (cJ, 9, .inr (.inl fst))), (oFc, .inl (cI, 49, .inl fco)), (oFw, .inl (cI, 49, .inl fro))]
abbrev wdX (cJ : ClassId) (cG : ClassId) (cI : ClassId) (oX : Nat) (oXp : Nat) (oXg : Nat) (oG0 : Nat) (oGa0 : Nat) (oG1 : Nat) (oGa1 : Nat) (oG2 : Nat) (oGa2 : Nat) (oQ : Nat) (oQw : Nat) (oI : Nat) (oR : Nat) (oRh : Nat) (oRm : Nat) (oB : Nat) (oBw : Nat) (oS : Nat) (oSs : Nat) (oF : Nat) (oFr : Nat) (oFs : Nat) (oFc : Nat) (oFw : Nat) (xpi : Nat → Int64) (gs0 : Int32) (ga0 : Nat → Int32) (gs1 : Int32) (ga1 : Nat → Int32) (gs2 : Int32) (ga2 : Nat → Int32) (qln : Int32) (qwy : Nat → Int32) (ijn : Int32) (rsz : Int32) (rhi : Nat → Int32) (rmi : Nat → Int32) (bsz : Int32) (bfi : Int32) (bla : Int32) (bar : Int32) (bwi : Nat → Int64) (srim : Int32) (sst : Nat → Int32) (fw : Int32) (fc : Int32) (fwh : Int64) (fbo : Int64) (fra : Nat → Int32) (fst : Nat → Int64) (fco : Nat → Int32) (fro : Nat → Int32) : va_W := [(oX, .inr (7, [.ref oF, .ref oXp, .ref oS, .ref oXg, .ref oQ, .ref oI, .ref oR, .ref oB])), (oXp, .inl (cJ, 5, .inr (.inl xpi))), (oXg, .inl (cG, 3, .inr (.inr (.inr (.inr (va_p3 oG0 oG1 oG2)))))), (oG0, .inr (4, [.ref oS, .ref oGa0, .int gs0])), (oGa0, .inl (cI, 8, .inl ga0)), (oG1, .inr (4, [.ref oS, .ref oGa1, .int gs1])), (oGa1, .inl (cI, 8, .inl ga1)), (oG2, .inr (4, [.ref oS, .ref oGa2, .int gs2])), (oGa2, .inl (cI, 8, .inl ga2)), (oQ, .inr (5, [.ref oS, .ref oQw, .int qln])), (oQw, .inl (cI, 4, .inl qwy)), (oI, .inr (3, [.ref oF, .int ijn])), (oR, .inr (2, [.ref oF, .ref oS, .ref oRh, .ref oRm, .int rsz])), (oRh, .inl (cI, 8, .inl rhi)), (oRm, .inl (cI, 8, .inl rmi)), (oB, .inr (0, [.ref oF, .ref oBw, .int bsz, .int bfi, .int bla, .int bar])), (oBw, .inl (cJ, 210, .inr (.inl bwi))), (oS, .inr (6, [.ref oF, .ref oSs, .int srim])), (oSs, .inl (cI, 4, .inl sst)), (oF, .inr (1, [.int fw, .int fc, .long fwh, .long fbo, .ref oFr, .ref oFs, .ref oFc, .ref oFw])), (oFr, .inl (cI, 9, .inl fra)), (oFs, .inl (cJ, 9, .inr (.inl fst))), (oFc, .inl (cI, 49, .inl fco)), (oFw, .inl (cI, 49, .inl fro))]
abbrev wdM (cJ : ClassId) (cI : ClassId) (oM : Nat) (oM1 : Nat) (oM2 : Nat) (oM3 : Nat) (oM4 : Nat) (oM5 : Nat) (oM6 : Nat) (oM7 : Nat) (oM8 : Nat) (oM9 : Nat) (oM10 : Nat) (oM11 : Nat) (mw : Int32) (mt : Int32) (mrim : Int32) (mjn : Int32) (mhm : Int32) (mpn : Int32) (mbm : Int32) (mgm : Int32) (mpi : Nat → Int64) (mst : Nat → Int32) (mam : Nat → Int32) (mac : Nat → Int32) (mro : Nat → Int32) (mbe : Nat → Int64) (mhi : Nat → Int32) (mmi : Nat → Int32) (mgr : Nat → Int64) (mtr : Nat → Int32) (mle : Nat → Int64) : va_W := [(oM, .inr (8, [.int mw, .int mt, .ref oM1, .ref oM2, .int mrim, .int mjn, .ref oM3, .ref oM4, .ref oM5, .ref oM6, .int mhm, .int mpn, .ref oM7, .ref oM8, .int mbm, .int mgm, .ref oM9, .ref oM10, .ref oM11])), (oM1, .inl (cJ, 5, .inr (.inl mpi))), (oM2, .inl (cI, 4, .inl mst)), (oM3, .inl (cI, 3, .inl mam)), (oM4, .inl (cI, 24, .inl mac)), (oM5, .inl (cI, 4, .inl mro)), (oM6, .inl (cJ, 5, .inr (.inl mbe))), (oM7, .inl (cI, 8, .inl mhi)), (oM8, .inl (cI, 8, .inl mmi)), (oM9, .inl (cJ, 800, .inr (.inl mgr))), (oM10, .inl (cI, 21, .inl mtr)), (oM11, .inl (cJ, 22, .inr (.inl mle)))]
def s3 {α : Type} (i : Int32) (a b c : α) : α := if i = 0 then a else if i = 1 then b else c
theorem s3_0 {α : Type} (a b c : α) : s3 0 a b c = a := rfl
theorem s3_1 {α : Type} (a b c : α) : s3 1 a b c = b := rfl
theorem s3_2 {α : Type} (a b c : α) : s3 2 a b c = c := rfl
theorem ib3 {i : Int32} (h : ib i 3) : i = 0 ∨ i = 1 ∨ i = 2 := by
  obtain ⟨j, hj, e⟩ := vp_in_of (x := i) (n := 3) h (by decide)
  subst e
  match j, hj with
  | 0, _ => exact Or.inl rfl
  | 1, _ => exact Or.inr (Or.inl rfl)
  | 2, _ => exact Or.inr (Or.inr rfl)
theorem p3_s3 {i : Int32} {a b c : Nat} (h : ib i 3) : va_rf (va_p3 a b c i.toNatClampNeg) = .ref (s3 i a b c) := by
  rcases ib3 h with e | e | e <;> subst e <;> rfl
theorem pick3 {D : va_G} {H : Heap} {i : Int32} {cJ : ClassId} {cG : ClassId} {cI : ClassId} {oX : Nat} {oXp : Nat} {oXg : Nat} {oG0 : Nat} {oGa0 : Nat} {oG1 : Nat} {oGa1 : Nat} {oG2 : Nat} {oGa2 : Nat} {oQ : Nat} {oQw : Nat} {oI : Nat} {oR : Nat} {oRh : Nat} {oRm : Nat} {oB : Nat} {oBw : Nat} {oS : Nat} {oSs : Nat} {oF : Nat} {oFr : Nat} {oFs : Nat} {oFc : Nat} {oFw : Nat} {xpi : Nat → Int64} {gs0 : Int32} {ga0 : Nat → Int32} {gs1 : Int32} {ga1 : Nat → Int32} {gs2 : Int32} {ga2 : Nat → Int32} {qln : Int32} {qwy : Nat → Int32} {ijn : Int32} {rsz : Int32} {rhi : Nat → Int32} {rmi : Nat → Int32} {bsz : Int32} {bfi : Int32} {bla : Int32} {bar : Int32} {bwi : Nat → Int64} {srim : Int32} {sst : Nat → Int32} {fw : Int32} {fc : Int32} {fwh : Int64} {fbo : Int64} {fra : Nat → Int32} {fst : Nat → Int64} {fco : Nat → Int32} {fro : Nat → Int32} (g : ib i 3) (hP : va_P D vwCl (wdX cJ cG cI oX oXp oXg oG0 oGa0 oG1 oGa1 oG2 oGa2 oQ oQw oI oR oRh oRm oB oBw oS oSs oF oFr oFs oFc oFw xpi gs0 ga0 gs1 ga1 gs2 ga2 qln qwy ijn rsz rhi rmi bsz bfi bla bar bwi srim sst fw fc fwh fbo fra fst fco fro) H) : va_P D vwCl (wdG cI cJ (s3 i oG0 oG1 oG2) (s3 i oGa0 oGa1 oGa2) oS oSs oF oFr oFs oFc oFw (s3 i gs0 gs1 gs2) (s3 i ga0 ga1 ga2) srim sst fw fc fwh fbo fra fst fco fro) H := by
  rcases ib3 g with e | e | e <;> subst e
  · exact hP.sub [3, 4, 17, 18, 19, 20, 21, 22, 23] rfl
  · exact hP.sub [5, 6, 17, 18, 19, 20, 21, 22, 23] rfl
  · exact hP.sub [7, 8, 17, 18, 19, 20, 21, 22, 23] rfl
