def wrA (D : va_G) (av : List Value) (ws : va_W) (tys : List (ClassId × FieldType)) (sz : Nat) : Array Value → State → Prop := va_Pc av (fun U => U.heap.size = sz ∧ va_P D vwCl ws U.heap ∧ va_K D vwCl tys U ∧ va_D (fun _ => True) ws ∧ va_AO "WornShapes$Program" U)
theorem wrA_bl {D : va_G} {av : List Value} {ws : va_W} {tys : List (ClassId × FieldType)} {sz : Nat} : FrameBlind (wrA D av ws tys sz) := fun a U g mk q => ⟨q.1, q.2.1, q.2.2.1, va_K.moved (u := U) (U := U.calling g mk a) (Vm.Alike.refl U.vm) q.2.2.2.1, q.2.2.2.2.1, va_AO.moved (u := U) (U := U.calling g mk a) (Vm.Alike.refl U.vm) q.2.2.2.2.2⟩
theorem wrA_ok {D : va_G} {av : List Value} {ws : va_W} {tys : List (ClassId × FieldType)} {s : State} {H : Heap} {A : Nat → Prop} (hP : va_P D vwCl ws H) (hK : va_K D vwCl tys s) (hD : va_D A ws) (hAO : va_AO "WornShapes$Program" s) : ∀ U : State, U.heap = H → s.WarmedH U.vm → wrA D av ws tys H.size av.toArray U := fun U hU hW => ⟨rfl, by rw [hU], by rw [hU]; exact hP, va_K.moved hW.alike hK, hD.weaken (fun _ _ _ _ => trivial), va_AO.moved hW.alike hAO⟩
theorem p3_0 {i : Int32} {a b c : Nat} (h : i = 0) : va_rf (va_p3 a b c i.toNatClampNeg) = .ref a := by subst h; rfl
theorem p3_1 {i : Int32} {a b c : Nat} (h : i = 1) : va_rf (va_p3 a b c i.toNatClampNeg) = .ref b := by subst h; rfl
theorem p3_2 {i : Int32} {a b c : Nat} (g : ib i 3) (h0 : ¬ i = 0) (h1 : ¬ i = 1) : va_rf (va_p3 a b c i.toNatClampNeg) = .ref c := by
  rcases ib3 g with e | e | e
  · exact absurd e h0
  · exact absurd e h1
  · subst e; rfl
theorem up3 (a b c : Nat) : va_up (va_up (va_up (fun _ => none) (0 : Int32).toNatClampNeg (some a)) (1 : Int32).toNatClampNeg (some b)) (2 : Int32).toNatClampNeg (some c) = va_p3 a b c := by
  funext j
  show (if j = 2 then some c else if j = 1 then some b else if j = 0 then some a else none) = _
  by_cases h0 : j = 0
  · subst h0; rfl
  · by_cases h1 : j = 1
    · subst h1; rfl
    · by_cases h2 : j = 2
      · subst h2; rfl
      · simp [va_p3, h0, h1, h2]
theorem qw_589 : Cond.methodLink RX7 139 yX4_append ∈ tw := tw_of (by decide +kernel) rfl
theorem qw_590 : Cond.fieldLink RX7 142 "WornShapes$Program" "size" "I" ∈ tw := tw_of (by decide +kernel) rfl
theorem qw_591 : Cond.instanceMethod yX7_add ∈ tw := tw_of (by decide +kernel) rfl
theorem qw_592 : Cond.selects RX7 yX7_add yX7_add ∈ tw := tw_of (by decide +kernel) rfl
theorem qw_593 : Cond.code yX7_add cX7_add 3 (some .int) ∈ tw := tw_of (by decide +kernel) rfl
theorem qw_594 : Cond.instanceMethod yX7_clear ∈ tw := tw_of (by decide +kernel) rfl
theorem qw_595 : Cond.selects RX7 yX7_clear yX7_clear ∈ tw := tw_of (by decide +kernel) rfl
theorem qw_596 : Cond.code yX7_clear cX7_clear 3 (some .int) ∈ tw := tw_of (by decide +kernel) rfl
section
variable {A : Nat → Prop} {p : Program} {l : Launch} {e : Env} {R : Room} {s : State} {m : MethodId} {args : Array Value} {below : List Frame} {meth : Method} {c : Code} {H : Heap} {locs : List Loc} {cells slots : Nat} {Q : State → Prop} {D : va_G} {oF : Nat} {oFr : Nat} {oFs : Nat} {oFc : Nat} {oFw : Nat} {oS : Nat} {oSs : Nat} {oG : Nat} {oGa : Nat} {oQ : Nat} {oQw : Nat} {oI : Nat} {oR : Nat} {oRh : Nat} {oRm : Nat} {oB : Nat} {oBw : Nat} {oX : Nat} {oXp : Nat} {oXg : Nat} {oG0 : Nat} {oGa0 : Nat} {oG1 : Nat} {oGa1 : Nat} {oG2 : Nat} {oGa2 : Nat} {oM : Nat} {oM1 : Nat} {oM2 : Nat} {oM3 : Nat} {oM4 : Nat} {oM5 : Nat} {oM6 : Nat} {oM7 : Nat} {oM8 : Nat} {oM9 : Nat} {oM10 : Nat} {oM11 : Nat} {tS : Nat} {tA : Nat} {cI : ClassId} {cJ : ClassId} {cG : ClassId} {fw : Int32} {fc : Int32} {fwh : Int64} {fbo : Int64} {fra : Nat → Int32} {fco : Nat → Int32} {fro : Nat → Int32} {fst : Nat → Int64} {srim : Int32} {sst : Nat → Int32} {gsz : Int32} {gac : Nat → Int32} {qln : Int32} {qwy : Nat → Int32} {ijn : Int32} {rsz : Int32} {rhi : Nat → Int32} {rmi : Nat → Int32} {bsz : Int32} {bfi : Int32} {bla : Int32} {bar : Int32} {bwi : Nat → Int64} {xpi : Nat → Int64} {gs0 : Int32} {gs1 : Int32} {gs2 : Int32} {ga0 : Nat → Int32} {ga1 : Nat → Int32} {ga2 : Nat → Int32} {mw : Int32} {mt : Int32} {mrim : Int32} {mjn : Int32} {mhm : Int32} {mpn : Int32} {mbm : Int32} {mgm : Int32} {mpi : Nat → Int64} {mbe : Nat → Int64} {mgr : Nat → Int64} {mle : Nat → Int64} {mst : Nat → Int32} {mam : Nat → Int32} {mac : Nat → Int32} {mro : Nat → Int32} {mhi : Nat → Int32} {mmi : Nat → Int32} {mtr : Nat → Int32}
-- X7_add
def mX7_add (gs0 : Int32) (ga0 : Nat → Int32) (gs1 : Int32) (ga1 : Nat → Int32) (gs2 : Int32) (ga2 : Nat → Int32) (a1 : Int32) (a2 : Int32) : Option (Int32 × (Int32) × (Nat → Int32) × (Int32) × (Nat → Int32) × (Int32) × (Nat → Int32)) :=
  (if (mX7_isProgram a1) = 0 then (some ((-1 : Int32), gs0, ga0, gs1, ga1, gs2, ga2)) else (if (mX6_isAct a2) = 0 then (some ((-2 : Int32), gs0, ga0, gs1, ga1, gs2, ga2)) else gd (ib a1 3) ((if a1 = (0 : Int32) then jb3 (mX4_append gs0 ga0 a2) (fun (r10 : Int32) (y11 : Int32) (y12 : Nat → Int32) => (if r10 = 0 then (some ((-4 : Int32), y11, y12, gs1, ga1, gs2, ga2)) else gd (ib a1 3) ((some ((s3 a1 y11 gs1 gs2), y11, y12, gs1, ga1, gs2, ga2))))) else (if a1 = (1 : Int32) then jb3 (mX4_append gs1 ga1 a2) (fun (r17 : Int32) (y18 : Int32) (y19 : Nat → Int32) => (if r17 = 0 then (some ((-4 : Int32), gs0, ga0, y18, y19, gs2, ga2)) else gd (ib a1 3) ((some ((s3 a1 gs0 y18 gs2), gs0, ga0, y18, y19, gs2, ga2))))) else jb3 (mX4_append gs2 ga2 a2) (fun (r24 : Int32) (y25 : Int32) (y26 : Nat → Int32) => (if r24 = 0 then (some ((-4 : Int32), gs0, ga0, gs1, ga1, y25, y26)) else gd (ib a1 3) ((some ((s3 a1 gs0 gs1 y25), gs0, ga0, gs1, ga1, y25, y26))))))))))
theorem dX7_add_0 : decode cX7_add 0 = .ok (.iload_n 1, 1) := by decide +kernel
theorem dX7_add_1 : decode cX7_add 1 = .ok (.invokestatic 136, 3) := by decide +kernel
theorem dX7_add_4 : decode cX7_add 4 = .ok (.ifCond .ne 5, 3) := by decide +kernel
theorem dX7_add_7 : decode cX7_add 7 = .ok (.iconst (-1), 1) := by decide +kernel
theorem dX7_add_8 : decode cX7_add 8 = .ok (.ireturn, 1) := by decide +kernel
theorem dX7_add_9 : decode cX7_add 9 = .ok (.iload_n 2, 1) := by decide +kernel
theorem dX7_add_10 : decode cX7_add 10 = .ok (.invokestatic 129, 3) := by decide +kernel
theorem dX7_add_13 : decode cX7_add 13 = .ok (.ifCond .ne 6, 3) := by decide +kernel
theorem dX7_add_16 : decode cX7_add 16 = .ok (.bipush (-2), 2) := by decide +kernel
theorem dX7_add_18 : decode cX7_add 18 = .ok (.ireturn, 1) := by decide +kernel
theorem dX7_add_19 : decode cX7_add 19 = .ok (.aload_n 0, 1) := by decide +kernel
theorem dX7_add_20 : decode cX7_add 20 = .ok (.getfield 33, 3) := by decide +kernel
theorem dX7_add_23 : decode cX7_add 23 = .ok (.iload_n 1, 1) := by decide +kernel
theorem dX7_add_24 : decode cX7_add 24 = .ok (.aaload, 1) := by decide +kernel
theorem dX7_add_25 : decode cX7_add 25 = .ok (.iload_n 2, 1) := by decide +kernel
theorem dX7_add_26 : decode cX7_add 26 = .ok (.invokevirtual 139, 3) := by decide +kernel
theorem dX7_add_29 : decode cX7_add 29 = .ok (.ifCond .eq 15, 3) := by decide +kernel
theorem dX7_add_32 : decode cX7_add 32 = .ok (.aload_n 0, 1) := by decide +kernel
theorem dX7_add_33 : decode cX7_add 33 = .ok (.getfield 33, 3) := by decide +kernel
theorem dX7_add_36 : decode cX7_add 36 = .ok (.iload_n 1, 1) := by decide +kernel
theorem dX7_add_37 : decode cX7_add 37 = .ok (.aaload, 1) := by decide +kernel
theorem dX7_add_38 : decode cX7_add 38 = .ok (.getfield 142, 3) := by decide +kernel
theorem dX7_add_41 : decode cX7_add 41 = .ok (.goto 5, 3) := by decide +kernel
theorem dX7_add_44 : decode cX7_add 44 = .ok (.bipush (-4), 2) := by decide +kernel
theorem dX7_add_46 : decode cX7_add 46 = .ok (.ireturn, 1) := by decide +kernel
set_option maxHeartbeats 4000000 in
set_option maxRecDepth 100000 in
theorem bX7_add {a1 : Int32} {a2 : Int32} {r : Int32} {y_gs0 : (Int32)} {y_ga0 : (Nat → Int32)} {y_gs1 : (Int32)} {y_ga1 : (Nat → Int32)} {y_gs2 : (Int32)} {y_ga2 : (Nat → Int32)} (hx : p.tables.exec = Jvm.exec) (hb : c.code = cX7_add) (hml : c.maxLocals = 3) (hown : s.vm.findClass RX7 = some m.cls) (hts : ∀ w ∈ tw, w.before args s = true) (hK : va_K D vwCl [(cI, .int), (cJ, .long), (cG, .object "WornShapes$Program")] s) (hA : ∀ q, s.heap.size ≤ q → A q) (hR : 2 ≤ R.frames ∧ 40 ≤ R.locals ∧ cells ≤ R.cells ∧ slots ≤ R.slots) (hm : mX7_add gs0 ga0 gs1 ga1 gs2 ga2 a1 a2 = some (r, y_gs0, y_ga0, y_gs1, y_ga1, y_gs2, y_ga2)) (ls : Array Slot) (hl : lv_has ls 3 [(0, .ref oX), (1, .int a1), (2, .int a2)]) (hP : va_P D vwCl (wdX cJ cG cI oX oXp oXg oG0 oGa0 oG1 oGa1 oG2 oGa2 oQ oQw oI oR oRh oRm oB oBw oS oSs oF oFr oFs oFc oFw xpi gs0 ga0 gs1 ga1 gs2 ga2 qln qwy ijn rsz rhi rmi bsz bfi bla bar bwi srim sst fw fc fwh fbo fra fst fco fro) H) (hD : va_D A (wdX cJ cG cI oX oXp oXg oG0 oGa0 oG1 oGa1 oG2 oGa2 oQ oQw oI oR oRh oRm oB oBw oS oSs oF oFr oFs oFc oFw xpi gs0 ga0 gs1 ga1 gs2 ga2 qln qwy ijn rsz rhi rmi bsz bfi bla bar bwi srim sst fw fc fwh fbo fra fst fco fro)) (hS : va_S A s.heap H locs) (K : ∀ (pc : Nat) (ls : Array Slot) (H : Heap) (locs : List Loc), decode cX7_add pc = .ok (.ireturn, 1) → va_P D vwCl (wdX cJ cG cI oX oXp oXg oG0 oGa0 oG1 oGa1 oG2 oGa2 oQ oQw oI oR oRh oRm oB oBw oS oSs oF oFr oFs oFc oFw xpi y_gs0 y_ga0 y_gs1 y_ga1 y_gs2 y_ga2 qln qwy ijn rsz rhi rmi bsz bfi bla bar bwi srim sst fw fc fwh fbo fra fst fco fro) H → va_D A (wdX cJ cG cI oX oXp oXg oG0 oGa0 oG1 oGa1 oG2 oGa2 oQ oQw oI oR oRh oRm oB oBw oS oSs oF oFr oFs oFc oFw xpi y_gs0 y_ga0 y_gs1 y_ga1 y_gs2 y_ga2 qln qwy ijn rsz rhi rmi bsz bfi bla bar bwi srim sst fw fc fwh fbo fra fst fco fro) → va_S A s.heap H locs → W p l e R s m args below meth c H locs cells slots Q (F0 m pc ls [.int r])) : W p l e R s m args below meth c H locs cells slots Q (F0 m 0 ls []) := by
  unfold mX7_add at hm
  refine lv_iload_n hx hb dX7_add_0 rfl (lv_at hl 1 rfl) ?_
  refine kX7_isProgram ⟨hx, hb, hml, hown, hts⟩ qw_318 hl.1 ⟨Nat.le_trans (by decide) hR.1, Nat.le_trans (by decide) hR.2.1, hR.2.2⟩ (Nat.le_of_ble_eq_true rfl) dX7_add_1 ?_
  refine lv_if_ne (tgt := 9) hx hb dX7_add_4 (by decide) (fun c2 => ?_) (fun c2 => ?_)
  · rw [if_neg c2] at hm
    refine lv_iload_n hx hb dX7_add_9 rfl (lv_at hl 2 rfl) ?_
    refine kX6_isAct ⟨hx, hb, hml, hown, hts⟩ qw_311 hl.1 ⟨Nat.le_trans (by decide) hR.1, Nat.le_trans (by decide) hR.2.1, hR.2.2⟩ (Nat.le_of_ble_eq_true rfl) dX7_add_10 ?_
    refine lv_if_ne (tgt := 19) hx hb dX7_add_13 (by decide) (fun c4 => ?_) (fun c4 => ?_)
    · rw [if_neg c4] at hm
      refine lv_aload_n hx hb dX7_add_19 rfl (lv_at hl 0 rfl) ?_
      refine va_get (D := D) (ci := 7) (v := .ref oXg) (C := RX7) (T := TX7) (N := 8) hx hb hts tnX7 hown hK hP 0 rfl rfl 3 (by decide) (hts _ qw_320) (fun _ h9 => h9) rfl dX7_add_20 ?_
      refine lv_iload_n hx hb dX7_add_23 rfl (lv_at hl 1 rfl) ?_
      obtain ⟨g5, hm⟩ := gd_out hm
      refine va_aldq hx hb hK hP 2 2 rfl rfl g5 dX7_add_24 ?_
      by_cases c6 : a1 = (0 : Int32)
      · rw [if_pos c6] at hm
        rw [p3_0 c6]
        refine lv_iload_n hx hb dX7_add_25 rfl (lv_at hl 2 rfl) ?_
        obtain ⟨r10, y11, y12, h9, hm⟩ := jb_out3 hm
        refine kX4_append (ws := (wdX cJ cG cI oX oXp oXg oG0 oGa0 oG1 oGa1 oG2 oGa2 oQ oQw oI oR oRh oRm oB oBw oS oSs oF oFr oFs oFc oFw xpi gs0 ga0 gs1 ga1 gs2 ga2 qln qwy ijn rsz rhi rmi bsz bfi bla bar bwi srim sst fw fc fwh fbo fra fst fco fro)) (wr := [(oX, .inr (7, [.ref oF, .ref oXp, .ref oS, .ref oXg, .ref oQ, .ref oI, .ref oR, .ref oB])), (oXp, .inl (cJ, 5, .inr (.inl xpi))), (oXg, .inl (cG, 3, .inr (.inr (.inr (.inr (va_p3 oG0 oG1 oG2)))))), (oG1, .inr (4, [.ref oS, .ref oGa1, .int gs1])), (oGa1, .inl (cI, 8, .inl ga1)), (oG2, .inr (4, [.ref oS, .ref oGa2, .int gs2])), (oGa2, .inl (cI, 8, .inl ga2)), (oQ, .inr (5, [.ref oS, .ref oQw, .int qln])), (oQw, .inl (cI, 4, .inl qwy)), (oI, .inr (3, [.ref oF, .int ijn])), (oR, .inr (2, [.ref oF, .ref oS, .ref oRh, .ref oRm, .int rsz])), (oRh, .inl (cI, 8, .inl rhi)), (oRm, .inl (cI, 8, .inl rmi)), (oB, .inr (0, [.ref oF, .ref oBw, .int bsz, .int bfi, .int bla, .int bar])), (oBw, .inl (cJ, 210, .inr (.inl bwi)))]) ⟨hx, hb, hml, hown, hts⟩ qw_589 [3, 4, 17, 18, 19, 20, 21, 22, 23] [0, 1, 2, 5, 6, 7, 8, 9, 10, 11, 12, 13, 14, 15, 16] rfl rfl (by decide) (by decide) (by decide) (hK.sub (tys' := [(cI, .int), (cJ, .long)]) [0, 1] rfl) h9 hl.1 ⟨Nat.le_trans (by decide) hR.1, Nat.le_trans (by decide) hR.2.1, hR.2.2⟩ (Nat.le_of_ble_eq_true rfl) dX7_add_26 hP hD hS hA (fun H locs hP hD hS => ?_)
        have hP : va_P D vwCl (wdX cJ cG cI oX oXp oXg oG0 oGa0 oG1 oGa1 oG2 oGa2 oQ oQw oI oR oRh oRm oB oBw oS oSs oF oFr oFs oFc oFw xpi y11 y12 gs1 ga1 gs2 ga2 qln qwy ijn rsz rhi rmi bsz bfi bla bar bwi srim sst fw fc fwh fbo fra fst fco fro) H := hP.sub [0, 1, 2, 15, 16, 3, 4, 5, 6, 7, 8, 9, 10, 11, 12, 13, 14, 17, 18, 19, 20, 21, 22, 23] rfl
        have hD : va_D A (wdX cJ cG cI oX oXp oXg oG0 oGa0 oG1 oGa1 oG2 oGa2 oQ oQw oI oR oRh oRm oB oBw oS oSs oF oFr oFs oFc oFw xpi y11 y12 gs1 ga1 gs2 ga2 qln qwy ijn rsz rhi rmi bsz bfi bla bar bwi srim sst fw fc fwh fbo fra fst fco fro) := hD.sub [0, 1, 2, 15, 16, 3, 4, 5, 6, 7, 8, 9, 10, 11, 12, 13, 14, 17, 18, 19, 20, 21, 22, 23] (by decide) rfl
        refine lv_if_eq (tgt := 44) hx hb dX7_add_29 (by decide) (fun c13 => ?_) (fun c13 => ?_)
        · rw [if_pos c13] at hm
          refine lv_bipush (v := (-4 : Int32)) hx hb dX7_add_44 (by decide) ?_
          have hm := Option.some.inj hm
          have e9 : r = (-4 : Int32) := (congrArg (fun q => q.1) hm).symm
          rw [e9] at K
          have e9 : y_gs0 = y11 := (congrArg (fun q => q.2.1) hm).symm
          rw [e9] at K
          have e9 : y_ga0 = y12 := (congrArg (fun q => q.2.2.1) hm).symm
          rw [e9] at K
          have e9 : y_gs1 = gs1 := (congrArg (fun q => q.2.2.2.1) hm).symm
          rw [e9] at K
          have e9 : y_ga1 = ga1 := (congrArg (fun q => q.2.2.2.2.1) hm).symm
          rw [e9] at K
          have e9 : y_gs2 = gs2 := (congrArg (fun q => q.2.2.2.2.2.1) hm).symm
          rw [e9] at K
          have e9 : y_ga2 = ga2 := (congrArg (fun q => q.2.2.2.2.2.2) hm).symm
          rw [e9] at K
          exact K 46 ls _ _ dX7_add_46 hP hD hS
        · rw [if_neg c13] at hm
          refine lv_aload_n hx hb dX7_add_32 rfl (lv_at hl 0 rfl) ?_
          refine va_get (D := D) (ci := 7) (v := .ref oXg) (C := RX7) (T := TX7) (N := 8) hx hb hts tnX7 hown hK hP 0 rfl rfl 3 (by decide) (hts _ qw_320) (fun _ h9 => h9) rfl dX7_add_33 ?_
          refine lv_iload_n hx hb dX7_add_36 rfl (lv_at hl 1 rfl) ?_
          obtain ⟨g14, hm⟩ := gd_out hm
          refine va_aldq hx hb hK hP 2 2 rfl rfl g14 dX7_add_37 ?_
          rw [p3_s3 g14]
          refine va_get (D := D) (ci := 4) (v := .int (s3 a1 y11 gs1 gs2)) (C := RX4) (T := TX4) (N := 3) hx hb hts tnX4 hown (hK.sub (tys' := [(cI, .int), (cJ, .long)]) [0, 1] rfl) (pick3 g14 hP) 0 rfl rfl 2 (by decide) (hts _ qw_590) (fun _ h9 => h9) rfl dX7_add_38 ?_
          refine lv_goto (tgt := 46) hx hb dX7_add_41 (by decide) ?_
          have hm := Option.some.inj hm
          have e9 : r = (s3 a1 y11 gs1 gs2) := (congrArg (fun q => q.1) hm).symm
          rw [e9] at K
          have e9 : y_gs0 = y11 := (congrArg (fun q => q.2.1) hm).symm
          rw [e9] at K
          have e9 : y_ga0 = y12 := (congrArg (fun q => q.2.2.1) hm).symm
          rw [e9] at K
          have e9 : y_gs1 = gs1 := (congrArg (fun q => q.2.2.2.1) hm).symm
          rw [e9] at K
          have e9 : y_ga1 = ga1 := (congrArg (fun q => q.2.2.2.2.1) hm).symm
          rw [e9] at K
          have e9 : y_gs2 = gs2 := (congrArg (fun q => q.2.2.2.2.2.1) hm).symm
          rw [e9] at K
          have e9 : y_ga2 = ga2 := (congrArg (fun q => q.2.2.2.2.2.2) hm).symm
          rw [e9] at K
          exact K 46 ls _ _ dX7_add_46 hP hD hS
      rw [if_neg c6] at hm
      by_cases c7 : a1 = (1 : Int32)
      · rw [if_pos c7] at hm
        rw [p3_1 c7]
        refine lv_iload_n hx hb dX7_add_25 rfl (lv_at hl 2 rfl) ?_
        obtain ⟨r17, y18, y19, h16, hm⟩ := jb_out3 hm
        refine kX4_append (ws := (wdX cJ cG cI oX oXp oXg oG0 oGa0 oG1 oGa1 oG2 oGa2 oQ oQw oI oR oRh oRm oB oBw oS oSs oF oFr oFs oFc oFw xpi gs0 ga0 gs1 ga1 gs2 ga2 qln qwy ijn rsz rhi rmi bsz bfi bla bar bwi srim sst fw fc fwh fbo fra fst fco fro)) (wr := [(oX, .inr (7, [.ref oF, .ref oXp, .ref oS, .ref oXg, .ref oQ, .ref oI, .ref oR, .ref oB])), (oXp, .inl (cJ, 5, .inr (.inl xpi))), (oXg, .inl (cG, 3, .inr (.inr (.inr (.inr (va_p3 oG0 oG1 oG2)))))), (oG0, .inr (4, [.ref oS, .ref oGa0, .int gs0])), (oGa0, .inl (cI, 8, .inl ga0)), (oG2, .inr (4, [.ref oS, .ref oGa2, .int gs2])), (oGa2, .inl (cI, 8, .inl ga2)), (oQ, .inr (5, [.ref oS, .ref oQw, .int qln])), (oQw, .inl (cI, 4, .inl qwy)), (oI, .inr (3, [.ref oF, .int ijn])), (oR, .inr (2, [.ref oF, .ref oS, .ref oRh, .ref oRm, .int rsz])), (oRh, .inl (cI, 8, .inl rhi)), (oRm, .inl (cI, 8, .inl rmi)), (oB, .inr (0, [.ref oF, .ref oBw, .int bsz, .int bfi, .int bla, .int bar])), (oBw, .inl (cJ, 210, .inr (.inl bwi)))]) ⟨hx, hb, hml, hown, hts⟩ qw_589 [5, 6, 17, 18, 19, 20, 21, 22, 23] [0, 1, 2, 3, 4, 7, 8, 9, 10, 11, 12, 13, 14, 15, 16] rfl rfl (by decide) (by decide) (by decide) (hK.sub (tys' := [(cI, .int), (cJ, .long)]) [0, 1] rfl) h16 hl.1 ⟨Nat.le_trans (by decide) hR.1, Nat.le_trans (by decide) hR.2.1, hR.2.2⟩ (Nat.le_of_ble_eq_true rfl) dX7_add_26 hP hD hS hA (fun H locs hP hD hS => ?_)
        have hP : va_P D vwCl (wdX cJ cG cI oX oXp oXg oG0 oGa0 oG1 oGa1 oG2 oGa2 oQ oQw oI oR oRh oRm oB oBw oS oSs oF oFr oFs oFc oFw xpi gs0 ga0 y18 y19 gs2 ga2 qln qwy ijn rsz rhi rmi bsz bfi bla bar bwi srim sst fw fc fwh fbo fra fst fco fro) H := hP.sub [0, 1, 2, 3, 4, 15, 16, 5, 6, 7, 8, 9, 10, 11, 12, 13, 14, 17, 18, 19, 20, 21, 22, 23] rfl
        have hD : va_D A (wdX cJ cG cI oX oXp oXg oG0 oGa0 oG1 oGa1 oG2 oGa2 oQ oQw oI oR oRh oRm oB oBw oS oSs oF oFr oFs oFc oFw xpi gs0 ga0 y18 y19 gs2 ga2 qln qwy ijn rsz rhi rmi bsz bfi bla bar bwi srim sst fw fc fwh fbo fra fst fco fro) := hD.sub [0, 1, 2, 3, 4, 15, 16, 5, 6, 7, 8, 9, 10, 11, 12, 13, 14, 17, 18, 19, 20, 21, 22, 23] (by decide) rfl
        refine lv_if_eq (tgt := 44) hx hb dX7_add_29 (by decide) (fun c20 => ?_) (fun c20 => ?_)
        · rw [if_pos c20] at hm
          refine lv_bipush (v := (-4 : Int32)) hx hb dX7_add_44 (by decide) ?_
          have hm := Option.some.inj hm
          have e9 : r = (-4 : Int32) := (congrArg (fun q => q.1) hm).symm
          rw [e9] at K
          have e9 : y_gs0 = gs0 := (congrArg (fun q => q.2.1) hm).symm
          rw [e9] at K
          have e9 : y_ga0 = ga0 := (congrArg (fun q => q.2.2.1) hm).symm
          rw [e9] at K
          have e9 : y_gs1 = y18 := (congrArg (fun q => q.2.2.2.1) hm).symm
          rw [e9] at K
          have e9 : y_ga1 = y19 := (congrArg (fun q => q.2.2.2.2.1) hm).symm
          rw [e9] at K
          have e9 : y_gs2 = gs2 := (congrArg (fun q => q.2.2.2.2.2.1) hm).symm
          rw [e9] at K
          have e9 : y_ga2 = ga2 := (congrArg (fun q => q.2.2.2.2.2.2) hm).symm
          rw [e9] at K
          exact K 46 ls _ _ dX7_add_46 hP hD hS
        · rw [if_neg c20] at hm
          refine lv_aload_n hx hb dX7_add_32 rfl (lv_at hl 0 rfl) ?_
          refine va_get (D := D) (ci := 7) (v := .ref oXg) (C := RX7) (T := TX7) (N := 8) hx hb hts tnX7 hown hK hP 0 rfl rfl 3 (by decide) (hts _ qw_320) (fun _ h9 => h9) rfl dX7_add_33 ?_
          refine lv_iload_n hx hb dX7_add_36 rfl (lv_at hl 1 rfl) ?_
          obtain ⟨g21, hm⟩ := gd_out hm
          refine va_aldq hx hb hK hP 2 2 rfl rfl g21 dX7_add_37 ?_
          rw [p3_s3 g21]
          refine va_get (D := D) (ci := 4) (v := .int (s3 a1 gs0 y18 gs2)) (C := RX4) (T := TX4) (N := 3) hx hb hts tnX4 hown (hK.sub (tys' := [(cI, .int), (cJ, .long)]) [0, 1] rfl) (pick3 g21 hP) 0 rfl rfl 2 (by decide) (hts _ qw_590) (fun _ h9 => h9) rfl dX7_add_38 ?_
          refine lv_goto (tgt := 46) hx hb dX7_add_41 (by decide) ?_
          have hm := Option.some.inj hm
          have e9 : r = (s3 a1 gs0 y18 gs2) := (congrArg (fun q => q.1) hm).symm
          rw [e9] at K
          have e9 : y_gs0 = gs0 := (congrArg (fun q => q.2.1) hm).symm
          rw [e9] at K
          have e9 : y_ga0 = ga0 := (congrArg (fun q => q.2.2.1) hm).symm
          rw [e9] at K
          have e9 : y_gs1 = y18 := (congrArg (fun q => q.2.2.2.1) hm).symm
          rw [e9] at K
          have e9 : y_ga1 = y19 := (congrArg (fun q => q.2.2.2.2.1) hm).symm
          rw [e9] at K
          have e9 : y_gs2 = gs2 := (congrArg (fun q => q.2.2.2.2.2.1) hm).symm
          rw [e9] at K
          have e9 : y_ga2 = ga2 := (congrArg (fun q => q.2.2.2.2.2.2) hm).symm
          rw [e9] at K
          exact K 46 ls _ _ dX7_add_46 hP hD hS
      rw [if_neg c7] at hm
      rw [p3_2 g5 c6 c7]
      refine lv_iload_n hx hb dX7_add_25 rfl (lv_at hl 2 rfl) ?_
      obtain ⟨r24, y25, y26, h23, hm⟩ := jb_out3 hm
      refine kX4_append (ws := (wdX cJ cG cI oX oXp oXg oG0 oGa0 oG1 oGa1 oG2 oGa2 oQ oQw oI oR oRh oRm oB oBw oS oSs oF oFr oFs oFc oFw xpi gs0 ga0 gs1 ga1 gs2 ga2 qln qwy ijn rsz rhi rmi bsz bfi bla bar bwi srim sst fw fc fwh fbo fra fst fco fro)) (wr := [(oX, .inr (7, [.ref oF, .ref oXp, .ref oS, .ref oXg, .ref oQ, .ref oI, .ref oR, .ref oB])), (oXp, .inl (cJ, 5, .inr (.inl xpi))), (oXg, .inl (cG, 3, .inr (.inr (.inr (.inr (va_p3 oG0 oG1 oG2)))))), (oG0, .inr (4, [.ref oS, .ref oGa0, .int gs0])), (oGa0, .inl (cI, 8, .inl ga0)), (oG1, .inr (4, [.ref oS, .ref oGa1, .int gs1])), (oGa1, .inl (cI, 8, .inl ga1)), (oQ, .inr (5, [.ref oS, .ref oQw, .int qln])), (oQw, .inl (cI, 4, .inl qwy)), (oI, .inr (3, [.ref oF, .int ijn])), (oR, .inr (2, [.ref oF, .ref oS, .ref oRh, .ref oRm, .int rsz])), (oRh, .inl (cI, 8, .inl rhi)), (oRm, .inl (cI, 8, .inl rmi)), (oB, .inr (0, [.ref oF, .ref oBw, .int bsz, .int bfi, .int bla, .int bar])), (oBw, .inl (cJ, 210, .inr (.inl bwi)))]) ⟨hx, hb, hml, hown, hts⟩ qw_589 [7, 8, 17, 18, 19, 20, 21, 22, 23] [0, 1, 2, 3, 4, 5, 6, 9, 10, 11, 12, 13, 14, 15, 16] rfl rfl (by decide) (by decide) (by decide) (hK.sub (tys' := [(cI, .int), (cJ, .long)]) [0, 1] rfl) h23 hl.1 ⟨Nat.le_trans (by decide) hR.1, Nat.le_trans (by decide) hR.2.1, hR.2.2⟩ (Nat.le_of_ble_eq_true rfl) dX7_add_26 hP hD hS hA (fun H locs hP hD hS => ?_)
      have hP : va_P D vwCl (wdX cJ cG cI oX oXp oXg oG0 oGa0 oG1 oGa1 oG2 oGa2 oQ oQw oI oR oRh oRm oB oBw oS oSs oF oFr oFs oFc oFw xpi gs0 ga0 gs1 ga1 y25 y26 qln qwy ijn rsz rhi rmi bsz bfi bla bar bwi srim sst fw fc fwh fbo fra fst fco fro) H := hP.sub [0, 1, 2, 3, 4, 5, 6, 15, 16, 7, 8, 9, 10, 11, 12, 13, 14, 17, 18, 19, 20, 21, 22, 23] rfl
      have hD : va_D A (wdX cJ cG cI oX oXp oXg oG0 oGa0 oG1 oGa1 oG2 oGa2 oQ oQw oI oR oRh oRm oB oBw oS oSs oF oFr oFs oFc oFw xpi gs0 ga0 gs1 ga1 y25 y26 qln qwy ijn rsz rhi rmi bsz bfi bla bar bwi srim sst fw fc fwh fbo fra fst fco fro) := hD.sub [0, 1, 2, 3, 4, 5, 6, 15, 16, 7, 8, 9, 10, 11, 12, 13, 14, 17, 18, 19, 20, 21, 22, 23] (by decide) rfl
      refine lv_if_eq (tgt := 44) hx hb dX7_add_29 (by decide) (fun c27 => ?_) (fun c27 => ?_)
      · rw [if_pos c27] at hm
        refine lv_bipush (v := (-4 : Int32)) hx hb dX7_add_44 (by decide) ?_
        have hm := Option.some.inj hm
        have e9 : r = (-4 : Int32) := (congrArg (fun q => q.1) hm).symm
        rw [e9] at K
        have e9 : y_gs0 = gs0 := (congrArg (fun q => q.2.1) hm).symm
        rw [e9] at K
        have e9 : y_ga0 = ga0 := (congrArg (fun q => q.2.2.1) hm).symm
        rw [e9] at K
        have e9 : y_gs1 = gs1 := (congrArg (fun q => q.2.2.2.1) hm).symm
        rw [e9] at K
        have e9 : y_ga1 = ga1 := (congrArg (fun q => q.2.2.2.2.1) hm).symm
        rw [e9] at K
        have e9 : y_gs2 = y25 := (congrArg (fun q => q.2.2.2.2.2.1) hm).symm
        rw [e9] at K
        have e9 : y_ga2 = y26 := (congrArg (fun q => q.2.2.2.2.2.2) hm).symm
        rw [e9] at K
        exact K 46 ls _ _ dX7_add_46 hP hD hS
      · rw [if_neg c27] at hm
        refine lv_aload_n hx hb dX7_add_32 rfl (lv_at hl 0 rfl) ?_
        refine va_get (D := D) (ci := 7) (v := .ref oXg) (C := RX7) (T := TX7) (N := 8) hx hb hts tnX7 hown hK hP 0 rfl rfl 3 (by decide) (hts _ qw_320) (fun _ h9 => h9) rfl dX7_add_33 ?_
        refine lv_iload_n hx hb dX7_add_36 rfl (lv_at hl 1 rfl) ?_
        obtain ⟨g28, hm⟩ := gd_out hm
        refine va_aldq hx hb hK hP 2 2 rfl rfl g28 dX7_add_37 ?_
        rw [p3_s3 g28]
        refine va_get (D := D) (ci := 4) (v := .int (s3 a1 gs0 gs1 y25)) (C := RX4) (T := TX4) (N := 3) hx hb hts tnX4 hown (hK.sub (tys' := [(cI, .int), (cJ, .long)]) [0, 1] rfl) (pick3 g28 hP) 0 rfl rfl 2 (by decide) (hts _ qw_590) (fun _ h9 => h9) rfl dX7_add_38 ?_
        refine lv_goto (tgt := 46) hx hb dX7_add_41 (by decide) ?_
        have hm := Option.some.inj hm
        have e9 : r = (s3 a1 gs0 gs1 y25) := (congrArg (fun q => q.1) hm).symm
        rw [e9] at K
        have e9 : y_gs0 = gs0 := (congrArg (fun q => q.2.1) hm).symm
        rw [e9] at K
        have e9 : y_ga0 = ga0 := (congrArg (fun q => q.2.2.1) hm).symm
        rw [e9] at K
        have e9 : y_gs1 = gs1 := (congrArg (fun q => q.2.2.2.1) hm).symm
        rw [e9] at K
        have e9 : y_ga1 = ga1 := (congrArg (fun q => q.2.2.2.2.1) hm).symm
        rw [e9] at K
        have e9 : y_gs2 = y25 := (congrArg (fun q => q.2.2.2.2.2.1) hm).symm
        rw [e9] at K
        have e9 : y_ga2 = y26 := (congrArg (fun q => q.2.2.2.2.2.2) hm).symm
        rw [e9] at K
        exact K 46 ls _ _ dX7_add_46 hP hD hS
    · rw [if_pos c4] at hm
      refine lv_bipush (v := (-2 : Int32)) hx hb dX7_add_16 (by decide) ?_
      have hm := Option.some.inj hm
      have e9 : r = (-2 : Int32) := (congrArg (fun q => q.1) hm).symm
      rw [e9] at K
      have e9 : y_gs0 = gs0 := (congrArg (fun q => q.2.1) hm).symm
      rw [e9] at K
      have e9 : y_ga0 = ga0 := (congrArg (fun q => q.2.2.1) hm).symm
      rw [e9] at K
      have e9 : y_gs1 = gs1 := (congrArg (fun q => q.2.2.2.1) hm).symm
      rw [e9] at K
      have e9 : y_ga1 = ga1 := (congrArg (fun q => q.2.2.2.2.1) hm).symm
      rw [e9] at K
      have e9 : y_gs2 = gs2 := (congrArg (fun q => q.2.2.2.2.2.1) hm).symm
      rw [e9] at K
      have e9 : y_ga2 = ga2 := (congrArg (fun q => q.2.2.2.2.2.2) hm).symm
      rw [e9] at K
      exact K 18 ls _ _ dX7_add_18 hP hD hS
  · rw [if_pos c2] at hm
    refine lv_iconst (v := (-1 : Int32)) hx hb dX7_add_7 (by decide) ?_
    have hm := Option.some.inj hm
    have e9 : r = (-1 : Int32) := (congrArg (fun q => q.1) hm).symm
    rw [e9] at K
    have e9 : y_gs0 = gs0 := (congrArg (fun q => q.2.1) hm).symm
    rw [e9] at K
    have e9 : y_ga0 = ga0 := (congrArg (fun q => q.2.2.1) hm).symm
    rw [e9] at K
    have e9 : y_gs1 = gs1 := (congrArg (fun q => q.2.2.2.1) hm).symm
    rw [e9] at K
    have e9 : y_ga1 = ga1 := (congrArg (fun q => q.2.2.2.2.1) hm).symm
    rw [e9] at K
    have e9 : y_gs2 = gs2 := (congrArg (fun q => q.2.2.2.2.2.1) hm).symm
    rw [e9] at K
    have e9 : y_ga2 = ga2 := (congrArg (fun q => q.2.2.2.2.2.2) hm).symm
    rw [e9] at K
    exact K 8 ls _ _ dX7_add_8 hP hD hS
set_option maxHeartbeats 4000000 in
set_option maxRecDepth 100000 in
theorem tX7_add (l : Launch) {D : va_G} (sz : Nat) {a1 : Int32} {a2 : Int32} {r : Int32} {y_gs0 : (Int32)} {y_ga0 : (Nat → Int32)} {y_gs1 : (Int32)} {y_ga1 : (Nat → Int32)} {y_gs2 : (Int32)} {y_ga2 : (Nat → Int32)} (hm : mX7_add gs0 ga0 gs1 ga1 gs2 ga2 a1 a2 = some (r, y_gs0, y_ga0, y_gs1, y_ga1, y_gs2, y_ga2)) : Met l yX7_add (.code yX7_add cX7_add 3 (some .int) :: tw) ({ frames := 2, cells := 0, slots := 0, locals := 40 } : Room) (wrP D [.ref oX, .int a1, .int a2] (wdX cJ cG cI oX oXp oXg oG0 oGa0 oG1 oGa1 oG2 oGa2 oQ oQw oI oR oRh oRm oB oBw oS oSs oF oFr oFs oFc oFw xpi gs0 ga0 gs1 ga1 gs2 ga2 qln qwy ijn rsz rhi rmi bsz bfi bla bar bwi srim sst fw fc fwh fbo fra fst fco fro) [(cI, .int), (cJ, .long), (cG, .object "WornShapes$Program")] sz) (va_Qi (fun q (_ : Unit) => q = r) (fun (_ : Unit) (t : State) => va_P D vwCl (wdX cJ cG cI oX oXp oXg oG0 oGa0 oG1 oGa1 oG2 oGa2 oQ oQw oI oR oRh oRm oB oBw oS oSs oF oFr oFs oFc oFw xpi y_gs0 y_ga0 y_gs1 y_ga1 y_gs2 y_ga2 qln qwy ijn rsz rhi rmi bsz bfi bla bar bwi srim sst fw fc fwh fbo fra fst fco fro) t.heap ∧ va_K D vwCl [(cI, .int), (cJ, .long), (cG, .object "WornShapes$Program")] t ∧ va_D (va_A (wdX cJ cG cI oX oXp oXg oG0 oGa0 oG1 oGa1 oG2 oGa2 oQ oQw oI oR oRh oRm oB oBw oS oSs oF oFr oFs oFc oFw xpi gs0 ga0 gs1 ga1 gs2 ga2 qln qwy ijn rsz rhi rmi bsz bfi bla bar bwi srim sst fw fc fwh fbo fra fst fco fro) sz) (wdX cJ cG cI oX oXp oXg oG0 oGa0 oG1 oGa1 oG2 oGa2 oQ oQw oI oR oRh oRm oB oBw oS oSs oF oFr oFs oFc oFw xpi y_gs0 y_ga0 y_gs1 y_ga1 y_gs2 y_ga2 qln qwy ijn rsz rhi rmi bsz bfi bla bar bwi srim sst fw fc fwh fbo fra fst fco fro)) (va_A (wdX cJ cG cI oX oXp oXg oG0 oGa0 oG1 oGa1 oG2 oGa2 oQ oQw oI oR oRh oRm oB oBw oS oSs oF oFr oFs oFc oFw xpi gs0 ga0 gs1 ga1 gs2 ga2 qln qwy ijn rsz rhi rmi bsz bfi bla bar bwi srim sst fw fc fwh fbo fra fst fco fro) sz)) 0 0 (va_A (wdX cJ cG cI oX oXp oXg oG0 oGa0 oG1 oGa1 oG2 oGa2 oQ oQw oI oR oRh oRm oB oBw oS oSs oF oFr oFs oFc oFw xpi gs0 ga0 gs1 ga1 gs2 ga2 qln qwy ijn rsz rhi rmi bsz bfi bla bar bwi srim sst fw fc fwh fbo fra fst fco fro) sz) := by
  refine Met.ofW (cc := cX7_add) (maxL := 3) (ret := (some .int)) (by decide) rfl ?_
  intro p e s m args below meth c s₁ B hml hv
  obtain ⟨rfl, hsz, hP, hK, hD0⟩ := hv
  have hx := B.exec
  have hb := B.bytes
  have hr := B.returns
  have hts : ∀ w ∈ tw, w.before _ s = true := fun w h => atoms_spec (ws := .code yX7_add cX7_add 3 (some .int) :: tw) B.pre w (List.mem_cons_of_mem _ h)
  have hown : s.vm.findClass RX7 = some m.cls := findClass_of_methodNamed B.named
  have hlocks := B.notSynchronized
  subst hsz
  have hD := hD0.self (sz := s.heap.size)
  have hl := lv_entry ([.ref oX, .int a1, .int a2]) (n := 3) (Nat.le_of_ble_eq_true rfl)
  rw [lg_entry_eq]
  generalize (lg_sl ([.ref oX, .int a1, .int a2]) ++ List.replicate (3 - (lg_sl ([.ref oX, .int a1, .int a2])).length) Slot.unset).toArray = ls at hl ⊢
  refine bX7_add hx hb hml hown hts hK (fun q h => Or.inr h) ⟨Nat.le_of_ble_eq_true rfl, Nat.le_of_ble_eq_true rfl, Nat.zero_le _, Nat.zero_le _⟩ hm ls hl hP hD va_S.rf (fun pc ls H locs hd hP hD hS => ?_)
  exact W.iret hx hb hr (fun t ht hW => ⟨⟨r, (), rfl, rfl, by rw [ht]; exact hP, va_K.moved hW.alike hK, hD⟩, hS.F ht⟩) hS.2.2 hd
set_option maxHeartbeats 4000000 in
set_option maxRecDepth 100000 in
theorem kX7_add {own : String} {cc : ByteArray} {nL idx pc : Nat} {ls : Array Slot} {rest : List Value} {ws wr : va_W} {a1 : Int32} {a2 : Int32} {r : Int32} {y_gs0 : (Int32)} {y_ga0 : (Nat → Int32)} {y_gs1 : (Int32)} {y_ga1 : (Nat → Int32)} {y_gs2 : (Int32)} {y_ga2 : (Nat → Int32)} (fx : CallFix p m c cc nL s args tw own) (hq : Cond.methodLink own idx yX7_add ∈ tw) (isC isR : List Nat) (hC : isC.map (fun i => ws[i]?) = ((wdX cJ cG cI oX oXp oXg oG0 oGa0 oG1 oGa1 oG2 oGa2 oQ oQw oI oR oRh oRm oB oBw oS oSs oF oFr oFs oFc oFw xpi gs0 ga0 gs1 ga1 gs2 ga2 qln qwy ijn rsz rhi rmi bsz bfi bla bar bwi srim sst fw fc fwh fbo fra fst fco fro) : va_W).map some) (hRr : isR.map (fun i => ws[i]?) = wr.map some) (hnC : va_nd isC = true) (hn : va_nd isR = true) (hdis : ∀ i ∈ isR, i ∉ isC) (hK : va_K D vwCl [(cI, .int), (cJ, .long), (cG, .object "WornShapes$Program")] s) (hm : mX7_add gs0 ga0 gs1 ga1 gs2 ga2 a1 a2 = some (r, y_gs0, y_ga0, y_gs1, y_ga1, y_gs2, y_ga2)) (hsz : ls.size = nL) (hR : 3 ≤ R.frames ∧ 62 ≤ R.locals ∧ cells ≤ R.cells ∧ slots ≤ R.slots) (hst : (rest.map fun v => v.category).sum ≤ 8) (hd : decode cc pc = .ok (.invokevirtual idx, 3)) (hP : va_P D vwCl ws H) (hD : va_D A ws) (hS : va_S A s.heap H locs) (hA : ∀ q, s.heap.size ≤ q → A q) (kk : ∀ (H : Heap) (locs : List Loc), va_P D vwCl (wr ++ (wdX cJ cG cI oX oXp oXg oG0 oGa0 oG1 oGa1 oG2 oGa2 oQ oQw oI oR oRh oRm oB oBw oS oSs oF oFr oFs oFc oFw xpi y_gs0 y_ga0 y_gs1 y_ga1 y_gs2 y_ga2 qln qwy ijn rsz rhi rmi bsz bfi bla bar bwi srim sst fw fc fwh fbo fra fst fco fro)) H → va_D A (wr ++ (wdX cJ cG cI oX oXp oXg oG0 oGa0 oG1 oGa1 oG2 oGa2 oQ oQw oI oR oRh oRm oB oBw oS oSs oF oFr oFs oFc oFw xpi y_gs0 y_ga0 y_gs1 y_ga1 y_gs2 y_ga2 qln qwy ijn rsz rhi rmi bsz bfi bla bar bwi srim sst fw fc fwh fbo fra fst fco fro)) → va_S A s.heap H locs → W p l e R s m args below meth c H locs cells slots Q (F0 m (pc + 3) ls (.int r :: rest))) : W p l e R s m args below meth c H locs cells slots Q (F0 m pc ls (.int a2 :: .int a1 :: .ref oX :: rest)) := by
  have hPc := va_P.subM hP isC hC
  have hDc := hD.sub isC hnC hC
  have hFc := va_free (wc := (wdX cJ cG cI oX oXp oXg oG0 oGa0 oG1 oGa1 oG2 oGa2 oQ oQw oI oR oRh oRm oB oBw oS oSs oF oFr oFs oFc oFw xpi gs0 ga0 gs1 ga1 gs2 ga2 qln qwy ijn rsz rhi rmi bsz bfi bla bar bwi srim sst fw fc fwh fbo fra fst fco fro)) hD hS hA isC hC
  refine va_calli (va_runV (As := [.int a1, .int a2]) (rest := rest) fx (tX7_add l H.size hm) (cwV 2 fx.2.2.2.2 (tw_V hq qw_591 qw_592 qw_288 qw_593) rfl rfl rfl (by decide +kernel) ⟨hR.1, hR.2.1⟩) ⟨wrP_bl, va_recv hK hPc (ci := 7) (q0 := 0) rfl rfl, wrP_ok hPc hK hDc⟩ rfl rfl hsz rfl (lv_room hst) hd ⟨hR.2.2.1, hR.2.2.2⟩) hS (fun q _ h => hFc q h) hFc (fun r9 u t H1 locs ht hvm hw hB hz1 hk1 hS => ?_)
  obtain ⟨hP1, hK1, hD1⟩ := hB
  rw [ht] at hP1
  rw [hw]
  obtain ⟨hP2, hD2⟩ := va_join (wr := wr) (w1 := (wdX cJ cG cI oX oXp oXg oG0 oGa0 oG1 oGa1 oG2 oGa2 oQ oQw oI oR oRh oRm oB oBw oS oSs oF oFr oFs oFc oFw xpi y_gs0 y_ga0 y_gs1 y_ga1 y_gs2 y_ga2 qln qwy ijn rsz rhi rmi bsz bfi bla bar bwi srim sst fw fc fwh fbo fra fst fco fro)) hP hD isC isR hC hRr hn hdis hk1 hFc hP1 hD1
  exact kk H1 locs hP2 hD2 hS
-- X7_clear
def mX7_clear (gs0 : Int32) (gs1 : Int32) (gs2 : Int32) (a1 : Int32) : Option (Int32 × (Int32) × (Int32) × (Int32)) :=
  (if (mX7_isProgram a1) = 0 then (some ((-1 : Int32), gs0, gs1, gs2)) else gd (ib a1 3) (gd (ib a1 3) ((if a1 = (0 : Int32) then (some ((s3 a1 gs0 gs1 gs2), (0 : Int32), gs1, gs2)) else (if a1 = (1 : Int32) then (some ((s3 a1 gs0 gs1 gs2), gs0, (0 : Int32), gs2)) else (some ((s3 a1 gs0 gs1 gs2), gs0, gs1, (0 : Int32))))))))
theorem dX7_clear_0 : decode cX7_clear 0 = .ok (.iload_n 1, 1) := by decide +kernel
theorem dX7_clear_1 : decode cX7_clear 1 = .ok (.invokestatic 136, 3) := by decide +kernel
theorem dX7_clear_4 : decode cX7_clear 4 = .ok (.ifCond .ne 5, 3) := by decide +kernel
theorem dX7_clear_7 : decode cX7_clear 7 = .ok (.iconst (-1), 1) := by decide +kernel
theorem dX7_clear_8 : decode cX7_clear 8 = .ok (.ireturn, 1) := by decide +kernel
theorem dX7_clear_9 : decode cX7_clear 9 = .ok (.aload_n 0, 1) := by decide +kernel
theorem dX7_clear_10 : decode cX7_clear 10 = .ok (.getfield 33, 3) := by decide +kernel
theorem dX7_clear_13 : decode cX7_clear 13 = .ok (.iload_n 1, 1) := by decide +kernel
theorem dX7_clear_14 : decode cX7_clear 14 = .ok (.aaload, 1) := by decide +kernel
theorem dX7_clear_15 : decode cX7_clear 15 = .ok (.getfield 142, 3) := by decide +kernel
theorem dX7_clear_18 : decode cX7_clear 18 = .ok (.istore_n 2, 1) := by decide +kernel
theorem dX7_clear_19 : decode cX7_clear 19 = .ok (.aload_n 0, 1) := by decide +kernel
theorem dX7_clear_20 : decode cX7_clear 20 = .ok (.getfield 33, 3) := by decide +kernel
theorem dX7_clear_23 : decode cX7_clear 23 = .ok (.iload_n 1, 1) := by decide +kernel
theorem dX7_clear_24 : decode cX7_clear 24 = .ok (.aaload, 1) := by decide +kernel
theorem dX7_clear_25 : decode cX7_clear 25 = .ok (.iconst 0, 1) := by decide +kernel
theorem dX7_clear_26 : decode cX7_clear 26 = .ok (.putfield 142, 3) := by decide +kernel
theorem dX7_clear_29 : decode cX7_clear 29 = .ok (.iload_n 2, 1) := by decide +kernel
theorem dX7_clear_30 : decode cX7_clear 30 = .ok (.ireturn, 1) := by decide +kernel
set_option maxHeartbeats 4000000 in
set_option maxRecDepth 100000 in
theorem bX7_clear {a1 : Int32} {r : Int32} {y_gs0 : (Int32)} {y_gs1 : (Int32)} {y_gs2 : (Int32)} (hx : p.tables.exec = Jvm.exec) (hb : c.code = cX7_clear) (hml : c.maxLocals = 3) (hown : s.vm.findClass RX7 = some m.cls) (hts : ∀ w ∈ tw, w.before args s = true) (hK : va_K D vwCl [(cI, .int), (cJ, .long), (cG, .object "WornShapes$Program")] s) (hA : ∀ q, s.heap.size ≤ q → A q) (hR : 1 ≤ R.frames ∧ 20 ≤ R.locals ∧ cells ≤ R.cells ∧ slots ≤ R.slots) (hm : mX7_clear gs0 gs1 gs2 a1 = some (r, y_gs0, y_gs1, y_gs2)) (ls : Array Slot) (hl : lv_has ls 3 [(0, .ref oX), (1, .int a1)]) (hP : va_P D vwCl (wdX cJ cG cI oX oXp oXg oG0 oGa0 oG1 oGa1 oG2 oGa2 oQ oQw oI oR oRh oRm oB oBw oS oSs oF oFr oFs oFc oFw xpi gs0 ga0 gs1 ga1 gs2 ga2 qln qwy ijn rsz rhi rmi bsz bfi bla bar bwi srim sst fw fc fwh fbo fra fst fco fro) H) (hD : va_D A (wdX cJ cG cI oX oXp oXg oG0 oGa0 oG1 oGa1 oG2 oGa2 oQ oQw oI oR oRh oRm oB oBw oS oSs oF oFr oFs oFc oFw xpi gs0 ga0 gs1 ga1 gs2 ga2 qln qwy ijn rsz rhi rmi bsz bfi bla bar bwi srim sst fw fc fwh fbo fra fst fco fro)) (hS : va_S A s.heap H locs) (K : ∀ (pc : Nat) (ls : Array Slot) (H : Heap) (locs : List Loc), decode cX7_clear pc = .ok (.ireturn, 1) → va_P D vwCl (wdX cJ cG cI oX oXp oXg oG0 oGa0 oG1 oGa1 oG2 oGa2 oQ oQw oI oR oRh oRm oB oBw oS oSs oF oFr oFs oFc oFw xpi y_gs0 ga0 y_gs1 ga1 y_gs2 ga2 qln qwy ijn rsz rhi rmi bsz bfi bla bar bwi srim sst fw fc fwh fbo fra fst fco fro) H → va_D A (wdX cJ cG cI oX oXp oXg oG0 oGa0 oG1 oGa1 oG2 oGa2 oQ oQw oI oR oRh oRm oB oBw oS oSs oF oFr oFs oFc oFw xpi y_gs0 ga0 y_gs1 ga1 y_gs2 ga2 qln qwy ijn rsz rhi rmi bsz bfi bla bar bwi srim sst fw fc fwh fbo fra fst fco fro) → va_S A s.heap H locs → W p l e R s m args below meth c H locs cells slots Q (F0 m pc ls [.int r])) : W p l e R s m args below meth c H locs cells slots Q (F0 m 0 ls []) := by
  unfold mX7_clear at hm
  refine lv_iload_n hx hb dX7_clear_0 rfl (lv_at hl 1 rfl) ?_
  refine kX7_isProgram ⟨hx, hb, hml, hown, hts⟩ qw_318 hl.1 ⟨Nat.le_trans (by decide) hR.1, Nat.le_trans (by decide) hR.2.1, hR.2.2⟩ (Nat.le_of_ble_eq_true rfl) dX7_clear_1 ?_
  refine lv_if_ne (tgt := 9) hx hb dX7_clear_4 (by decide) (fun c2 => ?_) (fun c2 => ?_)
  · rw [if_neg c2] at hm
    refine lv_aload_n hx hb dX7_clear_9 rfl (lv_at hl 0 rfl) ?_
    refine va_get (D := D) (ci := 7) (v := .ref oXg) (C := RX7) (T := TX7) (N := 8) hx hb hts tnX7 hown hK hP 0 rfl rfl 3 (by decide) (hts _ qw_320) (fun _ h9 => h9) rfl dX7_clear_10 ?_
    refine lv_iload_n hx hb dX7_clear_13 rfl (lv_at hl 1 rfl) ?_
    obtain ⟨g3, hm⟩ := gd_out hm
    refine va_aldq hx hb hK hP 2 2 rfl rfl g3 dX7_clear_14 ?_
    rw [p3_s3 g3]
    refine va_get (D := D) (ci := 4) (v := .int (s3 a1 gs0 gs1 gs2)) (C := RX4) (T := TX4) (N := 3) hx hb hts tnX4 hown (hK.sub (tys' := [(cI, .int), (cJ, .long)]) [0, 1] rfl) (pick3 g3 hP) 0 rfl rfl 2 (by decide) (hts _ qw_590) (fun _ h9 => h9) rfl dX7_clear_15 ?_
    refine lv_istore_n (lv' := [(2, .int (s3 a1 gs0 gs1 gs2)), (0, .ref oX), (1, .int a1)]) hx hb dX7_clear_18 rfl hl (by decide) rfl (fun ls hl => ?_)
    refine lv_aload_n hx hb dX7_clear_19 rfl (lv_at hl 1 rfl) ?_
    refine va_get (D := D) (ci := 7) (v := .ref oXg) (C := RX7) (T := TX7) (N := 8) hx hb hts tnX7 hown hK hP 0 rfl rfl 3 (by decide) (hts _ qw_320) (fun _ h9 => h9) rfl dX7_clear_20 ?_
    refine lv_iload_n hx hb dX7_clear_23 rfl (lv_at hl 2 rfl) ?_
    obtain ⟨g4, hm⟩ := gd_out hm
    refine va_aldq hx hb hK hP 2 2 rfl rfl g4 dX7_clear_24 ?_
    by_cases c5 : a1 = (0 : Int32)
    · rw [if_pos c5] at hm
      rw [p3_0 c5]
      refine lv_iconst (v := (0 : Int32)) hx hb dX7_clear_25 (by decide) ?_
      refine va_put (D := D) (ci := 4) (v := .int (0 : Int32)) (ty := .int) (C := RX4) (T := TX4) (N := 3) hx hb hts tnX4 tyX4 tyX4_ok nmX4 hown hK hP hD hS 3 rfl rfl 2 (by decide) (hts _ qw_590) (fun _ h9 => h9) rfl (by decide +kernel) rfl rfl (Nat.le_of_ble_eq_true rfl) dX7_clear_26 (fun H locs hP hD hS => ?_)
      have hP : va_P D vwCl (wdX cJ cG cI oX oXp oXg oG0 oGa0 oG1 oGa1 oG2 oGa2 oQ oQw oI oR oRh oRm oB oBw oS oSs oF oFr oFs oFc oFw xpi (0 : Int32) ga0 gs1 ga1 gs2 ga2 qln qwy ijn rsz rhi rmi bsz bfi bla bar bwi srim sst fw fc fwh fbo fra fst fco fro) H := hP
      have hD : va_D A (wdX cJ cG cI oX oXp oXg oG0 oGa0 oG1 oGa1 oG2 oGa2 oQ oQw oI oR oRh oRm oB oBw oS oSs oF oFr oFs oFc oFw xpi (0 : Int32) ga0 gs1 ga1 gs2 ga2 qln qwy ijn rsz rhi rmi bsz bfi bla bar bwi srim sst fw fc fwh fbo fra fst fco fro) := hD
      refine lv_iload_n hx hb dX7_clear_29 rfl (lv_at hl 0 rfl) ?_
      have hm := Option.some.inj hm
      have e9 : r = (s3 a1 gs0 gs1 gs2) := (congrArg (fun q => q.1) hm).symm
      rw [e9] at K
      have e9 : y_gs0 = (0 : Int32) := (congrArg (fun q => q.2.1) hm).symm
      rw [e9] at K
      have e9 : y_gs1 = gs1 := (congrArg (fun q => q.2.2.1) hm).symm
      rw [e9] at K
      have e9 : y_gs2 = gs2 := (congrArg (fun q => q.2.2.2) hm).symm
      rw [e9] at K
      exact K 30 ls _ _ dX7_clear_30 hP hD hS
    rw [if_neg c5] at hm
    by_cases c6 : a1 = (1 : Int32)
    · rw [if_pos c6] at hm
      rw [p3_1 c6]
      refine lv_iconst (v := (0 : Int32)) hx hb dX7_clear_25 (by decide) ?_
      refine va_put (D := D) (ci := 4) (v := .int (0 : Int32)) (ty := .int) (C := RX4) (T := TX4) (N := 3) hx hb hts tnX4 tyX4 tyX4_ok nmX4 hown hK hP hD hS 5 rfl rfl 2 (by decide) (hts _ qw_590) (fun _ h9 => h9) rfl (by decide +kernel) rfl rfl (Nat.le_of_ble_eq_true rfl) dX7_clear_26 (fun H locs hP hD hS => ?_)
      have hP : va_P D vwCl (wdX cJ cG cI oX oXp oXg oG0 oGa0 oG1 oGa1 oG2 oGa2 oQ oQw oI oR oRh oRm oB oBw oS oSs oF oFr oFs oFc oFw xpi gs0 ga0 (0 : Int32) ga1 gs2 ga2 qln qwy ijn rsz rhi rmi bsz bfi bla bar bwi srim sst fw fc fwh fbo fra fst fco fro) H := hP
      have hD : va_D A (wdX cJ cG cI oX oXp oXg oG0 oGa0 oG1 oGa1 oG2 oGa2 oQ oQw oI oR oRh oRm oB oBw oS oSs oF oFr oFs oFc oFw xpi gs0 ga0 (0 : Int32) ga1 gs2 ga2 qln qwy ijn rsz rhi rmi bsz bfi bla bar bwi srim sst fw fc fwh fbo fra fst fco fro) := hD
      refine lv_iload_n hx hb dX7_clear_29 rfl (lv_at hl 0 rfl) ?_
      have hm := Option.some.inj hm
      have e9 : r = (s3 a1 gs0 gs1 gs2) := (congrArg (fun q => q.1) hm).symm
      rw [e9] at K
      have e9 : y_gs0 = gs0 := (congrArg (fun q => q.2.1) hm).symm
      rw [e9] at K
      have e9 : y_gs1 = (0 : Int32) := (congrArg (fun q => q.2.2.1) hm).symm
      rw [e9] at K
      have e9 : y_gs2 = gs2 := (congrArg (fun q => q.2.2.2) hm).symm
      rw [e9] at K
      exact K 30 ls _ _ dX7_clear_30 hP hD hS
    rw [if_neg c6] at hm
    rw [p3_2 g4 c5 c6]
    refine lv_iconst (v := (0 : Int32)) hx hb dX7_clear_25 (by decide) ?_
    refine va_put (D := D) (ci := 4) (v := .int (0 : Int32)) (ty := .int) (C := RX4) (T := TX4) (N := 3) hx hb hts tnX4 tyX4 tyX4_ok nmX4 hown hK hP hD hS 7 rfl rfl 2 (by decide) (hts _ qw_590) (fun _ h9 => h9) rfl (by decide +kernel) rfl rfl (Nat.le_of_ble_eq_true rfl) dX7_clear_26 (fun H locs hP hD hS => ?_)
    have hP : va_P D vwCl (wdX cJ cG cI oX oXp oXg oG0 oGa0 oG1 oGa1 oG2 oGa2 oQ oQw oI oR oRh oRm oB oBw oS oSs oF oFr oFs oFc oFw xpi gs0 ga0 gs1 ga1 (0 : Int32) ga2 qln qwy ijn rsz rhi rmi bsz bfi bla bar bwi srim sst fw fc fwh fbo fra fst fco fro) H := hP
    have hD : va_D A (wdX cJ cG cI oX oXp oXg oG0 oGa0 oG1 oGa1 oG2 oGa2 oQ oQw oI oR oRh oRm oB oBw oS oSs oF oFr oFs oFc oFw xpi gs0 ga0 gs1 ga1 (0 : Int32) ga2 qln qwy ijn rsz rhi rmi bsz bfi bla bar bwi srim sst fw fc fwh fbo fra fst fco fro) := hD
    refine lv_iload_n hx hb dX7_clear_29 rfl (lv_at hl 0 rfl) ?_
    have hm := Option.some.inj hm
    have e9 : r = (s3 a1 gs0 gs1 gs2) := (congrArg (fun q => q.1) hm).symm
    rw [e9] at K
    have e9 : y_gs0 = gs0 := (congrArg (fun q => q.2.1) hm).symm
    rw [e9] at K
    have e9 : y_gs1 = gs1 := (congrArg (fun q => q.2.2.1) hm).symm
    rw [e9] at K
    have e9 : y_gs2 = (0 : Int32) := (congrArg (fun q => q.2.2.2) hm).symm
    rw [e9] at K
    exact K 30 ls _ _ dX7_clear_30 hP hD hS
  · rw [if_pos c2] at hm
    refine lv_iconst (v := (-1 : Int32)) hx hb dX7_clear_7 (by decide) ?_
    have hm := Option.some.inj hm
    have e9 : r = (-1 : Int32) := (congrArg (fun q => q.1) hm).symm
    rw [e9] at K
    have e9 : y_gs0 = gs0 := (congrArg (fun q => q.2.1) hm).symm
    rw [e9] at K
    have e9 : y_gs1 = gs1 := (congrArg (fun q => q.2.2.1) hm).symm
    rw [e9] at K
    have e9 : y_gs2 = gs2 := (congrArg (fun q => q.2.2.2) hm).symm
    rw [e9] at K
    exact K 8 ls _ _ dX7_clear_8 hP hD hS
set_option maxHeartbeats 4000000 in
set_option maxRecDepth 100000 in
theorem tX7_clear (l : Launch) {D : va_G} (sz : Nat) {a1 : Int32} {r : Int32} {y_gs0 : (Int32)} {y_gs1 : (Int32)} {y_gs2 : (Int32)} (hm : mX7_clear gs0 gs1 gs2 a1 = some (r, y_gs0, y_gs1, y_gs2)) : Met l yX7_clear (.code yX7_clear cX7_clear 3 (some .int) :: tw) ({ frames := 1, cells := 0, slots := 0, locals := 20 } : Room) (wrP D [.ref oX, .int a1] (wdX cJ cG cI oX oXp oXg oG0 oGa0 oG1 oGa1 oG2 oGa2 oQ oQw oI oR oRh oRm oB oBw oS oSs oF oFr oFs oFc oFw xpi gs0 ga0 gs1 ga1 gs2 ga2 qln qwy ijn rsz rhi rmi bsz bfi bla bar bwi srim sst fw fc fwh fbo fra fst fco fro) [(cI, .int), (cJ, .long), (cG, .object "WornShapes$Program")] sz) (va_Qi (fun q (_ : Unit) => q = r) (fun (_ : Unit) (t : State) => va_P D vwCl (wdX cJ cG cI oX oXp oXg oG0 oGa0 oG1 oGa1 oG2 oGa2 oQ oQw oI oR oRh oRm oB oBw oS oSs oF oFr oFs oFc oFw xpi y_gs0 ga0 y_gs1 ga1 y_gs2 ga2 qln qwy ijn rsz rhi rmi bsz bfi bla bar bwi srim sst fw fc fwh fbo fra fst fco fro) t.heap ∧ va_K D vwCl [(cI, .int), (cJ, .long), (cG, .object "WornShapes$Program")] t ∧ va_D (va_A (wdX cJ cG cI oX oXp oXg oG0 oGa0 oG1 oGa1 oG2 oGa2 oQ oQw oI oR oRh oRm oB oBw oS oSs oF oFr oFs oFc oFw xpi gs0 ga0 gs1 ga1 gs2 ga2 qln qwy ijn rsz rhi rmi bsz bfi bla bar bwi srim sst fw fc fwh fbo fra fst fco fro) sz) (wdX cJ cG cI oX oXp oXg oG0 oGa0 oG1 oGa1 oG2 oGa2 oQ oQw oI oR oRh oRm oB oBw oS oSs oF oFr oFs oFc oFw xpi y_gs0 ga0 y_gs1 ga1 y_gs2 ga2 qln qwy ijn rsz rhi rmi bsz bfi bla bar bwi srim sst fw fc fwh fbo fra fst fco fro)) (va_A (wdX cJ cG cI oX oXp oXg oG0 oGa0 oG1 oGa1 oG2 oGa2 oQ oQw oI oR oRh oRm oB oBw oS oSs oF oFr oFs oFc oFw xpi gs0 ga0 gs1 ga1 gs2 ga2 qln qwy ijn rsz rhi rmi bsz bfi bla bar bwi srim sst fw fc fwh fbo fra fst fco fro) sz)) 0 0 (va_A (wdX cJ cG cI oX oXp oXg oG0 oGa0 oG1 oGa1 oG2 oGa2 oQ oQw oI oR oRh oRm oB oBw oS oSs oF oFr oFs oFc oFw xpi gs0 ga0 gs1 ga1 gs2 ga2 qln qwy ijn rsz rhi rmi bsz bfi bla bar bwi srim sst fw fc fwh fbo fra fst fco fro) sz) := by
  refine Met.ofW (cc := cX7_clear) (maxL := 3) (ret := (some .int)) (by decide) rfl ?_
  intro p e s m args below meth c s₁ B hml hv
  obtain ⟨rfl, hsz, hP, hK, hD0⟩ := hv
  have hx := B.exec
  have hb := B.bytes
  have hr := B.returns
  have hts : ∀ w ∈ tw, w.before _ s = true := fun w h => atoms_spec (ws := .code yX7_clear cX7_clear 3 (some .int) :: tw) B.pre w (List.mem_cons_of_mem _ h)
  have hown : s.vm.findClass RX7 = some m.cls := findClass_of_methodNamed B.named
  have hlocks := B.notSynchronized
  subst hsz
  have hD := hD0.self (sz := s.heap.size)
  have hl := lv_entry ([.ref oX, .int a1]) (n := 3) (Nat.le_of_ble_eq_true rfl)
  rw [lg_entry_eq]
  generalize (lg_sl ([.ref oX, .int a1]) ++ List.replicate (3 - (lg_sl ([.ref oX, .int a1])).length) Slot.unset).toArray = ls at hl ⊢
  refine bX7_clear hx hb hml hown hts hK (fun q h => Or.inr h) ⟨Nat.le_of_ble_eq_true rfl, Nat.le_of_ble_eq_true rfl, Nat.zero_le _, Nat.zero_le _⟩ hm ls hl hP hD va_S.rf (fun pc ls H locs hd hP hD hS => ?_)
  exact W.iret hx hb hr (fun t ht hW => ⟨⟨r, (), rfl, rfl, by rw [ht]; exact hP, va_K.moved hW.alike hK, hD⟩, hS.F ht⟩) hS.2.2 hd
set_option maxHeartbeats 4000000 in
set_option maxRecDepth 100000 in
theorem kX7_clear {own : String} {cc : ByteArray} {nL idx pc : Nat} {ls : Array Slot} {rest : List Value} {ws wr : va_W} {a1 : Int32} {r : Int32} {y_gs0 : (Int32)} {y_gs1 : (Int32)} {y_gs2 : (Int32)} (fx : CallFix p m c cc nL s args tw own) (hq : Cond.methodLink own idx yX7_clear ∈ tw) (isC isR : List Nat) (hC : isC.map (fun i => ws[i]?) = ((wdX cJ cG cI oX oXp oXg oG0 oGa0 oG1 oGa1 oG2 oGa2 oQ oQw oI oR oRh oRm oB oBw oS oSs oF oFr oFs oFc oFw xpi gs0 ga0 gs1 ga1 gs2 ga2 qln qwy ijn rsz rhi rmi bsz bfi bla bar bwi srim sst fw fc fwh fbo fra fst fco fro) : va_W).map some) (hRr : isR.map (fun i => ws[i]?) = wr.map some) (hnC : va_nd isC = true) (hn : va_nd isR = true) (hdis : ∀ i ∈ isR, i ∉ isC) (hK : va_K D vwCl [(cI, .int), (cJ, .long), (cG, .object "WornShapes$Program")] s) (hm : mX7_clear gs0 gs1 gs2 a1 = some (r, y_gs0, y_gs1, y_gs2)) (hsz : ls.size = nL) (hR : 2 ≤ R.frames ∧ 42 ≤ R.locals ∧ cells ≤ R.cells ∧ slots ≤ R.slots) (hst : (rest.map fun v => v.category).sum ≤ 8) (hd : decode cc pc = .ok (.invokevirtual idx, 3)) (hP : va_P D vwCl ws H) (hD : va_D A ws) (hS : va_S A s.heap H locs) (hA : ∀ q, s.heap.size ≤ q → A q) (kk : ∀ (H : Heap) (locs : List Loc), va_P D vwCl (wr ++ (wdX cJ cG cI oX oXp oXg oG0 oGa0 oG1 oGa1 oG2 oGa2 oQ oQw oI oR oRh oRm oB oBw oS oSs oF oFr oFs oFc oFw xpi y_gs0 ga0 y_gs1 ga1 y_gs2 ga2 qln qwy ijn rsz rhi rmi bsz bfi bla bar bwi srim sst fw fc fwh fbo fra fst fco fro)) H → va_D A (wr ++ (wdX cJ cG cI oX oXp oXg oG0 oGa0 oG1 oGa1 oG2 oGa2 oQ oQw oI oR oRh oRm oB oBw oS oSs oF oFr oFs oFc oFw xpi y_gs0 ga0 y_gs1 ga1 y_gs2 ga2 qln qwy ijn rsz rhi rmi bsz bfi bla bar bwi srim sst fw fc fwh fbo fra fst fco fro)) → va_S A s.heap H locs → W p l e R s m args below meth c H locs cells slots Q (F0 m (pc + 3) ls (.int r :: rest))) : W p l e R s m args below meth c H locs cells slots Q (F0 m pc ls (.int a1 :: .ref oX :: rest)) := by
  have hPc := va_P.subM hP isC hC
  have hDc := hD.sub isC hnC hC
  have hFc := va_free (wc := (wdX cJ cG cI oX oXp oXg oG0 oGa0 oG1 oGa1 oG2 oGa2 oQ oQw oI oR oRh oRm oB oBw oS oSs oF oFr oFs oFc oFw xpi gs0 ga0 gs1 ga1 gs2 ga2 qln qwy ijn rsz rhi rmi bsz bfi bla bar bwi srim sst fw fc fwh fbo fra fst fco fro)) hD hS hA isC hC
  refine va_calli (va_runV (As := [.int a1]) (rest := rest) fx (tX7_clear l H.size hm) (cwV 1 fx.2.2.2.2 (tw_V hq qw_594 qw_595 qw_288 qw_596) rfl rfl rfl (by decide +kernel) ⟨hR.1, hR.2.1⟩) ⟨wrP_bl, va_recv hK hPc (ci := 7) (q0 := 0) rfl rfl, wrP_ok hPc hK hDc⟩ rfl rfl hsz rfl (lv_room hst) hd ⟨hR.2.2.1, hR.2.2.2⟩) hS (fun q _ h => hFc q h) hFc (fun r9 u t H1 locs ht hvm hw hB hz1 hk1 hS => ?_)
  obtain ⟨hP1, hK1, hD1⟩ := hB
  rw [ht] at hP1
  rw [hw]
  obtain ⟨hP2, hD2⟩ := va_join (wr := wr) (w1 := (wdX cJ cG cI oX oXp oXg oG0 oGa0 oG1 oGa1 oG2 oGa2 oQ oQw oI oR oRh oRm oB oBw oS oSs oF oFr oFs oFc oFw xpi y_gs0 ga0 y_gs1 ga1 y_gs2 ga2 qln qwy ijn rsz rhi rmi bsz bfi bla bar bwi srim sst fw fc fwh fbo fra fst fco fro)) hP hD isC isR hC hRr hn hdis hk1 hFc hP1 hD1
  exact kk H1 locs hP2 hD2 hS
end
